def updG (g : sg) (a : Nat) (s : Int32) (cs : Nat → Nat) (j : Nat) : sg := (g.1, (fun f b i => if f = 642 ∧ b = a ∧ i = 0 then s else if f = 643 ∧ b = a ∧ i < j then nI (cs i) - 1 else g.2.1 f b i), g.2.2)
def updU (u : MS) (i r : Nat) (s : Int32) (cs : Nat → Nat) (j : Nat) : MS := fun f x => if f = 82 ∧ x = 50 * i + r then s else if f = 83 ∧ 250 * i + 5 * r ≤ x ∧ x < 250 * i + 5 * r + j then nI (cs (x - (250 * i + 5 * r))) else u f x
theorem updG_0 (g : sg) (a : Nat) (s : Int32) (cs : Nat → Nat) : pI g 642 a 0 s = updG g a s cs 0 := by
  unfold pI updG
  refine Prod.ext rfl (Prod.ext ?_ rfl)
  funext f b i
  dsimp only
  by_cases h : f = 642 ∧ b = a ∧ i = 0
  · rw [if_pos h, if_pos h]
  · rw [if_neg h, if_neg h, if_neg (by omega)]
theorem updG_s (g : sg) (a : Nat) (s : Int32) (cs : Nat → Nat) (j : Nat) : pI (updG g a s cs j) 643 a j (nI (cs j) - 1) = updG g a s cs (j + 1) := by
  unfold pI updG
  refine Prod.ext rfl (Prod.ext ?_ rfl)
  funext f b i
  dsimp only
  by_cases h : f = 643 ∧ b = a ∧ i = j
  · obtain ⟨rfl, rfl, rfl⟩ := h
    rw [if_pos ⟨rfl, rfl, rfl⟩, if_neg (by omega), if_pos ⟨rfl, rfl, by omega⟩]
  · rw [if_neg h]
    by_cases h1 : f = 642 ∧ b = a ∧ i = 0
    · rw [if_pos h1, if_pos h1]
    · rw [if_neg h1, if_neg h1]
      by_cases h2 : f = 643 ∧ b = a ∧ i < j
      · rw [if_pos h2, if_pos ⟨h2.1, h2.2.1, by omega⟩]
      · rw [if_neg h2, if_neg]
        rintro ⟨z1, z2, z3⟩
        by_cases hij : i = j
        · exact h ⟨z1, z2, hij⟩
        · exact h2 ⟨z1, z2, by omega⟩
theorem updU_0 (u : MS) (i r : Nat) (s : Int32) (cs : Nat → Nat) : mu u 82 (50 * i + r) s = updU u i r s cs 0 := by
  funext f x
  unfold mu updU
  by_cases h : f = 82 ∧ x = 50 * i + r
  · rw [if_pos h, if_pos h]
  · rw [if_neg h, if_neg h, if_neg (by omega)]
theorem updU_s (u : MS) (i r : Nat) (s : Int32) (cs : Nat → Nat) (j : Nat) : mu (updU u i r s cs j) 83 (250 * i + 5 * r + j) (nI (cs j)) = updU u i r s cs (j + 1) := by
  funext f x
  unfold mu updU
  by_cases h : f = 83 ∧ x = 250 * i + 5 * r + j
  · obtain ⟨rfl, rfl⟩ := h
    rw [if_pos ⟨rfl, rfl⟩, if_neg (by omega), if_pos ⟨rfl, by omega, by omega⟩, show 250 * i + 5 * r + j - (250 * i + 5 * r) = j by omega]
  · rw [if_neg h]
    by_cases h1 : f = 82 ∧ x = 50 * i + r
    · rw [if_pos h1, if_pos h1]
    · rw [if_neg h1, if_neg h1]
      by_cases h2 : f = 83 ∧ 250 * i + 5 * r ≤ x ∧ x < 250 * i + 5 * r + j
      · rw [if_pos h2, if_pos ⟨h2.1, h2.2.1, by omega⟩]
      · rw [if_neg h2, if_neg]
        rintro ⟨z1, z2, z3⟩
        by_cases hx : x = 250 * i + 5 * r + j
        · exact h ⟨z1, hx⟩
        · exact h2 ⟨z1, z2, by omega⟩
theorem updU_c {u : MS} {i r : Nat} {s : Int32} {f c : Nat} (hf : f < 5) : mu (updU u i r s (fun _ => 0) 5) 83 (250 * i + 5 * r + f) (nI c) = updU u i r s (fun k => if k = f then c else 0) 5 := by
  funext k x
  unfold mu updU
  by_cases h : k = 83 ∧ x = 250 * i + 5 * r + f
  · obtain ⟨rfl, rfl⟩ := h
    rw [if_pos ⟨rfl, rfl⟩, if_neg (by omega), if_pos ⟨rfl, by omega, by omega⟩]
    dsimp only
    rw [if_pos (by omega)]
  · rw [if_neg h]
    by_cases h1 : k = 82 ∧ x = 50 * i + r
    · rw [if_pos h1, if_pos h1]
    · rw [if_neg h1, if_neg h1]
      by_cases h2 : k = 83 ∧ 250 * i + 5 * r ≤ x ∧ x < 250 * i + 5 * r + 5
      · rw [if_pos h2, if_pos h2]
        dsimp only
        rw [if_neg (fun z => h ⟨h2.1, by omega⟩)]
      · rw [if_neg h2, if_neg h2]
theorem c_Mod_renew {u : MS} {i r : Nat} {s : Int32} {Z : MS → Prop} (hi : i < 5) (hr : r < 50) (h : Z (updU u i r s (fun _ => 0) 5)) : mMT M_Mod_renew [qr 1 (some 0), qi (nI i), qi (nI r), qi s] u (mV Z) := by
  have e50 : (50 : Int32) * nI i + nI r = nI (50 * i + r) := by rw [nl_50, pk_mul, nI_add]
  refine mt_Mod_renew ?_
  rw [e50, nI_clamp (show 50 * i + r < 2 ^ 31 by omega)]
  refine ⟨(vpi (by omega)).mpr (by omega), fun u1 hu1 => ?_⟩
  rw [updU_0 u i r s (fun _ => 0)] at hu1
  subst hu1
  have key : ∀ j, j ≤ 5 → mWP M_Mod_renew 15 [qr 1 (some 0), qi (nI i), qi (nI r), none, qi (nI j)] [] (updU u i r s (fun _ => 0) j) (mV Z) := by
    refine dn 5 ?_ ?_
    · exact mb_Mod_renew_15 ⟨fun _ => h, fun c => absurd (by decide) c⟩
    · intro j hj ih
      have ei : (250 : Int32) * nI i + (5 : Int32) * nI r + nI j = nI (250 * i + 5 * r + j) := by rw [nl_250, nl_5, pk_mul, pk_mul, nI_add, nI_add]
      refine mb_Mod_renew_15 ⟨fun c => ?_, fun _ => ?_⟩
      · rw [nl_5, nI_leI (by omega) (by omega)] at c
        omega
      · rw [ei, nI_clamp (show 250 * i + 5 * r + j < 2 ^ 31 by omega), nI_1]
        refine ⟨(vpi (by omega)).mpr (by omega), fun u2 hu2 => ?_⟩
        have e0 := updU_s u i r s (fun _ => 0) j
        rw [nI_0] at e0
        rw [e0] at hu2
        subst hu2
        exact ih
  exact key 0 (Nat.zero_le _)
/-- the costs of a row that begins anew -/
def bcs (F e k : Nat) : Nat := if k = F then (if e = 99 then 0 else e + 1) else 0
theorem c_Route_begin {X : Nat × (Nat → Int32)} {kk a F e : Nat} {g : sg} {s : Int32} {Z : sg → Prop} (hF : F < 5) (he : e ≤ 99) (hA : gA g 643 a = some 5) (h : Z (updG g a s (bcs F e) 5)) : nnMT X M_Route_begin kk [qr 10 (some a), qi s, qi (nI F), qi (nI e)] g (zV Z) := by
  refine t_Route_begin fun g1 h1 => ?_
  rw [updG_0 g a s (bcs F e)] at h1
  subst h1
  have key : ∀ j, j ≤ 5 → nnWP X M_Route_begin kk 8 [qr 10 (some a), none, qi (nI F), qi (nI e), qi (nI j)] [] (updG g a s (bcs F e) j) (zV Z) := by
    refine dn 5 ?_ ?_
    · exact b_Route_begin_8 ⟨fun _ => h, fun c => absurd (by decide) c⟩
    · intro j hj ih
      have es := updG_s g a s (bcs F e) j
      have vj : vp_in (nI j) 5 := (vpi (by omega)).mpr hj
      refine b_Route_begin_8 ⟨fun c => ?_, fun _ => ?_⟩
      · rw [nl_5, nI_leI (by omega) (by omega)] at c
        omega
      · rw [nI_clamp (show j < 2 ^ 31 by omega), nI_1]
        refine ⟨hA, fun c1 => ⟨vj, fun g1 h1 => ?_⟩, fun c1 => ⟨fun c2 => ⟨vj, fun g1 h1 => ?_⟩, fun c2 => ⟨vj, fun g1 h1 => ?_⟩⟩⟩
        · rw [nI_eq (by omega) (by omega)] at c1
          have z : nI (bcs F e j) - 1 = -1 := by
            unfold bcs
            rw [if_neg c1]; decide
          rw [z] at es
          rw [es] at h1
          subst h1
          exact ih
        · rw [nI_eq (by omega) (by omega)] at c1
          rw [nl_99, nI_eq (by omega) (by omega)] at c2
          have z : nI (bcs F e j) - 1 = -1 := by
            unfold bcs
            rw [if_pos c1, if_pos c2]; decide
          rw [z] at es
          rw [es] at h1
          subst h1
          exact ih
        · rw [nI_eq (by omega) (by omega)] at c1
          rw [nl_99, nI_eq (by omega) (by omega)] at c2
          have z : nI (bcs F e j) - 1 = nI e := by
            unfold bcs
            rw [if_pos c1, if_neg c2, nI_sub1]
          rw [z] at es
          rw [es] at h1
          subst h1
          exact ih
  exact key 0 (Nat.zero_le _)
theorem c_Mod_least {u : MS} {i r R : Nat} {Z : Int32 → MS → Prop} (hi : i < 5) (hr : r < R) (hR : R ≤ 50) (hC : okC u R) (h : Z (nI (mf (fun f => (u 83 (250 * i + 5 * r + f)).toNatClampNeg) 5)) u) : mMT M_Mod_least [qr 1 (some 0), qi (nI i), qi (nI r)] u (mI Z) := by
  refine mt_Mod_least ?_
  have hle : ∀ f, f < 5 → (u 83 (250 * i + 5 * r + f)).toNatClampNeg ≤ 100 := by
    intro f hf
    obtain ⟨c, c1, c2⟩ := hC i r f hi hr hf
    rw [c2, nI_clamp (by omega)]; exact c1
  have key : ∀ f, f ≤ 5 → mWP M_Mod_least 5 [qr 1 (some 0), qi (nI i), qi (nI r), qi (nI (mf (fun f => (u 83 (250 * i + 5 * r + f)).toNatClampNeg) f)), qi (nI f), none] [] u (mI Z) := by
    refine dn 5 ?_ ?_
    · exact mb_Mod_least_5 ⟨fun _ => h, fun c => absurd (by decide) c⟩
    · intro f hf ih
      have hb : mf (fun f => (u 83 (250 * i + 5 * r + f)).toNatClampNeg) f ≤ 100 := mf_le fun f' hf' => hle f' (by omega)
      have es : mf (fun f => (u 83 (250 * i + 5 * r + f)).toNatClampNeg) (f + 1) = mst (mf (fun f => (u 83 (250 * i + 5 * r + f)).toNatClampNeg) f) ((u 83 (250 * i + 5 * r + f)).toNatClampNeg) := rfl
      generalize hB : mf (fun f => (u 83 (250 * i + 5 * r + f)).toNatClampNeg) f = B at hb es
      obtain ⟨c, c1, c2⟩ := hC i r f hi hr hf
      rw [es, c2, nI_clamp (show c < 2 ^ 31 by omega)] at ih
      have ei : (250 : Int32) * nI i + (5 : Int32) * nI r + nI f = nI (250 * i + 5 * r + f) := by rw [nl_250, nl_5, pk_mul, pk_mul, nI_add, nI_add]
      refine mb_Mod_least_5 ⟨fun q => ?_, fun _ => ?_⟩
      · rw [nl_5, nI_leI (by omega) (by omega)] at q
        omega
      · rw [ei, nI_clamp (show 250 * i + 5 * r + f < 2 ^ 31 by omega), c2, nI_1]
        refine ⟨(vpi (by omega)).mpr (by omega), fun q => ?_, fun q => ⟨fun q2 => ?_, fun q2 => ⟨fun q3 => ?_, fun q3 => ?_⟩⟩⟩
        · rw [nI_le0 (by omega)] at q
          exact meq ih (by simp [mst, q])
        · rw [nI_le0 (by omega)] at q
          rw [nl_0, nI_eq (by omega) (by decide)] at q2
          exact meq ih (by simp [mst, q2, show 0 < c by omega])
        · rw [nI_le0 (by omega)] at q
          rw [nl_0, nI_eq (by omega) (by decide)] at q2
          rw [nI_leI (by omega) (by omega)] at q3
          exact meq ih (by simp [mst, q2, show ¬ c < B by omega])
        · rw [nI_le0 (by omega)] at q
          rw [nl_0, nI_eq (by omega) (by decide)] at q2
          rw [nI_leI (by omega) (by omega)] at q3
          exact meq ih (by simp [mst, q2, show 0 < c by omega, show c < B by omega])
  exact key 0 (Nat.zero_le _)
theorem updG_I {g : sg} {a : Nat} {s : Int32} {cs : Nat → Nat} {j : Nat} {f b i : Nat} (h : ¬ ((f = 642 ∨ f = 643) ∧ b = a)) : gI (updG g a s cs j) f b i = gI g f b i := by
  show (if f = 642 ∧ b = a ∧ i = 0 then s else if f = 643 ∧ b = a ∧ i < j then nI (cs i) - 1 else g.2.1 f b i) = _
  rw [if_neg (fun z => h ⟨Or.inl z.1, z.2.1⟩), if_neg (fun z => h ⟨Or.inr z.1, z.2.1⟩)]
  rfl
theorem rR_upd {R i m j : Nat} {ρ π : Nat → Nat} {g : sg} {u : MS} {s : Int32} {cs : Nat → Nat} (h : rR R g u) (hR : R ≤ 50) (hi : i < 5) (hn : rRn R i m ρ π g u) (hj : j < m) (hc : ∀ f, f < 5 → cs f ≤ 100) (hown : u 80 (π j) = nI i → ∀ f, f < 4 → cs f = 0) : rR R (updG g (ρ j) s cs 5) (updU u i (π j) s cs 5) := by
  have hn0 := hn
  obtain ⟨h1, h2, h3, h4, h5, h6⟩ := hn
  have e80 : updU u i (π j) s cs 5 80 = u 80 := rfl
  have e81 : updU u i (π j) s cs 5 81 = u 81 := rfl
  have hpj := (h3 j hj).2.2.2.1
  have hm50 : m ≤ 50 := by omega
  refine ⟨fun i' hi' => ?_, h.2.1, fun i' r hi' hr hr2 => ?_⟩
  · have body : ∀ (m' : Nat) (ρ' π' : Nat → Nat), rRn R i' m' ρ' π' g u → (∀ k, k < m' → (i' = i ∧ ρ' k = ρ k ∧ π' k = π k ∧ k < m) ∨ i' ≠ i) → (i' = i → ∀ k, k < m → ∃ k', k' < m' ∧ π' k' = π k) → rRn R i' m' ρ' π' (updG g (ρ j) s cs 5) (updU u i (π j) s cs 5) := by
      intro m' ρ' π' hb hsame hback
      have hb0 := hb
      obtain ⟨b1, b2', b3, b4, b5, b6⟩ := hb
      refine ⟨b1, b2', fun k hk => ?_, b4, fun r hr hno => ?_, fun r hr ho => ?_⟩
      · obtain ⟨r1, r2, r3, r4, r5, r6, r7, r8⟩ := b3 k hk
        have e640 : gI (updG g (ρ j) s cs 5) 640 (ρ' k) 0 = gI g 640 (ρ' k) 0 := rfl
        have e641 : gI (updG g (ρ j) s cs 5) 641 (ρ' k) 0 = gI g 641 (ρ' k) 0 := rfl
        by_cases hsame' : i' = i ∧ k = j ∧ ρ' k = ρ j ∧ π' k = π j
        · obtain ⟨rfl, rfl, q1, q2⟩ := hsame'
          refine ⟨r1, r2, r3, r4, r5, r6, ?_, fun f hf => ⟨cs f, hc f hf, ?_, ?_⟩⟩
          · rw [q1, q2]
            show (if (642 : Nat) = 642 ∧ ρ k = ρ k ∧ 0 = 0 then s else _) = updU u i' (π k) s cs 5 82 (50 * i' + π k)
            rw [if_pos ⟨rfl, rfl, rfl⟩]
            unfold updU
            rw [if_pos ⟨rfl, rfl⟩]
          · rw [q2]
            unfold updU
            rw [if_neg (by omega), if_pos ⟨rfl, by omega, by omega⟩]
            congr 2; omega
          · rw [q1]
            show (if (643 : Nat) = 642 ∧ ρ k = ρ k ∧ f = 0 then s else if (643 : Nat) = 643 ∧ ρ k = ρ k ∧ f < 5 then nI (cs f) - 1 else _) = _
            rw [if_neg (by omega), if_pos ⟨rfl, rfl, hf⟩]
        · have hne : ρ' k ≠ ρ j := by
            intro e
            have := h.2.1 i' k i j (ρ j) m' m hi' hi b2' h2 (by omega) hm50 hk hj (by rw [r1, e]) (h3 j hj).1
            obtain ⟨rfl, rfl⟩ := this
            rcases hsame k hk with ⟨-, z1, z2, -⟩ | z
            · exact hsame' ⟨rfl, rfl, z1, z2⟩
            · exact z rfl
          have hpi : ¬ (i' = i ∧ π' k = π j) := by
            rintro ⟨rfl, e⟩
            rcases hsame k hk with ⟨-, z1, z2, z3⟩ | z
            · rw [z2] at e
              have := h4 k j z3 hj e
              subst this
              exact hne z1
            · exact z rfl
          refine ⟨r1, r2, r3, r4, r5, r6, ?_, fun f hf => ?_⟩
          · rw [updG_I (fun z => hne z.2)]
            unfold updU
            rw [if_neg (fun z => hpi (by omega)), if_neg (by omega)]
            exact r7
          · obtain ⟨c, c1, c2, c3⟩ := r8 f hf
            refine ⟨c, c1, ?_, by rw [updG_I (fun z => hne z.2)]; exact c3⟩
            unfold updU
            rw [if_neg (by omega), if_neg (fun z => hpi (by omega))]
            exact c2
      · obtain ⟨z1, z2⟩ := b5 r hr hno
        have hpi : ¬ (i' = i ∧ r = π j) := by
          rintro ⟨rfl, e⟩
          obtain ⟨k', hk', e'⟩ := hback rfl j hj
          exact hno k' hk' (by rw [e', e])
        refine ⟨?_, fun f hf => ?_⟩
        · unfold updU
          rw [if_neg (fun z => hpi (by omega)), if_neg (by omega)]
          exact z1
        · unfold updU
          rw [if_neg (by omega), if_neg (fun z => hpi (by omega))]
          exact z2 f hf
      · obtain ⟨k1, k2⟩ := b6 r hr ho
        refine ⟨k1, fun f hf => ?_⟩
        by_cases hpi : i' = i ∧ r = π j
        · obtain ⟨rfl, rfl⟩ := hpi
          unfold updU
          rw [if_neg (by omega), if_pos ⟨rfl, by omega, by omega⟩, show 250 * i' + 5 * π j + f - (250 * i' + 5 * π j) = f by omega, hown ho f hf]
          rfl
        · unfold updU
          rw [if_neg (by omega), if_neg (fun z => hpi (by omega))]
          exact k2 f hf
    by_cases hc' : i' = i
    · subst hc'
      exact ⟨m, ρ, π, body m ρ π hn0 (fun k hk => Or.inl ⟨rfl, rfl, rfl, hk⟩) (fun _ k hk => ⟨k, hk, rfl⟩)⟩
    · obtain ⟨m', ρ', π', hn'⟩ := h.1 i' hi'
      exact ⟨m', ρ', π', body m' ρ' π' hn' (fun k hk => Or.inr hc') (fun z => absurd z hc')⟩
  · obtain ⟨z1, z2⟩ := h.2.2 i' r hi' hr hr2
    refine ⟨?_, fun f hf => ?_⟩
    · unfold updU
      rw [if_neg (by omega), if_neg (by omega)]
      exact z1
    · unfold updU
      rw [if_neg (by omega), if_neg (by omega)]
      exact z2 f hf
