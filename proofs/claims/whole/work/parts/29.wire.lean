/-! putting on and taking from a wire, both sides -/
def putU (u : MS) (e : Nat) (k a b c d : Int32) : MS := if u 74 e = 0 ∨ u 75 e = 0 ∨ u 76 e = 8 then u else
  mu (mu (mu (mu (mu (mu u 77 (40 * e + 5 * (u 76 e).toNatClampNeg) k) 77 (40 * e + 5 * (u 76 e).toNatClampNeg + 1) a) 77 (40 * e + 5 * (u 76 e).toNatClampNeg + 2) b) 77 (40 * e + 5 * (u 76 e).toNatClampNeg + 3) c) 77 (40 * e + 5 * (u 76 e).toNatClampNeg + 4) d) 76 e (nI ((u 76 e).toNatClampNeg + 1))
def putG (g : sg) (e p : Nat) : sg := if gI g 194 e 0 = 0 ∨ ¬ gI g 196 e 0 < 8 then g else pI (pR g 195 e (gI g 196 e 0).toNatClampNeg (some p)) 196 e 0 (nI ((gI g 196 e 0).toNatClampNeg + 1))
theorem putU_at {u : MS} {e : Nat} {k a b c d : Int32} {f : Nat} (h6 : f ≠ 76) (h7 : f ≠ 77) : putU u e k a b c d f = u f := by
  unfold putU
  split
  · rfl
  · funext i
    simp [mu_at, h6, h7]
theorem putG_I {g : sg} {e p f : Nat} (h : f ≠ 196) : gI (putG g e p) f = gI g f := by
  unfold putG
  split
  · rfl
  · funext a i
    rw [gI_pI, if_neg (fun z => h z.1)]
    rfl
theorem putG_R {g : sg} {e p f : Nat} (h : f ≠ 195) : gR (putG g e p) f = gR g f := by
  unfold putG
  split
  · rfl
  · funext a i
    rw [gR_pI, gR_pR, if_neg (fun z => h z.1)]
theorem putG_A {g : sg} {e p f a : Nat} : gA (putG g e p) f a = gA g f a := by
  unfold putG
  split <;> rfl
theorem putG_C {g : sg} {e p c : Nat} : gC (putG g e p) c = gC g c := by
  unfold putG
  split <;> rfl
theorem c_Mod_put {u : MS} {e w : Nat} {k a b c d : Int32} {Z : MS → Prop} (he : e < 20) (hw : w ≤ 8) (h76 : u 76 e = nI w) (h : Z (putU u e k a b c d)) : mMT M_Mod_put [qr 1 (some 0), qi (nI e), qi k, qi a, qi b, qi c, qi d] u (mV Z) := by
  have l1 : (nI e).toNatClampNeg = e := nI_clamp (by omega)
  have l2 : (nI w).toNatClampNeg = w := nI_clamp (by omega)
  refine mt_Mod_put ⟨(vpi (by omega)).mpr he, ?_, ?_⟩
  · rw [l1]
    intro c1
    have : putU u e k a b c d = u := if_pos (Or.inl c1)
    rw [← this]; exact h
  · rw [l1]
    refine fun c1 => ⟨fun c2 => ?_, fun c2 => ⟨fun c3 => ?_, fun c3 => ?_⟩⟩
    · have : putU u e k a b c d = u := if_pos (Or.inr (Or.inl c2))
      rw [← this]; exact h
    · have hp : putU u e k a b c d = _ := if_neg (by rintro (z | z | z); exact c1 z; exact c2 z; exact c3 z)
      rw [hp, h76, l2] at h
      have w8 : w < 8 := by
        rcases Nat.lt_or_ge w 8 with hh | hh
        · exact hh
        · exact absurd (by rw [h76, show w = 8 by omega]; rfl) c3
      have eb : (40 : Int32) * nI e + (5 : Int32) * u 76 e = nI (40 * e + 5 * w) := by rw [h76, nl_40, nl_5, pk_mul, pk_mul, nI_add]
      have e1 : nI (40 * e + 5 * w) + 1 = nI (40 * e + 5 * w + 1) := nI_1 _
      have e2 : nI (40 * e + 5 * w) + 2 = nI (40 * e + 5 * w + 2) := nI_add _ 2
      have e3 : nI (40 * e + 5 * w) + 3 = nI (40 * e + 5 * w + 3) := nI_add _ 3
      have e4 : nI (40 * e + 5 * w) + 4 = nI (40 * e + 5 * w + 4) := nI_add _ 4
      rw [eb, e1, e2, e3, e4, nI_clamp (show 40 * e + 5 * w < 2 ^ 31 by omega), nI_clamp (show 40 * e + 5 * w + 1 < 2 ^ 31 by omega), nI_clamp (show 40 * e + 5 * w + 2 < 2 ^ 31 by omega), nI_clamp (show 40 * e + 5 * w + 3 < 2 ^ 31 by omega), nI_clamp (show 40 * e + 5 * w + 4 < 2 ^ 31 by omega)]
      refine ⟨(vpi (by omega)).mpr (by omega), fun u1 hu1 => ⟨(vpi (by omega)).mpr (by omega), fun u2 hu2 => ⟨(vpi (by omega)).mpr (by omega), fun u3 hu3 => ⟨(vpi (by omega)).mpr (by omega), fun u4 hu4 => ⟨(vpi (by omega)).mpr (by omega), fun u5 hu5 u6 hu6 => ?_⟩⟩⟩⟩⟩
      have e5 : u5 76 e = nI w := by rw [hu5, hu4, hu3, hu2, hu1]; exact h76
      rw [e5, nI_1] at hu6
      subst hu1 hu2 hu3 hu4 hu5 hu6
      exact h
    · have : putU u e k a b c d = u := if_pos (Or.inr (Or.inr c3))
      rw [← this]; exact h
theorem c_Face_put {X : Nat × (Nat → Int32)} {kk e w p : Nat} {g : sg} {Z : Int32 → sg → Prop} (hw : w ≤ 8) (hA : gA g 195 e = some 8) (h196 : gI g 196 e 0 = nI w) (h : Z (b2 (!decide (gI g 194 e 0 = 0) && decide (w < 8))) (putG g e p)) : nnMT X M_Face_put kk [qr 3 (some e), qr 7 (some p)] g (zI Z) := by
  have l2 : (nI w).toNatClampNeg = w := nI_clamp (by omega)
  refine t_Face_put ⟨fun c1 => ?_, fun c1 => ⟨fun c2 => ?_, fun c2 => ?_⟩⟩
  · have : putG g e p = g := if_pos (Or.inl c1)
    rw [this] at h
    simpa [b2, c1] using h
  · have hp : putG g e p = _ := if_neg (by rintro (z | z); exact c1 z; exact z c2)
    rw [hp, h196, l2] at h
    have w8 : w < 8 := by rw [h196, nl_8, nI_ltI (by omega) (by omega)] at c2; exact c2
    rw [h196, l2]
    refine ⟨hA, (vpi (by omega)).mpr w8, fun g1 hg1 g2 hg2 => ?_⟩
    have e5 : gI g1 196 e 0 = nI w := by rw [hg1]; exact h196
    rw [e5, nI_1] at hg2
    subst hg1 hg2
    simpa [b2, c1, w8] using h
  · have : putG g e p = g := if_pos (Or.inr c2)
    rw [this] at h
    have w8 : ¬ w < 8 := by rw [h196, nl_8, nI_ltI (by omega) (by omega)] at c2; exact c2
    simpa [b2, c1, w8] using h
theorem rl_put {S P N R Q e p : Nat} {g : sg} {u : MS} {k a b c d : Int32} (h : rl9 S P N R Q g u) (he : e < 20) (hp : pkv N R g u p k a b c d) : rl9 S P N R Q (putG g e p) (putU u e k a b c d) := by
  obtain ⟨hsh, hT, hN, hW, h'⟩ := h
  obtain ⟨a0, a1, a2, w, a3, a4, a5, a6, a7⟩ := hW e he
  by_cases c1 : u 75 e = 0 ∨ w = 8
  · have h1 : putU u e k a b c d = u := if_pos (by
      rcases c1 with z | z
      · exact Or.inr (Or.inl z)
      · exact Or.inr (Or.inr (by rw [a5, z]; rfl)))
    have h2 : putG g e p = g := if_pos (by
      rcases c1 with z | z
      · exact Or.inl (a0.trans z)
      · exact Or.inr (by rw [a4, z]; decide))
    rw [h1, h2]
    exact ⟨hsh, hT, hN, hW, h'⟩
  · have c2 : ¬ u 75 e = 0 := fun z => c1 (Or.inl z)
    have c3 : w < 8 := by
      rcases Nat.lt_or_ge w 8 with z | z
      · exact z
      · exact absurd (Or.inr (by omega)) c1
    have l2 : (nI w).toNatClampNeg = w := nI_clamp (by omega)
    have m0 : ¬ u 74 e = 0 := by
      rcases a2 with ⟨-, -, -, z⟩ | ⟨b, f, hb, hf, z, -⟩
      · exact absurd z c2
      · rw [z]; exact nI_ne0 (by omega) (by omega)
    have u75 : u 75 e = 1 := by
      rcases a1 with z | z
      · exact absurd z c2
      · exact z
    have h1 : putU u e k a b c d = mu (mu (mu (mu (mu (mu u 77 (40 * e + 5 * w) k) 77 (40 * e + 5 * w + 1) a) 77 (40 * e + 5 * w + 2) b) 77 (40 * e + 5 * w + 3) c) 77 (40 * e + 5 * w + 4) d) 76 e (nI (w + 1)) := by
      unfold putU
      rw [if_neg, a5, l2]
      rintro (z | z | z)
      · exact m0 z
      · exact c2 z
      · rw [a5, nl_8, nI_eq (by omega) (by omega)] at z
        omega
    have h2 : putG g e p = pI (pR g 195 e w (some p)) 196 e 0 (nI (w + 1)) := by
      unfold putG
      rw [if_neg, a4, l2]
      rintro (z | z)
      · exact c2 (a0.symm.trans z)
      · rw [a4, nl_8, nI_ltI (by omega) (by omega)] at z
        omega
    rw [h1, h2]
    refine ⟨hsh, hT, hN, ?_, h'⟩
    intro e' he'
    obtain ⟨b0, b1, b2', w', b3, b4, b5, b6, b7⟩ := hW e' he'
    by_cases q : e' = e
    · subst q
      refine ⟨b0, b1, b2', w + 1, by omega, ?_, ?_, fun _ => u75, ?_⟩
      · simp [gI_pI]
      · simp [mu_at]
      · intro j hj
        by_cases hjw : j = w
        · subst hjw
          refine ⟨p, ?_, ?_⟩
          · rw [gR_pI, gR_pR, if_pos ⟨rfl, rfl, rfl⟩]
          · have r0 : ∀ t x, t < 5 → mu (mu (mu (mu (mu (mu u 77 (40 * e' + 5 * j) k) 77 (40 * e' + 5 * j + 1) a) 77 (40 * e' + 5 * j + 2) b) 77 (40 * e' + 5 * j + 3) c) 77 (40 * e' + 5 * j + 4) d) 76 e' x 77 (40 * e' + 5 * j + t) = if t = 0 then k else if t = 1 then a else if t = 2 then b else if t = 3 then c else d := by
              intro t x ht
              rcases (show t = 0 ∨ t = 1 ∨ t = 2 ∨ t = 3 ∨ t = 4 by omega) with rfl | rfl | rfl | rfl | rfl <;> simp [mu_at]
            have r := r0 0 (nI (j + 1)) (by omega)
            rw [show 40 * e' + 5 * j + 0 = 40 * e' + 5 * j from rfl] at r
            rw [r, r0 1 _ (by omega), r0 2 _ (by omega), r0 3 _ (by omega), r0 4 _ (by omega)]
            exact hp
        · have hjw2 : j < w := by omega
          obtain ⟨p', p1, p2⟩ := a7 j hjw2
          refine ⟨p', ?_, ?_⟩
          · rw [gR_pI, gR_pR, if_neg (fun z => hjw z.2.2)]
            exact p1
          · have r0 : ∀ t x, t < 5 → mu (mu (mu (mu (mu (mu u 77 (40 * e' + 5 * w) k) 77 (40 * e' + 5 * w + 1) a) 77 (40 * e' + 5 * w + 2) b) 77 (40 * e' + 5 * w + 3) c) 77 (40 * e' + 5 * w + 4) d) 76 e' x 77 (40 * e' + 5 * j + t) = u 77 (40 * e' + 5 * j + t) := by
              intro t x ht
              have z0 : ¬ 40 * e' + 5 * j + t = 40 * e' + 5 * w := by omega
              have z1 : ¬ 40 * e' + 5 * j + t = 40 * e' + 5 * w + 1 := by omega
              have z2 : ¬ 40 * e' + 5 * j + t = 40 * e' + 5 * w + 2 := by omega
              have z3 : ¬ 40 * e' + 5 * j + t = 40 * e' + 5 * w + 3 := by omega
              have z4 : ¬ 40 * e' + 5 * j + t = 40 * e' + 5 * w + 4 := by omega
              simp only [mu_at, z0, z1, z2, z3, z4, and_false, if_false, if_neg (show ¬ ((77 : Nat) = 76 ∧ 40 * e' + 5 * j + t = e') from fun z => by omega)]
            have r := r0 0 (nI (w + 1)) (by omega)
            rw [show 40 * e' + 5 * j + 0 = 40 * e' + 5 * j from rfl] at r
            rw [r, r0 1 _ (by omega), r0 2 _ (by omega), r0 3 _ (by omega), r0 4 _ (by omega)]
            exact p2
    · refine ⟨b0, b1, b2', w', b3, ?_, ?_, b6, ?_⟩
      · rw [← b4, gI_pI, if_neg (fun z => q z.2.1)]
        rfl
      · rw [← b5, mu_at, if_neg (fun z => q z.2)]
        rfl
      · intro j hj
        obtain ⟨p', p1, p2⟩ := b7 j hj
        refine ⟨p', ?_, ?_⟩
        · rw [gR_pI, gR_pR, if_neg (fun z => q z.2.1)]
          exact p1
        · have r0 : ∀ t x, t < 5 → mu (mu (mu (mu (mu (mu u 77 (40 * e + 5 * w) k) 77 (40 * e + 5 * w + 1) a) 77 (40 * e + 5 * w + 2) b) 77 (40 * e + 5 * w + 3) c) 77 (40 * e + 5 * w + 4) d) 76 e x 77 (40 * e' + 5 * j + t) = u 77 (40 * e' + 5 * j + t) := by
            intro t x ht
            have z0 : ¬ 40 * e' + 5 * j + t = 40 * e + 5 * w := by omega
            have z1 : ¬ 40 * e' + 5 * j + t = 40 * e + 5 * w + 1 := by omega
            have z2 : ¬ 40 * e' + 5 * j + t = 40 * e + 5 * w + 2 := by omega
            have z3 : ¬ 40 * e' + 5 * j + t = 40 * e + 5 * w + 3 := by omega
            have z4 : ¬ 40 * e' + 5 * j + t = 40 * e + 5 * w + 4 := by omega
            simp only [mu_at, z0, z1, z2, z3, z4, and_false, if_false, if_neg (show ¬ ((77 : Nat) = 76 ∧ 40 * e' + 5 * j + t = e) from fun z => by omega)]
          have r := r0 0 (nI (w + 1)) (by omega)
          rw [show 40 * e' + 5 * j + 0 = 40 * e' + 5 * j from rfl] at r
          rw [r, r0 1 _ (by omega), r0 2 _ (by omega), r0 3 _ (by omega), r0 4 _ (by omega)]
          exact p2
