/-- an entry's place goes out; c is how many are left -/
def rmU (u : MS) (i c x j m : Nat) : MS := fun k y => if k = 92 ∧ y = i then nI c else if (93 ≤ k ∧ k ≤ 95) ∧ 6 * i + x ≤ y ∧ y < 6 * i + j then u k (y + 1) else if (96 ≤ k ∧ k ≤ 100) ∧ 5 * (6 * i + x) ≤ y ∧ y < m then u k (y + 5) else u k y
theorem rmU_0 (u : MS) (i c x : Nat) : mu u 92 i (nI c) = rmU u i c x x (5 * (6 * i + x)) := by
  funext k y
  unfold mu rmU
  by_cases h : k = 92 ∧ y = i
  · rw [if_pos h, if_pos h]
  · rw [if_neg h, if_neg h, if_neg (by omega), if_neg (by omega)]
theorem rmU_sc (u : MS) (i c x j m : Nat) (hx : x ≤ j) : mu (mu (mu (rmU u i c x j m) 93 (6 * i + j) (rmU u i c x j m 93 (6 * i + j + 1))) 94 (6 * i + j) (rmU u i c x j m 94 (6 * i + j + 1))) 95 (6 * i + j) (rmU u i c x j m 95 (6 * i + j + 1)) = rmU u i c x (j + 1) m := by
  have e : ∀ k, 93 ≤ k → k ≤ 95 → rmU u i c x j m k (6 * i + j + 1) = u k (6 * i + j + 1) := by
    intro k h1 h2
    unfold rmU
    rw [if_neg (by omega), if_neg (by omega), if_neg (by omega)]
  rw [e 93 (by omega) (by omega), e 94 (by omega) (by omega), e 95 (by omega) (by omega)]
  funext k y
  simp only [mu_at]
  by_cases hy : y = 6 * i + j
  · subst hy
    by_cases k5 : k = 95
    · subst k5
      rw [if_pos ⟨rfl, rfl⟩]
      unfold rmU
      rw [if_neg (by omega), if_pos (by omega)]
    rw [if_neg (fun z => k5 z.1)]
    by_cases k4 : k = 94
    · subst k4
      rw [if_pos ⟨rfl, rfl⟩]
      unfold rmU
      rw [if_neg (by omega), if_pos (by omega)]
    rw [if_neg (fun z => k4 z.1)]
    by_cases k3 : k = 93
    · subst k3
      rw [if_pos ⟨rfl, rfl⟩]
      unfold rmU
      rw [if_neg (by omega), if_pos (by omega)]
    rw [if_neg (fun z => k3 z.1)]
    unfold rmU
    rw [if_neg (show ¬ ((93 ≤ k ∧ k ≤ 95) ∧ 6 * i + x ≤ 6 * i + j ∧ 6 * i + j < 6 * i + j) by omega), if_neg (show ¬ ((93 ≤ k ∧ k ≤ 95) ∧ 6 * i + x ≤ 6 * i + j ∧ 6 * i + j < 6 * i + (j + 1)) by omega)]
  · rw [if_neg (fun z => hy z.2), if_neg (fun z => hy z.2), if_neg (fun z => hy z.2)]
    unfold rmU
    have e2 : ((93 ≤ k ∧ k ≤ 95) ∧ 6 * i + x ≤ y ∧ y < 6 * i + j) ↔ ((93 ≤ k ∧ k ≤ 95) ∧ 6 * i + x ≤ y ∧ y < 6 * i + (j + 1)) := by omega
    simp only [e2]
theorem rmU_fl (u : MS) (i c x j m : Nat) (hx : 5 * (6 * i + x) ≤ m) : mu (mu (mu (mu (mu (rmU u i c x j m) 96 m (rmU u i c x j m 96 (m + 5))) 97 m (rmU u i c x j m 97 (m + 5))) 98 m (rmU u i c x j m 98 (m + 5))) 99 m (rmU u i c x j m 99 (m + 5))) 100 m (rmU u i c x j m 100 (m + 5)) = rmU u i c x j (m + 1) := by
  have e : ∀ k, 96 ≤ k → k ≤ 100 → rmU u i c x j m k (m + 5) = u k (m + 5) := by
    intro k h1 h2
    unfold rmU
    rw [if_neg (by omega), if_neg (by omega), if_neg (by omega)]
  rw [e 96 (by omega) (by omega), e 97 (by omega) (by omega), e 98 (by omega) (by omega), e 99 (by omega) (by omega), e 100 (by omega) (by omega)]
  funext k y
  simp only [mu_at]
  by_cases hy : y = m
  · subst hy
    have hin : ∀ k, 96 ≤ k → k ≤ 100 → rmU u i c x j (y + 1) k y = u k (y + 5) := by
      intro k h1 h2
      unfold rmU
      rw [if_neg (by omega), if_neg (by omega), if_pos (by omega)]
    by_cases k5 : k = 100
    · subst k5
      rw [if_pos ⟨rfl, rfl⟩, hin 100 (by omega) (by omega)]
    rw [if_neg (fun z => k5 z.1)]
    by_cases k4 : k = 99
    · subst k4
      rw [if_pos ⟨rfl, rfl⟩, hin 99 (by omega) (by omega)]
    rw [if_neg (fun z => k4 z.1)]
    by_cases k3 : k = 98
    · subst k3
      rw [if_pos ⟨rfl, rfl⟩, hin 98 (by omega) (by omega)]
    rw [if_neg (fun z => k3 z.1)]
    by_cases k2 : k = 97
    · subst k2
      rw [if_pos ⟨rfl, rfl⟩, hin 97 (by omega) (by omega)]
    rw [if_neg (fun z => k2 z.1)]
    by_cases k1 : k = 96
    · subst k1
      rw [if_pos ⟨rfl, rfl⟩, hin 96 (by omega) (by omega)]
    rw [if_neg (fun z => k1 z.1)]
    unfold rmU
    rw [if_neg (show ¬ ((96 ≤ k ∧ k ≤ 100) ∧ 5 * (6 * i + x) ≤ y ∧ y < y) by omega), if_neg (show ¬ ((96 ≤ k ∧ k ≤ 100) ∧ 5 * (6 * i + x) ≤ y ∧ y < y + 1) by omega)]
  · rw [if_neg (fun z => hy z.2), if_neg (fun z => hy z.2), if_neg (fun z => hy z.2), if_neg (fun z => hy z.2), if_neg (fun z => hy z.2)]
    unfold rmU
    have e2 : ((96 ≤ k ∧ k ≤ 100) ∧ 5 * (6 * i + x) ≤ y ∧ y < m) ↔ ((96 ≤ k ∧ k ≤ 100) ∧ 5 * (6 * i + x) ≤ y ∧ y < m + 1) := by omega
    simp only [e2]
def rmF (u : MS) (i c x : Nat) : MS := rmU u i c x c (5 * (6 * i + c))
theorem c_Mod_removeEntry {u : MS} {i c x : Nat} {Z : MS → Prop} (hi : i < 5) (hc : c < 6) (hx : x ≤ c) (h92 : u 92 i = nI (c + 1)) (h : Z (rmF u i c x)) : mMT M_Mod_removeEntry [qr 1 (some 0), qi (nI i), qi (nI (6 * i + x))] u (mV Z) := by
  refine mt_Mod_removeEntry ?_
  rw [nI_clamp (show i < 2 ^ 31 by omega), h92, nI_sub1]
  refine ⟨(vpi (by omega)).mpr hi, fun u1 hu1 => ?_⟩
  rw [rmU_0 u i c x] at hu1
  subst hu1
  have e92 : ∀ j m, rmU u i c x j m 92 i = nI c := fun j m => if_pos ⟨rfl, rfl⟩
  have key : ∀ j, j ≤ c → x ≤ j → mWP M_Mod_removeEntry 12 [qr 1 (some 0), qi (nI i), none, qi (nI (6 * i + j)), none] [] (rmU u i c x j (5 * (6 * i + j))) (mV Z) := by
    refine dn c ?_ ?_
    · intro _
      refine mb_Mod_removeEntry_12 ?_
      rw [nI_clamp (show i < 2 ^ 31 by omega), e92, show (6 : Int32) * nI i + nI c = nI (6 * i + c) by rw [nl_6, pk_mul, nI_add]]
      exact ⟨(vpi (by omega)).mpr hi, fun _ => h, fun q => absurd (nI_le (Nat.le_refl _) (by omega)) q⟩
    · intro j hj ih hxj
      have ih := ih (by omega)
      refine mb_Mod_removeEntry_12 ?_
      rw [nI_clamp (show i < 2 ^ 31 by omega), e92, show (6 : Int32) * nI i + nI c = nI (6 * i + c) by rw [nl_6, pk_mul, nI_add], nI_1, nI_clamp (show 6 * i + j < 2 ^ 31 by omega), nI_clamp (show 6 * i + j + 1 < 2 ^ 31 by omega), show (5 : Int32) * nI (6 * i + j) = nI (5 * (6 * i + j) + 0) by rw [nl_5, pk_mul]; rfl]
      refine ⟨(vpi (by omega)).mpr hi, fun q => absurd q (nI_ge (by omega) (by omega)), fun _ => ⟨(vpi (by omega)).mpr (by omega), (vpi (by omega)).mpr (by omega), fun u1 h1 u2 h2 u3 h3 => ?_⟩⟩
      have e3 : u3 = rmU u i c x (j + 1) (5 * (6 * i + j) + 0) := by
        rw [h3, h2, h1, ← rmU_sc u i c x j _ hxj]
        rfl
      rw [e3]
      have inner : ∀ t, t ≤ 5 → mWP M_Mod_removeEntry 74 [qr 1 (some 0), qi (nI i), none, qi (nI (6 * i + j)), qi (nI (5 * (6 * i + j) + t))] [] (rmU u i c x (j + 1) (5 * (6 * i + j) + t)) (mV Z) := by
        refine dn 5 ?_ ?_
        · refine mb_Mod_removeEntry_74 ?_
          rw [show (5 : Int32) * nI (6 * i + j) + 5 = nI (5 * (6 * i + j) + 5) by rw [nl_5, pk_mul, nI_add], nI_1]
          refine ⟨fun _ => ?_, fun q => absurd (nI_le (Nat.le_refl _) (by omega)) q⟩
          rw [show 5 * (6 * i + j) + 5 = 5 * (6 * i + (j + 1)) by omega]
          exact ih
        · intro t ht iht
          refine mb_Mod_removeEntry_74 ?_
          rw [show (5 : Int32) * nI (6 * i + j) + 5 = nI (5 * (6 * i + j) + 5) by rw [nl_5, pk_mul, nI_add], show nI (5 * (6 * i + j) + t) + 5 = nI (5 * (6 * i + j) + t + 5) by rw [nl_5, nI_add], nI_1, nI_clamp (show 5 * (6 * i + j) + t < 2 ^ 31 by omega), nI_clamp (show 5 * (6 * i + j) + t + 5 < 2 ^ 31 by omega)]
          refine ⟨fun q => absurd q (nI_ge (by omega) (by omega)), fun _ => ⟨(vpi (by omega)).mpr (by omega), (vpi (by omega)).mpr (by omega), fun u1 h1 u2 h2 u3 h3 u4 h4 u5 h5 => ?_⟩⟩
          have e5 : u5 = rmU u i c x (j + 1) (5 * (6 * i + j) + t + 1) := by
            rw [h5, h4, h3, h2, h1, ← rmU_fl u i c x (j + 1) _ (by omega)]
            rfl
          rw [e5, nI_1]
          exact iht
      exact inner 0 (Nat.zero_le _)
  exact key x hx (Nat.le_refl _)
def tkG (g : sg) (i x l : Nat) : sg := (g.1, g.2.1, (fun f a k => if f = 512 ∧ a = i ∧ x ≤ k ∧ k < l then g.2.2.1 f a (k + 1) else g.2.2.1 f a k), g.2.2.2)
theorem tkG_id {g : sg} {i x l : Nat} (h : l ≤ x) : tkG g i x l = g := by
  unfold tkG
  refine Prod.ext rfl (Prod.ext rfl (Prod.ext ?_ rfl))
  funext f a k
  dsimp only
  rw [if_neg (by omega)]
theorem tkG_s {g : sg} {i x l : Nat} (h : x ≤ l) : pR (tkG g i x l) 512 i l (gR g 512 i (l + 1)) = tkG g i x (l + 1) := by
  unfold tkG pR
  refine Prod.ext rfl (Prod.ext rfl (Prod.ext ?_ rfl))
  funext f a k
  dsimp only
  by_cases h1 : f = 512 ∧ a = i ∧ k = l
  · obtain ⟨rfl, rfl, rfl⟩ := h1
    rw [if_pos ⟨rfl, rfl, rfl⟩, if_pos (by omega)]; rfl
  · rw [if_neg h1]
    by_cases h2 : f = 512 ∧ a = i ∧ x ≤ k ∧ k < l
    · rw [if_pos h2, if_pos (by omega)]
    · rw [if_neg h2, if_neg (by omega)]
theorem pR_id {g : sg} {f a k : Nat} {o : Option Nat} (h : gR g f a k = o) : pR g f a k o = g := by
  unfold pR
  refine Prod.ext rfl (Prod.ext rfl (Prod.ext ?_ rfl))
  funext f' a' k'
  dsimp only
  by_cases h1 : f' = f ∧ a' = a ∧ k' = k
  · obtain ⟨rfl, rfl, rfl⟩ := h1
    rw [if_pos ⟨rfl, rfl, rfl⟩]; exact h.symm
  · rw [if_neg h1]
def tkF (g : sg) (i c x a : Nat) : sg := pR (pI (tkG g i x c) 513 i 0 (nI c)) 512 i c (some a)
theorem c_Pending_takeOut {X : Nat × (Nat → Int32)} {kk P i c x : Nat} {ε : Nat → Nat} {g : sg} {Z : sg → Prop} (hP : P ≤ 6) (hA : gA g 512 i = some P) (hcP : c + 1 ≤ P) (h513 : gI g 513 i 0 = nI (c + 1)) (h512 : ∀ j, j < P → gR g 512 i j = some (ε j)) (hinj : ∀ j k, j < P → k < P → ε j = ε k → j = k) (hx : x ≤ c) (h : Z (tkF g i c x (ε x))) : nnMT X M_Pending_takeOut kk [qr 8 (some i), qr 2 (some (ε x))] g (zV Z) := by
  refine t_Pending_takeOut ?_
  have e513 : ∀ l, gI (tkG g i x l) 513 i 0 = nI (c + 1) := fun l => h513
  have key : ∀ j, j ≤ c + 1 → nnWP X M_Pending_takeOut kk 4 [qr 8 (some i), qr 2 (some (ε x)), qi (nI (if j ≤ x then j else j - 1)), qi (nI j)] [] (tkG g i x (if j ≤ x then j else j - 1)) (zV Z) := by
    refine dn (c + 1) ?_ ?_
    · rw [if_neg (show ¬ c + 1 ≤ x by omega), show c + 1 - 1 = c by omega]
      refine b_Pending_takeOut_4 ?_
      rw [e513]
      refine ⟨fun _ => ⟨fun q => absurd q (nI_ge (by omega) (by omega)), fun _ g1 h1 => ?_⟩, fun q => absurd (nI_le (Nat.le_refl _) (by omega)) q⟩
      have e1 : gI g1 513 i 0 = nI c := by rw [h1, gI_pI, if_pos ⟨rfl, rfl, rfl⟩]
      rw [e1, nI_clamp (show c < 2 ^ 31 by omega)]
      refine ⟨P, by rw [h1]; exact hA, (vpi (by omega)).mpr (by omega), fun g2 h2 => ?_⟩
      rw [h2, h1]
      exact h
    · intro j hj ih
      refine b_Pending_takeOut_4 ?_
      rw [e513, nI_clamp (show j < 2 ^ 31 by omega), nI_1]
      have ej : gR (tkG g i x (if j ≤ x then j else j - 1)) 512 i j = some (ε j) := by
        show (if 512 = 512 ∧ i = i ∧ x ≤ j ∧ j < _ then g.2.2.1 512 i (j + 1) else g.2.2.1 512 i j) = _
        rw [if_neg]
        · exact h512 j (by omega)
        · split <;> omega
      rw [ej]
      refine ⟨fun q => absurd q (nI_ge (by omega) (by omega)), fun _ => ⟨P, hA, (vpi (by omega)).mpr (by omega), fun q => ?_, fun q => ?_⟩⟩
      · have hjx : j = x := hinj j x (by omega) (by omega) (Option.some.inj q)
        rw [if_neg (show ¬ j + 1 ≤ x by omega), show j + 1 - 1 = j by omega] at ih
        rw [if_pos (show j ≤ x by omega)]
        exact ih
      · have hjx : j ≠ x := fun e => q (by rw [e])
        by_cases hlt : j ≤ x
        · rw [if_pos hlt, nI_clamp (show j < 2 ^ 31 by omega)]
          rw [if_pos hlt] at ej
          refine ⟨(vpi (by omega)).mpr (by omega), fun g3 h3 => ?_⟩
          rw [pR_id ej, tkG_id hlt] at h3
          rw [if_pos (show j + 1 ≤ x by omega), tkG_id (show j + 1 ≤ x by omega)] at ih
          rw [h3, nI_1]
          exact ih
        · rw [if_neg hlt, nI_clamp (show j - 1 < 2 ^ 31 by omega)]
          refine ⟨(vpi (by omega)).mpr (by omega), fun g3 h3 => ?_⟩
          rw [if_neg (show ¬ j + 1 ≤ x by omega), show j + 1 - 1 = j by omega] at ih
          have es := tkG_s (g := g) (i := i) (x := x) (l := j - 1) (by omega)
          rw [show j - 1 + 1 = j by omega, h512 j (by omega)] at es
          rw [es] at h3
          rw [h3, nI_1, show j - 1 + 1 = j by omega]
          exact ih
  have k0 := key 0 (Nat.zero_le _)
  rw [if_pos (Nat.zero_le x), tkG_id (Nat.zero_le x)] at k0
  exact k0
def sgm (c x k : Nat) : Nat := if k = c then x else if x ≤ k ∧ k < c then k + 1 else k
theorem sgm_c (c x k : Nat) : (k = c ∧ sgm c x k = x) ∨ (k ≠ c ∧ x ≤ k ∧ k < c ∧ sgm c x k = k + 1) ∨ (k ≠ c ∧ ¬ (x ≤ k ∧ k < c) ∧ sgm c x k = k) := by
  unfold sgm
  by_cases h1 : k = c
  · exact Or.inl ⟨h1, if_pos h1⟩
  · rw [if_neg h1]
    by_cases h2 : x ≤ k ∧ k < c
    · exact Or.inr (Or.inl ⟨h1, h2.1, h2.2, if_pos h2⟩)
    · exact Or.inr (Or.inr ⟨h1, h2, if_neg h2⟩)
theorem rl_rm {S P N R Q i c x : Nat} {ε : Nat → Nat} {g : sg} {u : MS} (h : rl9 S P N R Q g u) (hi : i < 5) (hen : rEn N P i (c + 1) ε g u) (hx : x ≤ c) : rl9 S P N R Q (tkF g i c x (ε x)) (rmF u i c x) ∧ rEn N P i c (fun k => ε (sgm c x k)) (tkF g i c x (ε x)) (rmF u i c x) ∧ eOn g (tkF g i c x (ε x)) u (rmF u i c x) := by
  have hP6 := h.2.2.2.2.2.2.2.1.2.1
  obtain ⟨e1, e2, e3, e4, e5, e6, e7⟩ := hen
  have hon : eOn g (tkF g i c x (ε x)) u (rmF u i c x) := by
    refine ⟨fun k h1 h2 => ?_, fun f hf => ⟨?_, ?_⟩, fun f a => rfl, fun c => rfl⟩
    · funext y
      unfold rmF rmU
      rw [if_neg (by omega), if_neg (by omega), if_neg (by omega)]
    · funext a k
      unfold tkF
      rw [gI_pR, gI_pI, if_neg (by omega)]; rfl
    · funext a k
      unfold tkF
      rw [gR_pR, if_neg (by omega), gR_pI]
      show (if f = 512 ∧ a = i ∧ x ≤ k ∧ k < c then g.2.2.1 f a (k + 1) else g.2.2.1 f a k) = _
      rw [if_neg (by omega)]; rfl
  have hI : ∀ f a k, f / 64 = 2 → gI (tkF g i c x (ε x)) f a k = gI g f a k := by
    intro f a k hf
    unfold tkF
    rw [gI_pR, gI_pI, if_neg (by omega)]; rfl
  have h3 : ∀ k y, 93 ≤ k → k ≤ 95 → y < c → rmF u i c x k (6 * i + y) = u k (6 * i + sgm c x y) := by
    intro k y k1 k2 hy
    unfold rmF rmU sgm
    rw [if_neg (by omega), if_neg (show ¬ y = c by omega)]
    by_cases hxy : x ≤ y
    · rw [if_pos (by omega), if_pos (by omega)]; rfl
    · rw [if_neg (by omega), if_neg (by omega), if_neg (by omega)]
  have h6 : ∀ k y f, 96 ≤ k → k ≤ 100 → y < c → f < 5 → rmF u i c x k (5 * (6 * i + y) + f) = u k (5 * (6 * i + sgm c x y) + f) := by
    intro k y f k1 k2 hy hf
    unfold rmF rmU sgm
    rw [if_neg (by omega), if_neg (by omega), if_neg (show ¬ y = c by omega)]
    by_cases hxy : x ≤ y
    · rw [if_pos (by omega), if_pos (by omega)]
      congr 1
      omega
    · rw [if_neg (by omega), if_neg (by omega)]
  have hsg : ∀ k, k < P → sgm c x k < P := by
    intro k hk
    unfold sgm
    split
    · omega
    · split <;> omega
  have hself : rEn N P i c (fun k => ε (sgm c x k)) (tkF g i c x (ε x)) (rmF u i c x) := by
    refine ⟨by omega, ?_, if_pos ⟨rfl, rfl⟩, fun k hk => ⟨?_, (e4 _ (hsg k hk)).2⟩, fun j k hj hk e => ?_, fun k hk => ?_, fun j k hj hk z1 z2 => ?_⟩
    · unfold tkF
      rw [gI_pR, gI_pI, if_pos ⟨rfl, rfl, rfl⟩]
    · unfold tkF
      rw [gR_pR, gR_pI]
      by_cases hkc : k = c
      · rw [if_pos ⟨rfl, rfl, hkc⟩]
        have := sgm_c c x k
        show some (ε x) = some (ε (sgm c x k))
        rw [show sgm c x k = x by omega]
      · rw [if_neg (by omega)]
        show (if 512 = 512 ∧ i = i ∧ x ≤ k ∧ k < c then g.2.2.1 512 i (k + 1) else g.2.2.1 512 i k) = _
        have := sgm_c c x k
        by_cases hxk : x ≤ k ∧ k < c
        · rw [if_pos ⟨rfl, rfl, hxk⟩]
          show _ = some (ε (sgm c x k))
          rw [show sgm c x k = k + 1 by omega]
          exact (e4 (k + 1) (by omega)).1
        · rw [if_neg (fun z => hxk z.2.2)]
          show _ = some (ε (sgm c x k))
          rw [show sgm c x k = k by omega]
          exact (e4 k hk).1
    · have := e5 _ _ (hsg j hj) (hsg k hk) e
      have c1 := sgm_c c x j
      have c2 := sgm_c c x k
      omega
    · have hs : sgm c x k < c + 1 := by
        unfold sgm
        split
        · omega
        · split <;> omega
      exact en1_congr (e6 _ hs) (fun f k' hf => hI f _ k' hf) (fun k' k1 k2 => h3 k' k k1 k2 hk) (fun k' f k1 k2 hf => h6 k' k f k1 k2 hk hf)
    · rw [h3 93 j (by omega) (by omega) hj, h3 93 k (by omega) (by omega) hk] at z1
      rw [h3 94 j (by omega) (by omega) hj, h3 94 k (by omega) (by omega) hk] at z2
      have q1 : sgm c x j < c + 1 := by
        unfold sgm
        split
        · omega
        · split <;> omega
      have q2 : sgm c x k < c + 1 := by
        unfold sgm
        split
        · omega
        · split <;> omega
      have := e7 _ _ q1 q2 z1 z2
      have c1 := sgm_c c x j
      have c2 := sgm_c c x k
      omega
  refine ⟨rl9_E h hon ⟨h.2.2.2.2.2.2.2.1.1, hP6, ?_, fun i' hi' => ?_⟩, hself, hon⟩
  · rw [hon.1 65 (by omega) (by omega)]; exact h.2.2.2.2.2.2.2.1.2.2.1
  · by_cases hii : i' = i
    · subst hii
      exact ⟨c, _, hself⟩
    · obtain ⟨c2, ε2, d1, d2, d3, d4, d5, d6, d7⟩ := h.2.2.2.2.2.2.2.1.2.2.2 i' hi'
      have o3 : ∀ k y, 93 ≤ k → k ≤ 95 → y < 6 → rmF u i c x k (6 * i' + y) = u k (6 * i' + y) := by
        intro k y k1 k2 hy
        unfold rmF rmU
        rw [if_neg (by omega), if_neg (by omega), if_neg (by omega)]
      have o6 : ∀ k y f, 96 ≤ k → k ≤ 100 → y < 6 → f < 5 → rmF u i c x k (5 * (6 * i' + y) + f) = u k (5 * (6 * i' + y) + f) := by
        intro k y f k1 k2 hy hf
        unfold rmF rmU
        rw [if_neg (by omega), if_neg (by omega), if_neg (by omega)]
      refine ⟨c2, ε2, d1, ?_, ?_, fun j hj => ⟨?_, (d4 j hj).2⟩, d5, fun j hj => ?_, fun j1 j2 q1 q2 z1 z2 => ?_⟩
      · unfold tkF
        rw [gI_pR, gI_pI, if_neg (by omega)]; exact d2
      · show (if 92 = 92 ∧ i' = i then nI c else u 92 i') = _
        rw [if_neg (by omega)]; exact d3
      · unfold tkF
        rw [gR_pR, if_neg (by omega), gR_pI]
        show (if 512 = 512 ∧ i' = i ∧ x ≤ j ∧ j < c then g.2.2.1 512 i' (j + 1) else g.2.2.1 512 i' j) = _
        rw [if_neg (by omega)]; exact (d4 j hj).1
      · exact en1_congr (d6 j hj) (fun f k' hf => hI f _ k' hf) (fun k' k1 k2 => o3 k' j k1 k2 (by omega)) (fun k' f k1 k2 hf => o6 k' j f k1 k2 (by omega) hf)
      · rw [o3 93 j1 (by omega) (by omega) (by omega), o3 93 j2 (by omega) (by omega) (by omega)] at z1
        rw [o3 94 j1 (by omega) (by omega) (by omega), o3 94 j2 (by omega) (by omega) (by omega)] at z2
        exact d7 j1 j2 q1 q2 z1 z2
