/-- a store's place goes out: c is how many are left -/
def shU (u : MS) (i c x j : Nat) : MS := fun f y => if f = 84 ∧ y = i then nI c else if (85 ≤ f ∧ f ≤ 88) ∧ 6 * i + x ≤ y ∧ y < 6 * i + j then u f (y + 1) else u f y
def shG (g : sg) (i c x j : Nat) : sg := (g.1, (fun f a k => if f = 770 ∧ a = i ∧ k = 0 then nI c else if f = 769 ∧ a = i ∧ x ≤ k ∧ k < j then g.2.1 f a (k + 1) else g.2.1 f a k), (fun f a k => if f = 768 ∧ a = i ∧ x ≤ k ∧ k < j then g.2.2.1 f a (k + 1) else g.2.2.1 f a k), g.2.2.2)
theorem shU_0 (u : MS) (i c x : Nat) : mu u 84 i (nI c) = shU u i c x x := by
  funext f y
  unfold mu shU
  by_cases h : f = 84 ∧ y = i
  · rw [if_pos h, if_pos h]
  · rw [if_neg h, if_neg h, if_neg (by omega)]
theorem shU_s (u : MS) (i c x j : Nat) (hx : x ≤ j) : mu (mu (mu (mu (shU u i c x j) 85 (6 * i + j) (shU u i c x j 85 (6 * i + j + 1))) 86 (6 * i + j) (shU u i c x j 86 (6 * i + j + 1))) 87 (6 * i + j) (shU u i c x j 87 (6 * i + j + 1))) 88 (6 * i + j) (shU u i c x j 88 (6 * i + j + 1)) = shU u i c x (j + 1) := by
  have e : ∀ f, 85 ≤ f → f ≤ 88 → shU u i c x j f (6 * i + j + 1) = u f (6 * i + j + 1) := by
    intro f h1 h2
    unfold shU
    rw [if_neg (by omega), if_neg (by omega)]
  rw [e 85 (by omega) (by omega), e 86 (by omega) (by omega), e 87 (by omega) (by omega), e 88 (by omega) (by omega)]
  funext f y
  simp only [mu_at]
  by_cases hy : y = 6 * i + j
  · subst hy
    by_cases h8 : f = 88
    · subst h8
      rw [if_pos ⟨rfl, rfl⟩]
      unfold shU
      rw [if_neg (by omega), if_pos (by omega)]
    rw [if_neg (fun z => h8 z.1)]
    by_cases h7 : f = 87
    · subst h7
      rw [if_pos ⟨rfl, rfl⟩]
      unfold shU
      rw [if_neg (by omega), if_pos (by omega)]
    rw [if_neg (fun z => h7 z.1)]
    by_cases h6 : f = 86
    · subst h6
      rw [if_pos ⟨rfl, rfl⟩]
      unfold shU
      rw [if_neg (by omega), if_pos (by omega)]
    rw [if_neg (fun z => h6 z.1)]
    by_cases h5 : f = 85
    · subst h5
      rw [if_pos ⟨rfl, rfl⟩]
      unfold shU
      rw [if_neg (by omega), if_pos (by omega)]
    rw [if_neg (fun z => h5 z.1)]
    unfold shU
    by_cases h4 : f = 84 ∧ 6 * i + j = i
    · rw [if_pos h4, if_pos h4]
    · rw [if_neg h4, if_neg h4, if_neg (by omega), if_neg (by omega)]
  · rw [if_neg (fun z => hy z.2), if_neg (fun z => hy z.2), if_neg (fun z => hy z.2), if_neg (fun z => hy z.2)]
    unfold shU
    by_cases h4 : f = 84 ∧ y = i
    · rw [if_pos h4, if_pos h4]
    · rw [if_neg h4, if_neg h4]
      by_cases h5 : (85 ≤ f ∧ f ≤ 88) ∧ 6 * i + x ≤ y ∧ y < 6 * i + j
      · rw [if_pos h5, if_pos (by omega)]
      · rw [if_neg h5, if_neg (by omega)]
theorem c_Mod_shiftStore {u : MS} {i c x : Nat} {Z : MS → Prop} (hi : i < 5) (hc : c < 6) (hx : x ≤ c) (h84 : u 84 i = nI (c + 1)) (h : Z (shU u i c x c)) : mMT M_Mod_shiftStore [qr 1 (some 0), qi (nI i), qi (nI (6 * i + x))] u (mV Z) := by
  refine mt_Mod_shiftStore ?_
  rw [nI_clamp (show i < 2 ^ 31 by omega), h84, nI_sub1]
  refine ⟨(vpi (by omega)).mpr hi, fun u1 hu1 => ?_⟩
  rw [shU_0 u i c x] at hu1
  subst hu1
  have key : ∀ j, j ≤ c → x ≤ j → mWP M_Mod_shiftStore 12 [qr 1 (some 0), qi (nI i), none, qi (nI (6 * i + j))] [] (shU u i c x j) (mV Z) := by
    have e84 : ∀ j, shU u i c x j 84 i = nI c := fun j => if_pos ⟨rfl, rfl⟩
    refine dn c ?_ ?_
    · intro _
      refine mb_Mod_shiftStore_12 ?_
      rw [nI_clamp (show i < 2 ^ 31 by omega), e84, show (6 : Int32) * nI i + nI c = nI (6 * i + c) by rw [nl_6, pk_mul, nI_add]]
      exact ⟨(vpi (by omega)).mpr hi, fun _ => h, fun q => absurd (nI_le (Nat.le_refl _) (by omega)) q⟩
    · intro j hj ih hxj
      have ih := ih (by omega)
      refine mb_Mod_shiftStore_12 ?_
      rw [nI_clamp (show i < 2 ^ 31 by omega), e84, show (6 : Int32) * nI i + nI c = nI (6 * i + c) by rw [nl_6, pk_mul, nI_add], nI_1, nI_clamp (show 6 * i + j < 2 ^ 31 by omega), nI_clamp (show 6 * i + j + 1 < 2 ^ 31 by omega)]
      refine ⟨(vpi (by omega)).mpr hi, fun q => absurd q (nI_ge (by omega) (by omega)), fun _ => ⟨(vpi (by omega)).mpr (by omega), (vpi (by omega)).mpr (by omega), fun u1 h1 u2 h2 u3 h3 u4 h4 => ?_⟩⟩
      have es := shU_s u i c x j hxj
      have e4 : u4 = shU u i c x (j + 1) := by
        rw [h4, h3, h2, h1, ← es]
        rfl
      rw [e4]
      exact ih
  exact key x hx (Nat.le_refl _)
def enU (u : MS) (i c : Nat) (x y p t : Int32) : MS := mu (mu (mu (mu (mu u 85 (6 * i + c) x) 86 (6 * i + c) y) 87 (6 * i + c) p) 88 (6 * i + c) t) 84 i (nI (c + 1))
theorem c_Mod_enterStore {u : MS} {i c : Nat} {x y p t : Int32} {Z : MS → Prop} (hi : i < 5) (hc : c < 6) (h84 : u 84 i = nI c) (h : Z (enU u i c x y p t)) : mMT M_Mod_enterStore [qr 1 (some 0), qi (nI i), qi x, qi y, qi p, qi t] u (mV Z) := by
  refine mt_Mod_enterStore ?_
  rw [nI_clamp (show i < 2 ^ 31 by omega), h84, show (6 : Int32) * nI i + nI c = nI (6 * i + c) by rw [nl_6, pk_mul, nI_add], nI_clamp (show 6 * i + c < 2 ^ 31 by omega)]
  refine ⟨(vpi (by omega)).mpr hi, (vpi (by omega)).mpr (by omega), fun u1 h1 u2 h2 u3 h3 u4 h4 u5 h5 => ?_⟩
  have e : u4 84 i = nI c := by rw [h4, h3, h2, h1]; exact h84
  rw [e, nI_1, h4, h3, h2, h1] at h5
  rw [h5]
  exact h
theorem shG_0 (g : sg) (i c x : Nat) : pI g 770 i 0 (nI c) = shG g i c x x := by
  unfold pI shG
  refine Prod.ext rfl (Prod.ext ?_ (Prod.ext ?_ rfl))
  · funext f a k
    dsimp only
    by_cases h : f = 770 ∧ a = i ∧ k = 0
    · rw [if_pos h, if_pos h]
    · rw [if_neg h, if_neg h, if_neg (by omega)]
  · funext f a k
    dsimp only
    rw [if_neg (by omega)]
theorem shG_s (g : sg) (i c x j : Nat) (hx : x ≤ j) : pI (pR (shG g i c x j) 768 i j (gR (shG g i c x j) 768 i (j + 1))) 769 i j (gI (shG g i c x j) 769 i (j + 1)) = shG g i c x (j + 1) := by
  have e1 : gR (shG g i c x j) 768 i (j + 1) = gR g 768 i (j + 1) := by
    show (if 768 = 768 ∧ i = i ∧ x ≤ j + 1 ∧ j + 1 < j then _ else _) = _
    rw [if_neg (by omega)]; rfl
  have e2 : gI (shG g i c x j) 769 i (j + 1) = gI g 769 i (j + 1) := by
    show (if 769 = 769 ∧ i = i ∧ x ≤ j + 1 ∧ j + 1 < j then g.2.1 769 i (j + 1 + 1) else g.2.1 769 i (j + 1)) = _
    rw [if_neg (by omega)]; rfl
  rw [e1, e2]
  unfold pI pR shG
  refine Prod.ext rfl (Prod.ext ?_ (Prod.ext ?_ rfl))
  · funext f a k
    dsimp only
    by_cases h : f = 769 ∧ a = i ∧ k = j
    · obtain ⟨rfl, rfl, rfl⟩ := h
      rw [if_pos ⟨rfl, rfl, rfl⟩, if_neg (by omega), if_pos (by omega)]; rfl
    · rw [if_neg h]
      by_cases h1 : f = 770 ∧ a = i ∧ k = 0
      · rw [if_pos h1, if_pos h1]
      · rw [if_neg h1, if_neg h1]
        by_cases h2 : f = 769 ∧ a = i ∧ x ≤ k ∧ k < j
        · rw [if_pos h2, if_pos (by omega)]
        · rw [if_neg h2, if_neg (by omega)]
  · funext f a k
    dsimp only
    by_cases h : f = 768 ∧ a = i ∧ k = j
    · obtain ⟨rfl, rfl, rfl⟩ := h
      rw [if_pos ⟨rfl, rfl, rfl⟩, if_pos (by omega)]; rfl
    · rw [if_neg h]
      by_cases h2 : f = 768 ∧ a = i ∧ x ≤ k ∧ k < j
      · rw [if_pos h2, if_pos (by omega)]
      · rw [if_neg h2, if_neg (by omega)]
theorem c_Store_takeOut {X : Nat × (Nat → Int32)} {kk i c x S : Nat} {g : sg} {Z : sg → Prop} (hS : S ≤ 6) (hc : c < S) (hx : x ≤ c) (hA : gA g 768 i = some S) (hA2 : gA g 769 i = some S) (h770 : gI g 770 i 0 = nI (c + 1)) (h : Z (shG g i c x c)) : nnMT X M_Store_takeOut kk [qr 12 (some i), qi (nI x)] g (zV Z) := by
  refine t_Store_takeOut ?_
  rw [h770, nI_sub1]
  intro g1 hg1
  rw [shG_0 g i c x] at hg1
  subst hg1
  have e770 : ∀ j, gI (shG g i c x j) 770 i 0 = nI c := fun j => if_pos ⟨rfl, rfl, rfl⟩
  have key : ∀ j, j ≤ c → x ≤ j → nnWP X M_Store_takeOut kk 12 [qr 12 (some i), none, qi (nI j)] [] (shG g i c x j) (zV Z) := by
    refine dn c ?_ ?_
    · intro _
      refine b_Store_takeOut_12 ?_
      rw [e770]
      exact ⟨fun _ => h, fun q => absurd (nI_le (Nat.le_refl _) (by omega)) q⟩
    · intro j hj ih hxj
      have ih := ih (by omega)
      refine b_Store_takeOut_12 ?_
      rw [e770, nI_1, nI_clamp (show j < 2 ^ 31 by omega), nI_clamp (show j + 1 < 2 ^ 31 by omega)]
      refine ⟨fun q => absurd q (nI_ge hj (by omega)), fun _ => ⟨S, hA, (vpi (by omega)).mpr (by omega), (vpi (by omega)).mpr (by omega), fun g1 h1 => ⟨S, by rw [h1]; exact hA2, (vpi (by omega)).mpr (by omega), (vpi (by omega)).mpr (by omega), fun g2 h2 => ?_⟩⟩⟩
      have e : g2 = shG g i c x (j + 1) := by
        rw [h2, h1, ← shG_s g i c x j hxj]
        rfl
      rw [e]
      exact ih
  exact key x hx (Nat.le_refl _)
def plG (g : sg) (i c p : Nat) (t : Int32) : sg := pI (pI (pR g 768 i c (some p)) 769 i c t) 770 i 0 (nI (c + 1))
theorem c_Store_putLast {X : Nat × (Nat → Int32)} {kk i c p S : Nat} {g : sg} {t : Int32} {Z : sg → Prop} (hS : S ≤ 6) (hc : c < S) (hA : gA g 768 i = some S) (hA2 : gA g 769 i = some S) (h770 : gI g 770 i 0 = nI c) (h : Z (plG g i c p t)) : nnMT X M_Store_putLast kk [qr 12 (some i), qr 7 (some p), qi t] g (zV Z) := by
  refine t_Store_putLast ?_
  rw [h770]
  refine ⟨S, hA, fun q => absurd q (nI_ge hc (by omega)), fun _ => ⟨(vpi (by omega)).mpr hc, fun g1 h1 => ?_⟩⟩
  rw [nI_clamp (by omega)] at h1
  have e1 : gI g1 770 i 0 = nI c := by rw [h1]; exact h770
  rw [e1, nI_clamp (by omega)]
  refine ⟨S, by rw [h1]; exact hA2, (vpi (by omega)).mpr hc, fun g2 h2 g3 h3 => ?_⟩
  have e2 : gI g2 770 i 0 = nI c := by rw [h2, h1]; exact h770
  rw [e2, nI_1, h2, h1] at h3
  rw [h3]
  exact h
/-- one node's store -/
def rSn (N S i c : Nat) (g : sg) (u : MS) : Prop := c ≤ S ∧ gI g 770 i 0 = nI c ∧ u 84 i = nI c ∧ (∀ j, j < c → (∃ p, gR g 768 i j = some p ∧ dtv N g p (u 85 (6 * i + j)) (u 86 (6 * i + j)) (u 87 (6 * i + j))) ∧ gI g 769 i j = u 88 (6 * i + j)) ∧ ∀ j k, j < c → k < c → u 85 (6 * i + j) = u 85 (6 * i + k) → j = k
theorem shU_in {u : MS} {i c x f k : Nat} (h1 : 85 ≤ f) (h2 : f ≤ 88) (hk : k < c) : shU u i c x c f (6 * i + k) = u f (6 * i + if k < x then k else k + 1) := by
  unfold shU
  rw [if_neg (by omega)]
  by_cases hx : k < x
  · rw [if_neg (by omega), if_pos hx]
  · rw [if_pos (by omega), if_neg hx]; rfl
theorem rSn_sh {N S i c x : Nat} {g : sg} {u : MS} (h : rSn N S i (c + 1) g u) (hx : x ≤ c) : rSn N S i c (shG g i c x c) (shU u i c x c) ∧ ∀ j, j < c → shU u i c x c 85 (6 * i + j) ≠ u 85 (6 * i + x) := by
  obtain ⟨h1, h2, h3, h4, h5⟩ := h
  have eR : ∀ k, k < c → gR (shG g i c x c) 768 i k = gR g 768 i (if k < x then k else k + 1) := by
    intro k hk
    show (if 768 = 768 ∧ i = i ∧ x ≤ k ∧ k < c then g.2.2.1 768 i (k + 1) else g.2.2.1 768 i k) = _
    by_cases hx : k < x
    · rw [if_neg (by omega), if_pos hx]; rfl
    · rw [if_pos (by omega), if_neg hx]; rfl
  have eI : ∀ k, k < c → gI (shG g i c x c) 769 i k = gI g 769 i (if k < x then k else k + 1) := by
    intro k hk
    show (if 769 = 769 ∧ i = i ∧ x ≤ k ∧ k < c then g.2.1 769 i (k + 1) else g.2.1 769 i k) = _
    by_cases hx : k < x
    · rw [if_neg (by omega), if_pos hx]; rfl
    · rw [if_pos (by omega), if_neg hx]; rfl
  refine ⟨⟨by omega, if_pos ⟨rfl, rfl, rfl⟩, if_pos ⟨rfl, rfl⟩, fun k hk => ?_, fun j k hj hk e => ?_⟩, fun j hj e => ?_⟩
  · rw [eR k hk, eI k hk, shU_in (by omega) (by omega) hk, shU_in (by omega) (by omega) hk, shU_in (by omega) (by omega) hk, shU_in (by omega) (by omega) hk]
    exact h4 _ (by split <;> omega)
  · rw [shU_in (by omega) (by omega) hj, shU_in (by omega) (by omega) hk] at e
    have := h5 _ _ (by split <;> omega) (by split <;> omega) e
    split at this <;> split at this <;> omega
  · rw [shU_in (by omega) (by omega) hj] at e
    have := h5 _ _ (by split <;> omega) (by omega) e
    split at this <;> omega
theorem rSn_shO {N S i i' c c' x : Nat} {g : sg} {u : MS} (h : rSn N S i' c' g u) (hS : S ≤ 6) (hx : x ≤ c) (hc : c < 6) (hi : i < 5) (hi' : i' < 5) (hne : i' ≠ i) : rSn N S i' c' (shG g i c x c) (shU u i c x c) := by
  obtain ⟨h1, h2, h3, h4, h5⟩ := h
  have eU : ∀ f k, 85 ≤ f → f ≤ 88 → k < 6 → shU u i c x c f (6 * i' + k) = u f (6 * i' + k) := by
    intro f k q1 q2 hk
    unfold shU
    rw [if_neg (by omega), if_neg (by omega)]
  have eR : ∀ k, gR (shG g i c x c) 768 i' k = gR g 768 i' k := by
    intro k
    show (if 768 = 768 ∧ i' = i ∧ x ≤ k ∧ k < c then g.2.2.1 768 i' (k + 1) else g.2.2.1 768 i' k) = _
    rw [if_neg (by omega)]; rfl
  have eI : ∀ k, gI (shG g i c x c) 769 i' k = gI g 769 i' k := by
    intro k
    show (if 769 = 769 ∧ i' = i ∧ x ≤ k ∧ k < c then g.2.1 769 i' (k + 1) else g.2.1 769 i' k) = _
    rw [if_neg (by omega)]; rfl
  refine ⟨h1, ?_, ?_, fun k hk => ?_, fun j k hj hk e => ?_⟩
  · show (if 770 = 770 ∧ i' = i ∧ 0 = 0 then nI c else g.2.1 770 i' 0) = _
    rw [if_neg (by omega)]; exact h2
  · show (if 84 = 84 ∧ i' = i then nI c else u 84 i') = _
    rw [if_neg (by omega)]; exact h3
  · rw [eR, eI, eU _ _ (by omega) (by omega) (by omega), eU _ _ (by omega) (by omega) (by omega), eU _ _ (by omega) (by omega) (by omega), eU _ _ (by omega) (by omega) (by omega)]
    exact h4 k hk
  · rw [eU _ _ (by omega) (by omega) (by omega), eU _ _ (by omega) (by omega) (by omega)] at e
    exact h5 j k hj hk e
theorem enU_at {u : MS} {i c : Nat} {x y p t : Int32} (f k : Nat) : enU u i c x y p t f k = if f = 84 ∧ k = i then nI (c + 1) else if f = 88 ∧ k = 6 * i + c then t else if f = 87 ∧ k = 6 * i + c then p else if f = 86 ∧ k = 6 * i + c then y else if f = 85 ∧ k = 6 * i + c then x else u f k := by
  unfold enU
  simp only [mu_at]
theorem rSn_en {N S i c p : Nat} {g : sg} {u : MS} {x y w t : Int32} (h : rSn N S i c g u) (hc : c < S) (hp : dtv N g p x y w) (hno : ∀ j, j < c → u 85 (6 * i + j) ≠ x) : rSn N S i (c + 1) (plG g i c p t) (enU u i c x y w t) := by
  obtain ⟨h1, h2, h3, h4, h5⟩ := h
  have eR : ∀ k, gR (plG g i c p t) 768 i k = if k = c then some p else gR g 768 i k := by
    intro k
    unfold plG
    rw [gR_pI, gR_pI, gR_pR]
    by_cases hk : k = c <;> simp [hk]
  have eI : ∀ k, gI (plG g i c p t) 769 i k = if k = c then t else gI g 769 i k := by
    intro k
    unfold plG
    rw [gI_pI, if_neg (by omega), gI_pI, gI_pR]
    by_cases hk : k = c <;> simp [hk]
  have eO : ∀ f k, 85 ≤ f → f ≤ 88 → k ≠ c → enU u i c x y w t f (6 * i + k) = u f (6 * i + k) := by
    intro f k q1 q2 hk
    rw [enU_at, if_neg (by omega), if_neg (by omega), if_neg (by omega), if_neg (by omega), if_neg (by omega)]
  refine ⟨by omega, ?_, ?_, fun k hk => ?_, fun j k hj hk e => ?_⟩
  · unfold plG
    rw [gI_pI, if_pos ⟨rfl, rfl, rfl⟩]
  · rw [enU_at, if_pos ⟨rfl, rfl⟩]
  · rw [eR, eI]
    by_cases hkc : k = c
    · subst hkc
      rw [if_pos rfl, if_pos rfl, enU_at, enU_at, enU_at, enU_at]
      simp
      exact hp
    · rw [if_neg hkc, if_neg hkc, eO _ _ (by omega) (by omega) hkc, eO _ _ (by omega) (by omega) hkc, eO _ _ (by omega) (by omega) hkc, eO _ _ (by omega) (by omega) hkc]
      exact h4 k (by omega)
  · have ec : enU u i c x y w t 85 (6 * i + c) = x := by rw [enU_at]; simp
    by_cases c1 : j = c <;> by_cases c2 : k = c
    · omega
    · rw [c1, ec, eO _ _ (by omega) (by omega) c2] at e
      exact absurd e.symm (hno k (by omega))
    · rw [c2, ec, eO _ _ (by omega) (by omega) c1] at e
      exact absurd e (hno j (by omega))
    · rw [eO _ _ (by omega) (by omega) c1, eO _ _ (by omega) (by omega) c2] at e
      exact h5 j k (by omega) (by omega) e
theorem rSn_enO {N S i i' c c' p : Nat} {g : sg} {u : MS} {x y w t : Int32} (h : rSn N S i' c' g u) (hS : S ≤ 6) (hc : c < 6) (hi : i < 5) (hi' : i' < 5) (hne : i' ≠ i) : rSn N S i' c' (plG g i c p t) (enU u i c x y w t) := by
  obtain ⟨h1, h2, h3, h4, h5⟩ := h
  have eR : ∀ k, gR (plG g i c p t) 768 i' k = gR g 768 i' k := by
    intro k
    unfold plG
    rw [gR_pI, gR_pI, gR_pR, if_neg (by omega)]
  have eI : ∀ k, gI (plG g i c p t) 769 i' k = gI g 769 i' k := by
    intro k
    unfold plG
    rw [gI_pI, if_neg (by omega), gI_pI, if_neg (by omega), gI_pR]
  have eO : ∀ f k, 85 ≤ f → f ≤ 88 → k < 6 → enU u i c x y w t f (6 * i' + k) = u f (6 * i' + k) := by
    intro f k q1 q2 hk
    rw [enU_at, if_neg (by omega), if_neg (by omega), if_neg (by omega), if_neg (by omega), if_neg (by omega)]
  refine ⟨h1, ?_, ?_, fun k hk => ?_, fun j k hj hk e => ?_⟩
  · unfold plG
    rw [gI_pI, if_neg (by omega), gI_pI, if_neg (by omega), gI_pR]; exact h2
  · rw [enU_at, if_neg (by omega), if_neg (by omega), if_neg (by omega), if_neg (by omega), if_neg (by omega)]; exact h3
  · rw [eR, eI, eO _ _ (by omega) (by omega) (by omega), eO _ _ (by omega) (by omega) (by omega), eO _ _ (by omega) (by omega) (by omega), eO _ _ (by omega) (by omega) (by omega)]
    exact h4 k hk
  · rw [eO _ _ (by omega) (by omega) (by omega), eO _ _ (by omega) (by omega) (by omega)] at e
    exact h5 j k hj hk e
theorem rl_sh {S P N R Q i c x : Nat} {g : sg} {u : MS} (h : rl9 S P N R Q g u) (hi : i < 5) (hs : rSn N S i (c + 1) g u) (hx : x ≤ c) : rl9 S P N R Q (shG g i c x c) (shU u i c x c) := by
  obtain ⟨hsh, hT, hN, hW, hG, hRR, hS, hE, hQ, hF, hP⟩ := h
  refine ⟨hsh, hT, hN, hW, hG, hRR, ⟨hS.1, hS.2.1, fun i' hi' => ?_⟩, hE, hQ, hF, hP⟩
  by_cases hc : i' = i
  · subst hc
    exact ⟨c, (rSn_sh hs hx).1⟩
  · obtain ⟨c', hc'⟩ := hS.2.2 i' hi'
    exact ⟨c', rSn_shO hc' hS.1 hx (by have := hs.1; have := hS.1; omega) hi hi' hc⟩
theorem rl_en {S P N R Q i c p : Nat} {g : sg} {u : MS} {x y w t : Int32} (h : rl9 S P N R Q g u) (hi : i < 5) (hs : rSn N S i c g u) (hc : c < S) (hp : dtv N g p x y w) (hno : ∀ j, j < c → u 85 (6 * i + j) ≠ x) : rl9 S P N R Q (plG g i c p t) (enU u i c x y w t) := by
  obtain ⟨hsh, hT, hN, hW, hG, hRR, hS, hE, hQ, hF, hP⟩ := h
  refine ⟨hsh, hT, hN, hW, hG, hRR, ⟨hS.1, hS.2.1, fun i' hi' => ?_⟩, hE, hQ, hF, hP⟩
  by_cases hc' : i' = i
  · subst hc'
    exact ⟨c + 1, rSn_en hs hc hp hno⟩
  · obtain ⟨c', h'⟩ := hS.2.2 i' hi'
    exact ⟨c', rSn_enO h' hS.1 (by have := hS.1; omega) hi hi' hc'⟩
