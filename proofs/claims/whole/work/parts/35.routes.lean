theorem cn_le (p : Nat → Bool) : ∀ n, cn p n ≤ n
  | 0 => Nat.le_refl _
  | n + 1 => by
    have := cn_le p n
    show (if p n = true then cn p n + 1 else cn p n) ≤ n + 1
    split <;> omega
theorem cn_rm {q : Nat → Bool} {x : Nat} (hq : q x = true) : ∀ m, x < m → cn q m = cn (fun k => q k && !decide (k = x)) m + 1
  | 0, h => absurd h (Nat.not_lt_zero _)
  | m + 1, h => by
    show (if q m = true then cn q m + 1 else cn q m) = (if (q m && !decide (m = x)) = true then cn (fun k => q k && !decide (k = x)) m + 1 else cn (fun k => q k && !decide (k = x)) m) + 1
    by_cases hm : m = x
    · subst hm
      have e : ∀ n, n ≤ m → cn (fun k => q k && !decide (k = m)) n = cn q n := by
        intro n
        induction n with
        | zero => intro _; rfl
        | succ n ih =>
          intro hn
          show (if (q n && !decide (n = m)) = true then _ else _) = if q n = true then _ else _
          rw [ih (by omega)]
          have : ¬ n = m := by omega
          simp [this]
      rw [e m (Nat.le_refl _)]
      simp [hq]
    · have ih := cn_rm hq m (by omega)
      rw [ih]
      by_cases hqm : q m = true
      · simp [hqm, hm]
      · simp [hqm]
theorem cn_inj {m : Nat} {f : Nat → Nat} : ∀ {n : Nat} {p q : Nat → Bool}, (∀ k, k < n → p k = true → f k < m ∧ q (f k) = true) → (∀ j k, j < n → k < n → p j = true → p k = true → f j = f k → j = k) → cn p n ≤ cn q m
  | 0, p, q, _, _ => Nat.zero_le _
  | n + 1, p, q, h1, h2 => by
    show (if p n = true then cn p n + 1 else cn p n) ≤ cn q m
    by_cases hp : p n = true
    · rw [if_pos hp]
      obtain ⟨a1, a2⟩ := h1 n (by omega) hp
      rw [cn_rm a2 m a1]
      have : cn p n ≤ cn (fun k => q k && !decide (k = f n)) m := by
        refine cn_inj (f := f) (fun k hk hpk => ?_) (fun j k hj hk => h2 j k (by omega) (by omega))
        obtain ⟨b1, b2⟩ := h1 k (by omega) hpk
        refine ⟨b1, ?_⟩
        have : ¬ f k = f n := fun e => by
          have := h2 k n (by omega) (by omega) hpk hp e
          omega
        simp [b2, this]
      omega
    · rw [if_neg hp]
      exact cn_inj (f := f) (fun k hk => h1 k (by omega)) (fun j k hj hk => h2 j k (by omega) (by omega))
theorem cn_all {n : Nat} : cn (fun _ => true) n = n := by
  induction n with
  | zero => rfl
  | succ n ih =>
    show (if true = true then cn (fun _ => true) n + 1 else _) = n + 1
    rw [if_pos rfl, ih]
theorem cn_five {a : Nat → Int32} : ∀ {n : Nat}, (∀ r, r < n → ∃ o, o < 5 ∧ a r = nI o) → n ≤ cn (fun r => decide (a r = nI 0)) n + cn (fun r => decide (a r = nI 1)) n + cn (fun r => decide (a r = nI 2)) n + cn (fun r => decide (a r = nI 3)) n + cn (fun r => decide (a r = nI 4)) n
  | 0, _ => Nat.zero_le _
  | n + 1, h => by
    have ih := cn_five (n := n) (fun r hr => h r (by omega))
    obtain ⟨o, ho, e⟩ := h n (by omega)
    have st : ∀ k, cn (fun r => decide (a r = nI k)) (n + 1) = if decide (a n = nI k) = true then cn (fun r => decide (a r = nI k)) n + 1 else cn (fun r => decide (a r = nI k)) n := fun k => rfl
    have hm : ∀ k, cn (fun r => decide (a r = nI k)) n ≤ cn (fun r => decide (a r = nI k)) (n + 1) := fun k => by rw [st]; split <;> omega
    have ho' : cn (fun r => decide (a r = nI o)) (n + 1) = cn (fun r => decide (a r = nI o)) n + 1 := by rw [st, if_pos (by simp [e])]
    have := hm 0; have := hm 1; have := hm 2; have := hm 3; have := hm 4
    rcases (show o = 0 ∨ o = 1 ∨ o = 2 ∨ o = 3 ∨ o = 4 by omega) with rfl | rfl | rfl | rfl | rfl <;> omega
theorem rG.lt {N R o : Nat} {u : MS} (h : rG N R u) (ho : o < 5) (hc : cn (fun r => decide (u 80 r = nI o)) R < 10) : R < 50 := by
  have h5 := cn_five (a := u 80) (n := R) (fun r hr => (h.2.2.1 r hr).1)
  have a0 := h.2.2.2.2 0 (by omega)
  have a1 := h.2.2.2.2 1 (by omega)
  have a2 := h.2.2.2.2 2 (by omega)
  have a3 := h.2.2.2.2 3 (by omega)
  have a4 := h.2.2.2.2 4 (by omega)
  rcases (show o = 0 ∨ o = 1 ∨ o = 2 ∨ o = 3 ∨ o = 4 by omega) with rfl | rfl | rfl | rfl | rfl <;> omega
/-- the row of a node for the reference's row r, if there is one -/
theorem c_Routes_find {X : Nat × (Nat → Int32)} {kk R i m : Nat} {ρ π : Nat → Nat} {g : sg} {u : MS} {x y : Int32} {Z : Option Nat → sg → Prop} (hR : R ≤ 50) (hA : gA g 704 i = some 50) (hn : rRn R i m ρ π g u) (h : (∀ j, j < m → u 80 (π j) = x → u 81 (π j) = y → Z (some (ρ j)) g) ∧ ((∀ j, j < m → ¬ (u 80 (π j) = x ∧ u 81 (π j) = y)) → Z none g)) : nnMT X M_Routes_find kk [qr 11 (some i), qi x, qi y] g (zR 10 Z) := by
  obtain ⟨h1, h2, h3, h4, h5, h6⟩ := hn
  refine t_Routes_find ?_
  have key : ∀ j, j ≤ m → (∀ k, k < j → ¬ (u 80 (π k) = x ∧ u 81 (π k) = y)) → nnWP X M_Routes_find kk 2 [qr 11 (some i), qi x, qi y, qi (nI j)] [] g (zR 10 Z) := by
    refine dn m ?_ ?_
    · intro hno
      refine b_Routes_find_2 ⟨fun _ => h.2 hno, fun hc => absurd ?_ hc⟩
      rw [h2]; exact nI_le (Nat.le_refl _) (by omega)
    · intro j hj ih hno
      obtain ⟨r1, r2, r3, r4, r5, r6, r7, -⟩ := h3 j hj
      refine b_Routes_find_2 ⟨fun hc => ?_, fun _ => ⟨hA, (vpi (by omega)).mpr (by omega), ρ j, by rw [nI_clamp (by omega)]; exact r1, ?_⟩⟩
      · rw [h2] at hc
        exact absurd hc (nI_ge hj (by omega))
      · rw [r5, r6, nI_1, nI_clamp (by omega), r1]
        refine ⟨fun q => ih fun k hk z => ?_, fun q => ⟨fun q2 => ih fun k hk z => ?_, fun q2 => h.1 j hj q q2⟩⟩
        · by_cases hkj : k = j
          · rw [hkj] at z; exact q z.1
          · exact hno k (by omega) z
        · by_cases hkj : k = j
          · rw [hkj] at z; exact q2 z.2
          · exact hno k (by omega) z
  exact key 0 (Nat.zero_le _) (fun k hk => absurd hk (Nat.not_lt_zero _))
theorem c_Routes_countOf {X : Nat × (Nat → Int32)} {kk R i m : Nat} {ρ π : Nat → Nat} {g : sg} {u : MS} {x : Int32} {Z : Int32 → sg → Prop} (hR : R ≤ 50) (hA : gA g 704 i = some 50) (hn : rRn R i m ρ π g u) (h : Z (nI (cn (fun j => decide (u 80 (π j) = x)) m)) g) : nnMT X M_Routes_countOf kk [qr 11 (some i), qi x] g (zI Z) := by
  obtain ⟨h1, h2, h3, h4, h5, h6⟩ := hn
  refine t_Routes_countOf ?_
  have key : ∀ j, j ≤ m → nnWP X M_Routes_countOf kk 4 [qr 11 (some i), qi x, qi (nI (cn (fun j => decide (u 80 (π j) = x)) j)), qi (nI j)] [] g (zI Z) := by
    refine dn m ?_ ?_
    · refine b_Routes_countOf_4 ⟨fun _ => h, fun hc => absurd ?_ hc⟩
      rw [h2]; exact nI_le (Nat.le_refl _) (by omega)
    · intro j hj ih
      obtain ⟨r1, r2, r3, r4, r5, r6, r7, -⟩ := h3 j hj
      refine b_Routes_countOf_4 ⟨fun hc => ?_, fun _ => ⟨hA, (vpi (by omega)).mpr (by omega), ρ j, by rw [nI_clamp (by omega)]; exact r1, ?_⟩⟩
      · rw [h2] at hc
        exact absurd hc (nI_ge hj (by omega))
      · rw [r5, nI_1, nI_1]
        refine ⟨fun q => ?_, fun q => ?_⟩
        · simpa [cn, q] using ih
        · simpa [cn, q] using ih
  exact key 0 (Nat.zero_le _)
/-- a new object for a row: nothing old is changed -/
def newRj (g : sg) (x y : Int32) (j : Nat) : sg := (fun c => if c = 10 then g.1 10 + 1 else g.1 c, (fun f a i => if f / 64 = 10 ∧ a = g.1 10 then (if f = 640 ∧ i = 0 then x else if f = 641 ∧ i = 0 then y else if f = 643 ∧ i < j then -1 else 0) else g.2.1 f a i), (fun f a i => if f / 64 = 10 ∧ a = g.1 10 then none else g.2.2.1 f a i), fun f a => if f / 64 = 10 ∧ a = g.1 10 then (if f = 643 then some 5 else none) else g.2.2.2 f a)
theorem newRj_0 (g : sg) (x y : Int32) : pI (pI (pA (pN g 10) 643 (gC g 10) 5) 640 (gC g 10) 0 x) 641 (gC g 10) 0 y = newRj g x y 0 := by
  unfold pI pA pN newRj gC
  refine Prod.ext ?_ (Prod.ext ?_ (Prod.ext ?_ ?_))
  · funext c
    dsimp only
    by_cases h : c = 10
    · subst h; rfl
    · rw [if_neg h, if_neg h]
  · funext f a i
    dsimp only
    by_cases ha : a = g.1 10
    · subst ha
      by_cases h1 : f = 641
      · subst h1
        by_cases hi : i = 0
        · subst hi; simp
        · simp [hi]
      · by_cases h2 : f = 640
        · subst h2
          by_cases hi : i = 0
          · subst hi; simp
          · simp [hi]
        · by_cases h3 : f = 643
          · subst h3; simp
          · by_cases h4 : f / 64 = 10
            · simp [h1, h2, h3, h4]
            · simp [h1, h2, h3, h4]
    · simp [ha]
  · funext f a i
    dsimp only
    by_cases ha : a = g.1 10
    · subst ha
      by_cases h3 : f = 643
      · subst h3; simp
      · by_cases h4 : f / 64 = 10
        · simp [h3, h4]
        · simp [h3, h4]
    · simp [ha]
  · funext f a
    dsimp only
    by_cases ha : a = g.1 10
    · subst ha
      by_cases h3 : f = 643
      · subst h3; simp
      · by_cases h4 : f / 64 = 10
        · simp [h3, h4]
        · simp [h3, h4]
    · simp [ha]
theorem newRj_s (g : sg) (x y : Int32) (j : Nat) : pI (newRj g x y j) 643 (gC g 10) j (-1) = newRj g x y (j + 1) := by
  unfold pI newRj gC
  refine Prod.ext rfl (Prod.ext ?_ rfl)
  funext f a i
  dsimp only
  by_cases ha : a = g.1 10
  · subst ha
    by_cases h3 : f = 643
    · subst h3
      by_cases hi : i = j
      · subst hi; simp
      · by_cases hl : i < j
        · simp [hi, hl, show i < j + 1 by omega]
        · simp [hi, hl, show ¬ i < j + 1 by omega]
    · by_cases h4 : f / 64 = 10
      · simp [h3, h4]
      · simp [h3, h4]
  · simp [ha]
theorem c_Route_init {X : Nat × (Nat → Int32)} {kk : Nat} {g : sg} {x y : Int32} {Z : sg → Prop} (hk : 1 ≤ kk) (h : Z (newRj g x y 5)) : nnMT X M_Route_init kk [qr 10 (some (gC g 10)), qi x, qi y] (pN g 10) (zV Z) := by
  refine t_Route_init ⟨hk, ?_, fun g1 h1 g2 h2 g3 h3 => ?_⟩
  · rw [gA_pN, if_pos ⟨rfl, rfl⟩]
  · subst h1 h2
    rw [newRj_0] at h3
    subst h3
    have key : ∀ j, j ≤ 5 → nnWP X M_Route_init (kk - 1) 23 [qr 10 (some (gC g 10)), none, none, qi (nI j)] [] (newRj g x y j) (zV Z) := by
      refine dn 5 ?_ ?_
      · exact b_Route_init_23 ⟨fun _ => h, fun c => absurd (by decide) c⟩
      · intro j hj ih
        refine b_Route_init_23 ⟨fun c => ?_, fun _ => ?_⟩
        · rw [nl_5, nI_leI (by omega) (by omega)] at c
          omega
        · rw [nI_1, nI_clamp (by omega)]
          refine ⟨?_, (vpi (by omega)).mpr hj, fun g1 h1 => ?_⟩
          · show (if 643 / 64 = 10 ∧ gC g 10 = g.1 10 then (if (643 : Nat) = 643 then some 5 else none) else _) = some 5
            rw [if_pos ⟨rfl, rfl⟩, if_pos rfl]
          · rw [newRj_s] at h1
            subst h1
            exact ih
    exact key 0 (Nat.zero_le _)
