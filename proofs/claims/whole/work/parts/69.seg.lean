/-! what a request leaves of the fetches -/
def hi9 (u v : MS) : Prop := ∀ k y, 109 ≤ k → v k y = u k y
theorem hi9.rf {u : MS} : hi9 u u := fun _ _ _ => rfl
theorem hi9.tr {u v w : MS} (h : hi9 u v) (k : hi9 v w) : hi9 u w := fun a b c => (k a b c).trans (h a b c)
theorem hi9_mu {u : MS} {k y : Nat} {x : Int32} (h : k < 109) : hi9 u (mu u k y x) := fun a b c => by rw [mu_at, if_neg (by omega)]
theorem hi9_st {u : MS} {i n f s a b : Int32} {j : Nat} : hi9 u (stU u i n f s a b j) := fun k y c => by
  unfold stU
  rw [if_neg (by omega), if_neg (by omega), if_neg (by omega)]
theorem hi9_put {u : MS} {e : Nat} {k a b c d : Int32} : hi9 u (putU u e k a b c d) := by
  unfold putU
  split
  · exact hi9.rf
  · exact ((((((hi9_mu (by omega)).tr (hi9_mu (by omega))).tr (hi9_mu (by omega))).tr (hi9_mu (by omega))).tr (hi9_mu (by omega))).tr (hi9_mu (by omega)))
theorem hi9_nk {u : MS} {Q i F : Nat} {x y z : Int32} : hi9 u (nkU u Q i F x y z) := by
  unfold nkU
  split
  · exact hi9_st
  · exact hi9_put
theorem hi9_dt {u : MS} {Q i F : Nat} {x y w n f : Int32} : hi9 u (dtU u Q i F x y w n f) := by
  unfold dtU
  split
  · exact hi9_st
  · exact hi9_put
theorem hi9_sh {u : MS} {i c x j : Nat} : hi9 u (shU u i c x j) := fun k y h => by
  unfold shU
  rw [if_neg (by omega), if_neg (by omega)]
theorem hi9_en {u : MS} {i c : Nat} {x y p t : Int32} : hi9 u (enU u i c x y p t) := by
  unfold enU
  exact (((((hi9_mu (by omega)).tr (hi9_mu (by omega))).tr (hi9_mu (by omega))).tr (hi9_mu (by omega))).tr (hi9_mu (by omega)))
theorem hi9_sev {u : MS} {i b : Nat} : hi9 u (sevU u i b) := hi9_sh.tr hi9_en
theorem hi9_er {u : MS} {k F : Nat} {z : Int32} : hi9 u (erU u k F z) := (hi9_mu (by omega)).tr (hi9_mu (by omega))
theorem hi9_ak {u : MS} {e F : Nat} {z t hp : Int32} : hi9 u (akU u e F z t hp) := (((hi9_mu (by omega)).tr (hi9_mu (by omega))).tr (hi9_mu (by omega))).tr (hi9_mu (by omega))
theorem hi9_nw {u : MS} {i c : Nat} {x y : Int32} : hi9 u (nwU u i c x y) := by
  refine hi9.tr (v := neU u (6 * i + c) x y 5) (fun k w h => ?_) (hi9_mu (by omega))
  unfold neU
  rw [if_neg (by omega), if_neg (by omega), if_neg (by omega)]
theorem hi9_rm {u : MS} {i c x : Nat} : hi9 u (rmF u i c x) := fun k y h => by
  unfold rmF rmU
  rw [if_neg (by omega), if_neg (by omega), if_neg (by omega)]
theorem hi9_s8 {u : MS} {k f : Nat} : hi9 u (s8 u k f) := fun kk y h => by
  unfold s8
  rw [if_neg (by omega)]
theorem hi9_ns {w : MS} {Q i : Nat} {x y : Int32} {b : Nat → Bool} {z : Nat → Int32} : ∀ n, hi9 w (nsU w Q i x y b z n)
  | 0 => hi9.rf
  | f + 1 => by
    show hi9 w (if b f = true then nkU (nsU w Q i x y b z f) Q i f x y (z f) else nsU w Q i x y b z f)
    split
    · exact (hi9_ns f).tr hi9_nk
    · exact hi9_ns f
theorem hi9_ds {u : MS} {Q i : Nat} {x y w n f : Int32} {b : Nat → Bool} : ∀ F, hi9 u (dsU u Q i x y w n f b F)
  | 0 => hi9.rf
  | F + 1 => by
    show hi9 u (if b F = true then dtU (dsU u Q i x y w n f b F) Q i F x y w n f else dsU u Q i x y w n f b F)
    split
    · exact (hi9_ds F).tr hi9_dt
    · exact hi9_ds F
theorem hi9_fa {u : MS} {Q i c x : Nat} : hi9 u (faU u Q i c x) := by
  unfold faU
  split
  · exact (hi9_s8.tr hi9_rm).tr (hi9_ns 5)
  · exact hi9.rf
theorem hi9_an {u : MS} {Q i c x : Nat} {n y w : Int32} : hi9 u (anU u Q i c x n y w) := (hi9_ds 5).tr hi9_rm
theorem hi9_keep {u : MS} {i : Nat} {x y w : Int32} : hi9 u (keepU u i x y w) := by
  unfold keepU
  split
  · exact hi9.rf
  · split
    · split
      · exact hi9_sh.tr hi9_en
      · exact hi9_en
    · exact hi9_sh.tr hi9_en
theorem hi9_da {Q i F n : Nat} {y w : Int32} : ∀ d j kept u, hi9 u (daU Q i F n y w d j kept u)
  | 0, _, _, _ => hi9.rf
  | d + 1, j, kept, u => by
    show hi9 u (if goB u i F n j = true then daU Q i F n y w d j true (anU (if kept = true then u else keepU u i (nI n) y w) Q i (j + d) j (nI n) y w) else daU Q i F n y w d (j + 1) kept u)
    split
    · refine hi9.tr (hi9.tr ?_ hi9_an) (hi9_da d j true _)
      split
      · exact hi9.rf
      · exact hi9_keep
    · exact hi9_da d (j + 1) kept u
theorem hi9_data {u : MS} {Q i F n : Nat} {y w : Int32} : hi9 u (dataU u Q i F n y w) := hi9_da _ _ _ _
theorem hi9_pt {u : MS} {Q i c j : Nat} {z : Int32} : ∀ o, hi9 u (ptU u Q i c j z o)
  | none => hi9_fa
  | some F => by
    show hi9 u (if u 95 (6 * i + j) = 0 then faU u Q i c j else putU (erU u (5 * (6 * i + j)) F z) (4 * i + F) 0 (u 93 (6 * i + j)) (u 94 (6 * i + j)) z (u 95 (6 * i + j) - 1))
    split
    · exact hi9_fa
    · exact hi9_er.tr hi9_put
theorem hi9_pa {u : MS} {Q R N i c j nm fl : Nat} {z : Int32} : hi9 u (paU u Q R N i c j nm fl z) := by
  unfold paU
  split
  · split
    · exact (hi9_er.tr (hi9_mu (by omega))).tr (hi9_pt _)
    · exact hi9_er.tr hi9_data
  · exact hi9_pt _
theorem hi9_is {u : MS} {Q R N i F nm fl h0 : Nat} {z : Int32} : hi9 u (isU u Q R N i F nm fl z h0) := by
  unfold isU
  split
  · exact hi9_sev.tr hi9_dt
  · split
    · split
      · exact hi9_nk
      · exact (hi9_nw.tr hi9_ak).tr hi9_pa
    · split
      · exact hi9_ak
      · exact hi9_ak.tr hi9_pa
theorem hi9_in {u : MS} {Q R N i F nm fl h0 : Nat} {z : Int32} : hi9 u (inU u Q R N i F nm fl z h0) := by
  unfold inU
  split
  · exact hi9_nk
  · exact hi9_is
theorem hi9_or {u : MS} {Q R N i n f h : Nat} : hi9 u (orU u Q R N i n f h) := by
  unfold orU
  refine hi9.tr ?_ hi9_in
  unfold nqU
  exact ((((((hi9_mu (by omega)).tr (hi9_mu (by omega))).tr (hi9_mu (by omega))).tr (hi9_mu (by omega))).tr (hi9_mu (by omega))).tr (hi9_mu (by omega))).tr (hi9_mu (by omega))
/-- one segment of one fetch changed -/
theorem rl_seg {S P N R Q i j c : Nat} {g g' : sg} {u v : MS} (h : rl9 S P N R Q g u) (hi : i < 5) (hj : j < c) (hc : c ≤ 10) (h109 : u 109 i = nI c)
    (eC : gC g' = gC g) (eA : gA g' = gA g) (eI : ∀ f a y, ¬ (f = 258 ∧ a = i ∧ y = 0) → ¬ ((f = 260 ∨ f = 261) ∧ a = i ∧ y = j) → gI g' f a y = gI g f a y) (eR : ∀ f a y, ¬ (f = 262 ∧ a = i ∧ y = j) → gR g' f a y = gR g f a y)
    (eU : ∀ f y, ¬ (f = 111 ∧ y = i) → ¬ (113 ≤ f ∧ f ≤ 115 ∧ y = 10 * i + j) → v f y = u f y)
    (h111 : gI g' 258 i 0 = v 111 i ∧ (v 111 i = 0 ∨ v 111 i = 1) ∧ (v 111 i = 0 → u 111 i = 0))
    (hcell : gI g' 260 i j = v 113 (10 * i + j) ∧ ∃ t, t ≤ 3 ∧ gI g' 261 i j = nI t ∧ v 114 (10 * i + j) = nI t ∧ ((v 113 (10 * i + j) = 0 ∧ (v 111 i = 0 → t < 3)) ∨ ∃ q, q < Q ∧ gR g' 262 i j = some q ∧ v 115 (10 * i + j) = nI q ∧ (v 113 (10 * i + j) = 1 ∨ (v 113 (10 * i + j) = 2 ∧ u 105 q = 1)))) : rl9 S P N R Q g' v := by
  have fI : ∀ f, f ≠ 258 → f ≠ 260 → f ≠ 261 → gI g' f = gI g f := fun f h1 h2 h3 => by funext a y; exact eI f a y (by omega) (by omega)
  have fR : ∀ f, f ≠ 262 → gR g' f = gR g f := fun f h1 => by funext a y; exact eR f a y (by omega)
  have fU : ∀ f, f ≠ 111 → ¬ (113 ≤ f ∧ f ≤ 115) → v f = u f := fun f h1 h2 => by funext y; exact eU f y (by omega) (by omega)
  obtain ⟨hsh, hT, hN, hW, hG, hRR, hS, hE, hQ, hF, hP⟩ := h
  refine ⟨?_, ?_, ?_, ?_, ?_, ?_, ?_, ?_, ?_, fun i' hi' => ?_, ?_⟩
  · unfold shC at hsh ⊢
    rw [eA]
    simp only [fI 384 (by decide) (by decide) (by decide), fR 5 (by decide), fR 6 (by decide), fR 385 (by decide), fR 386 (by decide), fR 387 (by decide), fR 388 (by decide), fR 389 (by decide)]
    exact hsh
  · unfold rT at hT ⊢
    simp only [fI 0 (by decide) (by decide) (by decide), fI 1 (by decide) (by decide) (by decide), fI 2 (by decide) (by decide) (by decide), fI 3 (by decide) (by decide) (by decide), fU 66 (by decide) (by decide), fU 67 (by decide) (by decide), fU 68 (by decide) (by decide), fU 69 (by decide) (by decide)]
    exact hT
  · unfold rN at hN ⊢
    simp only [fI 320 (by decide) (by decide) (by decide), fI 321 (by decide) (by decide) (by decide), fI 322 (by decide) (by decide) (by decide), fI 323 (by decide) (by decide) (by decide), fU 70 (by decide) (by decide), fU 71 (by decide) (by decide), fU 72 (by decide) (by decide), fU 73 (by decide) (by decide)]
    exact hN
  · unfold rW pkv at hW ⊢
    rw [eC]
    simp only [fI 194 (by decide) (by decide) (by decide), fI 192 (by decide) (by decide) (by decide), fI 193 (by decide) (by decide) (by decide), fI 196 (by decide) (by decide) (by decide), fR 195 (by decide), fI 448 (by decide) (by decide) (by decide), fI 449 (by decide) (by decide) (by decide), fI 450 (by decide) (by decide) (by decide), fI 451 (by decide) (by decide) (by decide), fI 452 (by decide) (by decide) (by decide), fI 453 (by decide) (by decide) (by decide), fI 454 (by decide) (by decide) (by decide), fI 455 (by decide) (by decide) (by decide), fI 456 (by decide) (by decide) (by decide), fI 457 (by decide) (by decide) (by decide), fU 74 (by decide) (by decide), fU 75 (by decide) (by decide), fU 76 (by decide) (by decide), fU 77 (by decide) (by decide), fU 80 (by decide) (by decide), fU 81 (by decide) (by decide)]
    exact hW
  · unfold rG at hG ⊢
    simp only [fU 79 (by decide) (by decide), fU 80 (by decide) (by decide), fU 81 (by decide) (by decide)]
    exact hG
  · unfold rR rRn at hRR ⊢
    rw [eC, eA]
    simp only [fI 705 (by decide) (by decide) (by decide), fI 640 (by decide) (by decide) (by decide), fI 641 (by decide) (by decide) (by decide), fI 642 (by decide) (by decide) (by decide), fI 643 (by decide) (by decide) (by decide), fR 704 (by decide), fU 80 (by decide) (by decide), fU 81 (by decide) (by decide), fU 82 (by decide) (by decide), fU 83 (by decide) (by decide)]
    exact hRR
  · unfold rS dtv at hS ⊢
    rw [eC]
    simp only [fI 770 (by decide) (by decide) (by decide), fI 769 (by decide) (by decide) (by decide), fR 768 (by decide), fI 448 (by decide) (by decide) (by decide), fI 449 (by decide) (by decide) (by decide), fI 453 (by decide) (by decide) (by decide), fI 454 (by decide) (by decide) (by decide), fU 64 (by decide) (by decide), fU 84 (by decide) (by decide), fU 85 (by decide) (by decide), fU 86 (by decide) (by decide), fU 87 (by decide) (by decide), fU 88 (by decide) (by decide)]
    exact hS
  · unfold rE rEn enf at hE ⊢
    simp only [fI 128 (by decide) (by decide) (by decide), fI 129 (by decide) (by decide) (by decide), fI 130 (by decide) (by decide) (by decide), fI 131 (by decide) (by decide) (by decide), fI 132 (by decide) (by decide) (by decide), fI 133 (by decide) (by decide) (by decide), fI 134 (by decide) (by decide) (by decide), fI 513 (by decide) (by decide) (by decide), fR 512 (by decide), fU 65 (by decide) (by decide), fU 92 (by decide) (by decide), fU 93 (by decide) (by decide), fU 94 (by decide) (by decide), fU 95 (by decide) (by decide), fU 96 (by decide) (by decide), fU 97 (by decide) (by decide), fU 98 (by decide) (by decide), fU 99 (by decide) (by decide), fU 100 (by decide) (by decide)]
    exact hE
  · unfold rQ dtv at hQ ⊢
    rw [eC]
    simp only [fI 10 (by decide) (by decide) (by decide), fR 9 (by decide), fI 576 (by decide) (by decide) (by decide), fI 577 (by decide) (by decide) (by decide), fI 578 (by decide) (by decide) (by decide), fI 579 (by decide) (by decide) (by decide), fI 580 (by decide) (by decide) (by decide), fR 581 (by decide), fI 448 (by decide) (by decide) (by decide), fI 449 (by decide) (by decide) (by decide), fI 453 (by decide) (by decide) (by decide), fI 454 (by decide) (by decide) (by decide), fU 101 (by decide) (by decide), fU 102 (by decide) (by decide), fU 103 (by decide) (by decide), fU 104 (by decide) (by decide), fU 105 (by decide) (by decide), fU 106 (by decide) (by decide), fU 107 (by decide) (by decide), fU 108 (by decide) (by decide)]
    exact hQ
  · obtain ⟨c', w, f1, f2, f3, f4, f5, f6, f7, f8, f9⟩ := hF i' hi'
    have g256 : gI g' 256 i' 0 = nI c' := by rw [fI 256 (by decide) (by decide) (by decide)]; exact f3
    have g257 : gI g' 257 i' 0 = nI w := by rw [fI 257 (by decide) (by decide) (by decide)]; exact f5
    have v109 : v 109 i' = nI c' := by rw [fU 109 (by decide) (by decide)]; exact f4
    have v110 : v 110 i' = nI w := by rw [fU 110 (by decide) (by decide)]; exact f6
    by_cases e : i' = i
    · subst e
      have hcc : c' = c := by
        rw [f4, nI_eq (by omega) (by omega)] at h109
        exact h109
      subst hcc
      refine ⟨c', w, f1, f2, g256, v109, g257, v110, h111.1, h111.2.1, fun j' hj' => ?_⟩
      obtain ⟨k1, k2, k3, t, k4, k5, k6, k7⟩ := f9 j' hj'
      by_cases ej : j' = j
      · subst ej
        obtain ⟨z1, t', z2, z3, z4, z5⟩ := hcell
        refine ⟨by rw [fI 259 (by decide) (by decide) (by decide), fU 112 (by decide) (by decide)]; exact k1, by rw [fU 112 (by decide) (by decide)]; exact k2, z1, t', z2, z3, z4, ?_⟩
        rw [fU 105 (by decide) (by decide)]
        exact z5
      · rw [fI 259 (by decide) (by decide) (by decide), fU 112 (by decide) (by decide), fU 105 (by decide) (by decide), eI 260 _ _ (by omega) (by omega), eI 261 _ _ (by omega) (by omega), eR 262 _ _ (by omega), eU 113 _ (by omega) (by omega), eU 114 _ (by omega) (by omega), eU 115 _ (by omega) (by omega)]
        refine ⟨k1, k2, k3, t, k4, k5, k6, ?_⟩
        rcases k7 with ⟨z1, z2⟩ | z
        · exact Or.inl ⟨z1, fun q => z2 (h111.2.2 q)⟩
        · exact Or.inr z
    · refine ⟨c', w, f1, f2, g256, v109, g257, v110, by rw [eI 258 _ _ (by omega) (by omega), eU 111 _ (by omega) (by omega)]; exact f7, by rw [eU 111 _ (by omega) (by omega)]; exact f8, fun j' hj' => ?_⟩
      rw [fI 259 (by decide) (by decide) (by decide), fU 112 (by decide) (by decide), fU 105 (by decide) (by decide), eI 260 _ _ (by omega) (by omega), eI 261 _ _ (by omega) (by omega), eR 262 _ _ (by omega), eU 111 _ (by omega) (by omega), eU 113 _ (by omega) (by omega), eU 114 _ (by omega) (by omega), eU 115 _ (by omega) (by omega)]
      exact f9 j' hj'
  · unfold rP dtv at hP ⊢
    rw [eC]
    simp only [fR 7 (by decide), fI 8 (by decide) (by decide) (by decide), fI 448 (by decide) (by decide) (by decide), fI 449 (by decide) (by decide) (by decide), fI 453 (by decide) (by decide) (by decide), fI 454 (by decide) (by decide) (by decide), fU 89 (by decide) (by decide), fU 90 (by decide) (by decide), fU 91 (by decide) (by decide)]
    exact hP
