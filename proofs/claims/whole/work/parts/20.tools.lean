theorem nl_0 : (0 : Int32) = nI 0 := rfl
theorem nl_1 : (1 : Int32) = nI 1 := rfl
theorem nl_2 : (2 : Int32) = nI 2 := rfl
theorem nl_3 : (3 : Int32) = nI 3 := rfl
theorem nl_4 : (4 : Int32) = nI 4 := rfl
theorem nl_5 : (5 : Int32) = nI 5 := rfl
theorem nl_6 : (6 : Int32) = nI 6 := rfl
theorem nl_7 : (7 : Int32) = nI 7 := rfl
theorem nl_8 : (8 : Int32) = nI 8 := rfl
theorem nl_9 : (9 : Int32) = nI 9 := rfl
theorem nl_10 : (10 : Int32) = nI 10 := rfl
theorem nl_20 : (20 : Int32) = nI 20 := rfl
theorem nl_24 : (24 : Int32) = nI 24 := rfl
theorem nl_30 : (30 : Int32) = nI 30 := rfl
theorem nl_31 : (31 : Int32) = nI 31 := rfl
theorem nl_32 : (32 : Int32) = nI 32 := rfl
theorem nl_40 : (40 : Int32) = nI 40 := rfl
theorem nl_47 : (47 : Int32) = nI 47 := rfl
theorem nl_48 : (48 : Int32) = nI 48 := rfl
theorem nl_50 : (50 : Int32) = nI 50 := rfl
theorem nl_57 : (57 : Int32) = nI 57 := rfl
theorem nl_97 : (97 : Int32) = nI 97 := rfl
theorem nl_99 : (99 : Int32) = nI 99 := rfl
theorem nl_120 : (120 : Int32) = nI 120 := rfl
theorem nl_122 : (122 : Int32) = nI 122 := rfl
theorem nl_126 : (126 : Int32) = nI 126 := rfl
theorem nl_128 : (128 : Int32) = nI 128 := rfl
theorem nl_144 : (144 : Int32) = nI 144 := rfl
theorem nl_150 : (150 : Int32) = nI 150 := rfl
theorem nl_250 : (250 : Int32) = nI 250 := rfl
theorem nl_800 : (800 : Int32) = nI 800 := rfl
theorem nl_1000 : (1000 : Int32) = nI 1000 := rfl
theorem nl_1250 : (1250 : Int32) = nI 1250 := rfl
theorem dn {P : Nat → Prop} (N : Nat) (hN : P N) (hs : ∀ i, i < N → P (i + 1) → P i) : ∀ i, i ≤ N → P i := by
  have key : ∀ d i, i + d = N → P i := by
    intro d
    induction d with
    | zero => intro i hi; have : i = N := by omega
              rw [this]; exact hN
    | succ d ih => intro i hi; exact hs i (by omega) (ih (i + 1) (by omega))
  intro i hi
  exact key (N - i) i (by omega)
theorem meq {M : mrec} {pc : Nat} {ls ls' st : List qv} {u : MS} {Z : qv → MS → Prop} (h : mWP M pc ls st u Z) (e : ls = ls') : mWP M pc ls' st u Z := e ▸ h
theorem vpi {k n : Nat} (hk : k < 2 ^ 31) : vp_in (nI k) n ↔ k < n := by
  rw [vp_in_iff, nI_toInt hk]
  omega
theorem nI_m1 {n : Nat} (h : n < 2 ^ 31) : ¬ nI n = -1 := by
  intro e
  have h1 := congrArg Int32.toInt e
  rw [nI_toInt h] at h1
  have h2 : (-1 : Int32).toInt = -1 := by decide
  omega
theorem m1_nI {n : Nat} (h : n < 2 ^ 31) : ¬ (-1 : Int32) = nI n := fun e => nI_m1 h e.symm
theorem ins5 {x : Int32} {n : Nat} (h0 : ¬ x < 0) (h : ¬ nI n ≤ x) (hn : n < 2 ^ 31) : ∃ j : Nat, j < n ∧ x = nI j := by
  rcases pk_ix x hn with h1 | h1 | h1
  · exact absurd h1 h0
  · exact absurd h1 h
  · exact h1
/-- the first place from lo on, of n, with P -/
def fst (P : Nat → Bool) (lo : Nat) : Nat → Int32
  | 0 => -1
  | n + 1 => if P lo = true then nI lo else fst P (lo + 1) n
theorem fst_no {P : Nat → Bool} : ∀ {n lo : Nat}, (∀ j, lo ≤ j → j < lo + n → P j = false) → fst P lo n = -1
  | 0, _, _ => rfl
  | n + 1, lo, h => by
    have h1 := h lo (Nat.le_refl _) (by omega)
    show (if P lo = true then nI lo else fst P (lo + 1) n) = -1
    rw [if_neg (by rw [h1]; decide)]
    exact fst_no (fun j hj hj2 => h j (by omega) (by omega))
theorem fst_at {P : Nat → Bool} : ∀ {n lo : Nat} (j : Nat), lo ≤ j → j < lo + n → P j = true → (∀ i, lo ≤ i → i < j → P i = false) → fst P lo n = nI j
  | 0, lo, j, h1, h2, _, _ => by omega
  | n + 1, lo, j, h1, h2, h3, h4 => by
    show (if P lo = true then nI lo else fst P (lo + 1) n) = nI j
    by_cases hj : lo = j
    · subst hj; rw [if_pos h3]
    · rw [if_neg (by rw [h4 lo (Nat.le_refl _) (by omega)]; decide)]
      exact fst_at j (by omega) (by omega) h3 (fun i hi hi2 => h4 i (by omega) hi2)
theorem fst_cases (P : Nat → Bool) : ∀ (n lo : Nat), (fst P lo n = -1 ∧ ∀ j, lo ≤ j → j < lo + n → P j = false) ∨ ∃ j, lo ≤ j ∧ j < lo + n ∧ P j = true ∧ (∀ i, lo ≤ i → i < j → P i = false) ∧ fst P lo n = nI j
  | 0, lo => Or.inl ⟨rfl, fun j h1 h2 => by omega⟩
  | n + 1, lo => by
    by_cases h : P lo = true
    · exact Or.inr ⟨lo, Nat.le_refl _, by omega, h, fun i h1 h2 => by omega, if_pos h⟩
    · have hf : P lo = false := by simpa using h
      have he : fst P lo (n + 1) = fst P (lo + 1) n := if_neg h
      rcases fst_cases P n (lo + 1) with ⟨h1, h2⟩ | ⟨j, h1, h2, h3, h4, h5⟩
      · refine Or.inl ⟨he.trans h1, fun j hj hj2 => ?_⟩
        by_cases hl : j = lo
        · rw [hl]; exact hf
        · exact h2 j (by omega) (by omega)
      · refine Or.inr ⟨j, by omega, by omega, h3, fun i hi hi2 => ?_, he.trans h5⟩
        by_cases hl : i = lo
        · rw [hl]; exact hf
        · exact h4 i (by omega) hi2
