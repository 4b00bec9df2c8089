def b2 (b : Bool) : Int32 := if b = true then 1 else 0
def inN (x : Int32) (n : Nat) : Bool := decide (¬ x < 0) && decide (¬ nI n ≤ x)
theorem inN_of {x : Int32} {n : Nat} (hn : n < 2 ^ 31) (h : inN x n = true) : ∃ j : Nat, j < n ∧ x = nI j := by
  unfold inN at h
  simp only [Bool.and_eq_true, decide_eq_true_eq] at h
  exact ins5 h.1 h.2 hn
theorem inN_nI {j n : Nat} (hj : j < n) (hn : n < 2 ^ 31) : inN (nI j) n = true := by
  unfold inN
  simp only [Bool.and_eq_true, decide_eq_true_eq]
  exact ⟨nI_pos (by omega), nI_ge hj hn⟩
theorem lt4 (x : Int32) : (4 : Int32) < x ↔ nI 5 ≤ x := by
  rw [Int32.lt_iff_toInt_lt, Int32.le_iff_toInt_le, nI_toInt (by decide)]
  have : (4 : Int32).toInt = 4 := by decide
  omega
theorem lt3 (x : Int32) : (3 : Int32) < x ↔ nI 4 ≤ x := by
  rw [Int32.lt_iff_toInt_lt, Int32.le_iff_toInt_le, nI_toInt (by decide)]
  have : (3 : Int32).toInt = 3 := by decide
  omega
theorem c_Mod_isNode {u : MS} {x : Int32} {Z : Int32 → MS → Prop} (h : Z (b2 (inN x 5)) u) : mMT M_Mod_isNode [qi x] u (mI Z) := by
  refine mt_Mod_isNode ⟨fun h1 => ?_, fun h1 => ⟨fun h2 => ?_, fun h2 => ?_⟩⟩
  · simpa [b2, inN, h1] using h
  · rw [lt4] at h2
    simpa [b2, inN, h2] using h
  · rw [lt4] at h2
    simpa [b2, inN, h1, h2] using h
theorem c_Mod_isName {u : MS} {x : Int32} {N : Nat} {Z : Int32 → MS → Prop} (hN : u 70 0 = nI N) (h : Z (b2 (inN x N)) u) : mMT M_Mod_isName [qr 1 (some 0), qi x] u (mI Z) := by
  refine mt_Mod_isName ⟨fun h1 => ?_, fun h1 => ⟨fun h2 => ?_, fun h2 => ?_⟩⟩
  · simpa [b2, inN, h1] using h
  · rw [hN] at h2
    simpa [b2, inN, h2] using h
  · rw [hN] at h2
    simpa [b2, inN, h1, h2] using h
theorem c_Mod_isWire {u : MS} {x y : Int32} {Z : Int32 → MS → Prop} (h : Z (b2 (inN x 5 && inN y 4)) u) : mMT M_Mod_isWire [qi x, qi y] u (mI Z) := by
  refine mt_Mod_isWire (c_Mod_isNode ⟨fun h1 => ?_, fun h1 => ⟨fun h2 => ?_, fun h2 => ⟨fun h3 => ?_, fun h3 => ?_⟩⟩⟩)
  · have : inN x 5 = false := by
      cases hh : inN x 5 with
      | false => rfl
      | true => rw [hh] at h1; cases h1
    simpa [b2, this] using h
  · simpa [b2, inN, h2] using h
  · rw [lt3] at h3
    simpa [b2, inN, h3] using h
  · rw [lt3] at h3
    have : inN x 5 = true := by
      cases hh : inN x 5 with
      | true => rfl
      | false => rw [hh] at h1; exact absurd rfl h1
    have hy : inN y 4 = true := by simp [inN, h2, h3]
    simpa [b2, this, hy] using h
theorem c_Mod_route {u : MS} {a b : Int32} {R : Nat} {Z : Int32 → MS → Prop} (hR : u 79 0 = nI R) (hR2 : R ≤ 50) (h : Z (fst (fun r => decide (u 80 r = a) && decide (u 81 r = b)) 0 R) u) : mMT M_Mod_route [qr 1 (some 0), qi a, qi b] u (mI Z) := by
  refine mt_Mod_route ?_
  have key : ∀ r, r ≤ R → Z (fst (fun r => decide (u 80 r = a) && decide (u 81 r = b)) r (R - r)) u → mWP M_Mod_route 2 [qr 1 (some 0), qi a, qi b, qi (nI r)] [] u (mI Z) := by
    refine dn R ?_ ?_
    · intro hz
      refine mb_Mod_route_2 ⟨fun _ => ?_, fun hc => ?_⟩
      · simpa [fst] using hz
      · rw [hR] at hc
        exact absurd (nI_le (Nat.le_refl _) (by omega)) hc
    · intro r hr ih hz
      rw [show R - r = (R - (r + 1)) + 1 by omega] at hz
      refine mb_Mod_route_2 ⟨fun hc => ?_, fun _ => ⟨?_, ?_, ?_⟩⟩
      · rw [hR] at hc
        exact absurd hc (nI_ge hr (by omega))
      · exact (vpi (by omega)).mpr (by omega)
      · intro h1
        rw [nI_clamp (by omega)] at h1
        refine meq (ih ?_) (by rw [nI_1])
        simpa [fst, h1] using hz
      · rw [nI_clamp (by omega)]
        refine fun h1 => ⟨fun h2 => ?_, fun h2 => ?_⟩
        · refine meq (ih ?_) (by rw [nI_1])
          simpa [fst, h1, h2] using hz
        · simpa [fst, h1, h2] using hz
  exact key 0 (Nat.zero_le _) h
