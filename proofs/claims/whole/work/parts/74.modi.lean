/-- a value held within two bounds -/
def wv (x : Int32) (lo hi S : Nat) : Prop := lo ≤ S ∧ S ≤ hi ∧ (if nI lo < (if x < nI hi then x else nI hi) then (if x < nI hi then x else nI hi) else nI lo) = nI S ∧ (nI lo ≤ x → (x ≤ nI hi → x = nI S) ∧ (¬ x ≤ nI hi → nI hi = nI S)) ∧ (¬ nI lo ≤ x → nI lo = nI S)
theorem wv_ex (x : Int32) {lo hi : Nat} (h : lo ≤ hi) (hh : hi < 1000) : ∃ S, wv x lo hi S := by
  by_cases c0 : x < 0
  · have t0 : x.toInt < 0 := by rw [Int32.lt_iff_toInt_lt] at c0; exact c0
    have n1 : ¬ nI lo ≤ x := by rw [Int32.le_iff_toInt_le, nI_toInt (by omega)]; omega
    have n2 : x < nI hi := by rw [Int32.lt_iff_toInt_lt, nI_toInt (by omega)]; omega
    have n3 : ¬ nI lo < x := by rw [Int32.lt_iff_toInt_lt, nI_toInt (by omega)]; omega
    exact ⟨lo, Nat.le_refl _, h, by rw [if_pos n2, if_neg n3], fun q => absurd q n1, fun _ => rfl⟩
  · obtain ⟨j, hj, rfl⟩ := nI_of c0
    have e1 : nI j < nI hi ↔ j < hi := nI_ltI hj (by omega)
    have e2 : nI lo < nI j ↔ lo < j := nI_ltI (by omega) hj
    have e3 : nI lo < nI hi ↔ lo < hi := nI_ltI (by omega) (by omega)
    have e4 : nI lo ≤ nI j ↔ lo ≤ j := nI_leI (by omega) hj
    have e5 : nI j ≤ nI hi ↔ j ≤ hi := nI_leI hj (by omega)
    unfold wv
    simp only [e1, e4, e5]
    by_cases c1 : j < lo
    · refine ⟨lo, Nat.le_refl _, h, ?_, fun q => absurd q (by omega), fun _ => rfl⟩
      have hjh : j < hi := by omega
      have hnl : ¬ nI lo < nI j := fun q => by rw [e2] at q; omega
      rw [if_pos hjh, if_neg hnl]
    · by_cases c2 : j < hi
      · refine ⟨j, by omega, by omega, ?_, fun _ => ⟨fun _ => rfl, fun q => absurd (by omega) q⟩, fun q => absurd (by omega) q⟩
        rw [if_pos c2]
        by_cases c3 : lo < j
        · rw [if_pos (e2.mpr c3)]
        · rw [if_neg (fun q => c3 (e2.mp q)), show lo = j by omega]
      · refine ⟨hi, h, Nat.le_refl _, ?_, fun _ => ⟨fun q => by rw [show j = hi by omega], fun _ => rfl⟩, fun q => absurd (by omega) q⟩
        rw [if_neg c2]
        by_cases c3 : lo < hi
        · rw [if_pos (e3.mpr c3)]
        · rw [if_neg (fun q => c3 (e3.mp q)), show lo = hi by omega]
theorem c_Net_withinX {X : Nat × (Nat → Int32)} {kk lo hi S : Nat} {g : sg} {x : Int32} {Z : Int32 → sg → Prop} (h : wv x lo hi S) (hZ : Z (nI S) g) : nnMT X M_Net_within kk [qi x, qi (nI lo), qi (nI hi)] g (zI Z) := by
  refine t_Net_within ?_
  rw [h.2.2.1]
  exact hZ
theorem c_Mod_withinX {X : Nat × (Nat → Int32)} {lo hi S : Nat} {g : sg} {x : Int32} {Z : Int32 → sg → Prop} (h : wv x lo hi S) (hs : shM g) (hZ : ∀ g', shM g' → absM g' = absM g → Z (nI S) g') : nnMT X M_Mod_within 0 [qi x, qi (nI lo), qi (nI hi)] g (zI Z) := by
  refine mt_mono (mMT.nn (mt_Mod_within (Z := fun v μ => v = nI S ∧ μ = absM g) ⟨fun q => ⟨fun q2 => ?_, fun q2 => ?_⟩, fun q => ?_⟩) hs) ?_
  · exact ⟨(h.2.2.2.1 q).1 q2, rfl⟩
  · exact ⟨(h.2.2.2.1 q).2 q2, rfl⟩
  · exact ⟨h.2.2.2.2 q, rfl⟩
  · rintro _ g2 ⟨hs2, v, rfl, rfl, hμ⟩
    exact ⟨_, rfl, hZ g2 hs2 hμ⟩
theorem z_pA {g : sg} {f a y k x n : Nat} (h : gI g f a y = 0) : gI (pA g k x n) f a y = 0 := by
  rw [gI_pA]
  split
  · rfl
  · exact h
theorem a_pA {g : sg} {f n m m' : Nat} (h : ∀ f', m ≤ f' → f' < 128 → gA g f' 0 = none) (hf : f < m') (hm : m ≤ m') : ∀ f', m' ≤ f' → f' < 128 → gA (pA g f 0 n) f' 0 = none := fun f' h1 h2 => by
  rw [gA_pA, if_neg (by omega)]
  exact h f' (by omega) h2
theorem i_pA {g : sg} {f n : Nat} (h : ∀ f' y, f' / 64 = 1 → f' ≠ 70 → gI g f' 0 y = 0) : ∀ f' y, f' / 64 = 1 → f' ≠ 70 → gI (pA g f 0 n) f' 0 y = 0 := fun f' y h1 h2 => z_pA (h f' y h1 h2)
theorem x_pA {g : sg} {f n : Nat} (h : gI g 70 0 0 = 1) (hf : f ≠ 70) : gI (pA g f 0 n) 70 0 0 = 1 := by
  rw [gI_pA, if_neg (fun z => hf z.1.symm)]
  exact h
def shP (l : List (Nat × Nat)) (g : sg) : Prop := ∀ q ∈ l, gA g q.1 0 = some q.2
theorem shP_s {l : List (Nat × Nat)} {g : sg} {f n : Nat} (h : shP l g) (hl : ∀ q ∈ l, q.1 ≠ f) : shP (l ++ [(f, n)]) (pA g f 0 n) := by
  intro q hq
  rw [List.mem_append] at hq
  rcases hq with hq | hq
  · rw [gA_pA, if_neg (fun z => hl q hq z.1)]
    exact h q hq
  · obtain rfl := List.mem_singleton.mp hq
    rw [gA_pA, if_pos ⟨rfl, rfl⟩]
theorem modi_c {X : Nat × (Nat → Int32)} {g : sg} {x y z : Int32} {S P L : Nat} {Z : sg → Prop} (h1 : gC g 1 = 0) (hx : wv x 0 6 S) (hy : wv y 1 6 P) (hz : wv z 1 9 L) (hZ : ∀ g', shM g' → (∀ f y, f ≠ 64 → f ≠ 65 → f ≠ 66 → f ≠ 70 → absM g' f y = 0) → absM g' 70 0 = 1 → absM g' 64 0 = nI S → absM g' 65 0 = nI P → absM g' 66 0 = nI L → Z g') : nnMT X M_Mod_init 327 [qr 1 (some 0), qi x, qi y, qi z] (pN g 1) (zV Z) := by
  have a0 : ∀ f', 64 ≤ f' → f' < 128 → gA (pN g 1) f' 0 = none := fun f' q1 q2 => by
    rw [gA_pN, if_pos ⟨by omega, h1.symm⟩]
  have i0 : ∀ f' y, f' / 64 = 1 → f' ≠ 70 → gI (pN g 1) f' 0 y = 0 := fun f' y q1 q2 => by
    rw [gI_pN, if_pos ⟨q1, h1.symm⟩]
  have s0 : shP [] (pN g 1) := fun q hq => absurd hq List.not_mem_nil
  refine t_Mod_init ?_
  refine ⟨by omega, a0 69 (by omega) (by omega), fun g1 y1 => ?_⟩
  have s1 := shP_s (n := 24) s0 (f := 69) (by decide)
  have a1 := a_pA (f := 69) (n := 24) (m' := 70) a0 (by omega) (by omega)
  have i1 := i_pA (f := 69) (n := 24) i0
  rw [← y1] at s1 a1 i1
  refine fun h1 w1 => ?_
  have x1 : gI h1 70 0 0 = 1 := by rw [w1, gI_pI, if_pos ⟨rfl, rfl, rfl⟩]
  have i1 : ∀ f' y, f' / 64 = 1 → f' ≠ 70 → gI h1 f' 0 y = 0 := fun f' y q1 q2 => by rw [w1, gI_pI, if_neg (fun z => q2 z.1)]; exact i1 f' y q1 q2
  have a1 : ∀ f', 70 ≤ f' → f' < 128 → gA h1 f' 0 = none := fun f' q1 q2 => by rw [w1]; exact a1 f' q1 q2
  have s1 : shP [(69, 24)] h1 := by rw [w1]; exact s1
  refine ⟨by omega, a1 71 (by omega) (by omega), fun g2 y2 => ?_⟩
  have s2 := shP_s (n := 48) s1 (f := 71) (by decide)
  have a2 := a_pA (f := 71) (n := 48) (m' := 72) a1 (by omega) (by omega)
  have i2 := i_pA (f := 71) (n := 48) i1
  rw [← y2] at s2 a2 i2
  have x2 := x_pA (f := 71) (n := 48) x1 (by decide)
  rw [← y2] at x2
  refine ⟨by omega, a2 72 (by omega) (by omega), fun g3 y3 => ?_⟩
  have s3 := shP_s (n := 48) s2 (f := 72) (by decide)
  have a3 := a_pA (f := 72) (n := 48) (m' := 73) a2 (by omega) (by omega)
  have i3 := i_pA (f := 72) (n := 48) i2
  rw [← y3] at s3 a3 i3
  have x3 := x_pA (f := 72) (n := 48) x2 (by decide)
  rw [← y3] at x3
  refine ⟨by omega, a3 73 (by omega) (by omega), fun g4 y4 => ?_⟩
  have s4 := shP_s (n := 144) s3 (f := 73) (by decide)
  have a4 := a_pA (f := 73) (n := 144) (m' := 74) a3 (by omega) (by omega)
  have i4 := i_pA (f := 73) (n := 144) i3
  rw [← y4] at s4 a4 i4
  have x4 := x_pA (f := 73) (n := 144) x3 (by decide)
  rw [← y4] at x4
  refine ⟨by omega, a4 74 (by omega) (by omega), fun g5 y5 => ?_⟩
  have s5 := shP_s (n := 20) s4 (f := 74) (by decide)
  have a5 := a_pA (f := 74) (n := 20) (m' := 75) a4 (by omega) (by omega)
  have i5 := i_pA (f := 74) (n := 20) i4
  rw [← y5] at s5 a5 i5
  have x5 := x_pA (f := 74) (n := 20) x4 (by decide)
  rw [← y5] at x5
  refine ⟨by omega, a5 75 (by omega) (by omega), fun g6 y6 => ?_⟩
  have s6 := shP_s (n := 20) s5 (f := 75) (by decide)
  have a6 := a_pA (f := 75) (n := 20) (m' := 76) a5 (by omega) (by omega)
  have i6 := i_pA (f := 75) (n := 20) i5
  rw [← y6] at s6 a6 i6
  have x6 := x_pA (f := 75) (n := 20) x5 (by decide)
  rw [← y6] at x6
  refine ⟨by omega, a6 76 (by omega) (by omega), fun g7 y7 => ?_⟩
  have s7 := shP_s (n := 20) s6 (f := 76) (by decide)
  have a7 := a_pA (f := 76) (n := 20) (m' := 77) a6 (by omega) (by omega)
  have i7 := i_pA (f := 76) (n := 20) i6
  rw [← y7] at s7 a7 i7
  have x7 := x_pA (f := 76) (n := 20) x6 (by decide)
  rw [← y7] at x7
  refine ⟨by omega, a7 77 (by omega) (by omega), fun g8 y8 => ?_⟩
  have s8 := shP_s (n := 800) s7 (f := 77) (by decide)
  have a8 := a_pA (f := 77) (n := 800) (m' := 78) a7 (by omega) (by omega)
  have i8 := i_pA (f := 77) (n := 800) i7
  rw [← y8] at s8 a8 i8
  have x8 := x_pA (f := 77) (n := 800) x7 (by decide)
  rw [← y8] at x8
  refine ⟨by omega, a8 78 (by omega) (by omega), fun g9 y9 => ?_⟩
  have s9 := shP_s (n := 5) s8 (f := 78) (by decide)
  have a9 := a_pA (f := 78) (n := 5) (m' := 79) a8 (by omega) (by omega)
  have i9 := i_pA (f := 78) (n := 5) i8
  rw [← y9] at s9 a9 i9
  have x9 := x_pA (f := 78) (n := 5) x8 (by decide)
  rw [← y9] at x9
  refine ⟨by omega, a9 80 (by omega) (by omega), fun g10 y10 => ?_⟩
  have s10 := shP_s (n := 50) s9 (f := 80) (by decide)
  have a10 := a_pA (f := 80) (n := 50) (m' := 81) a9 (by omega) (by omega)
  have i10 := i_pA (f := 80) (n := 50) i9
  rw [← y10] at s10 a10 i10
  have x10 := x_pA (f := 80) (n := 50) x9 (by decide)
  rw [← y10] at x10
  refine ⟨by omega, a10 81 (by omega) (by omega), fun g11 y11 => ?_⟩
  have s11 := shP_s (n := 50) s10 (f := 81) (by decide)
  have a11 := a_pA (f := 81) (n := 50) (m' := 82) a10 (by omega) (by omega)
  have i11 := i_pA (f := 81) (n := 50) i10
  rw [← y11] at s11 a11 i11
  have x11 := x_pA (f := 81) (n := 50) x10 (by decide)
  rw [← y11] at x11
  refine ⟨by omega, a11 82 (by omega) (by omega), fun g12 y12 => ?_⟩
  have s12 := shP_s (n := 250) s11 (f := 82) (by decide)
  have a12 := a_pA (f := 82) (n := 250) (m' := 83) a11 (by omega) (by omega)
  have i12 := i_pA (f := 82) (n := 250) i11
  rw [← y12] at s12 a12 i12
  have x12 := x_pA (f := 82) (n := 250) x11 (by decide)
  rw [← y12] at x12
  refine ⟨by omega, a12 83 (by omega) (by omega), fun g13 y13 => ?_⟩
  have s13 := shP_s (n := 1250) s12 (f := 83) (by decide)
  have a13 := a_pA (f := 83) (n := 1250) (m' := 84) a12 (by omega) (by omega)
  have i13 := i_pA (f := 83) (n := 1250) i12
  rw [← y13] at s13 a13 i13
  have x13 := x_pA (f := 83) (n := 1250) x12 (by decide)
  rw [← y13] at x13
  refine ⟨by omega, a13 84 (by omega) (by omega), fun g14 y14 => ?_⟩
  have s14 := shP_s (n := 5) s13 (f := 84) (by decide)
  have a14 := a_pA (f := 84) (n := 5) (m' := 85) a13 (by omega) (by omega)
  have i14 := i_pA (f := 84) (n := 5) i13
  rw [← y14] at s14 a14 i14
  have x14 := x_pA (f := 84) (n := 5) x13 (by decide)
  rw [← y14] at x14
  refine ⟨by omega, a14 85 (by omega) (by omega), fun g15 y15 => ?_⟩
  have s15 := shP_s (n := 30) s14 (f := 85) (by decide)
  have a15 := a_pA (f := 85) (n := 30) (m' := 86) a14 (by omega) (by omega)
  have i15 := i_pA (f := 85) (n := 30) i14
  rw [← y15] at s15 a15 i15
  have x15 := x_pA (f := 85) (n := 30) x14 (by decide)
  rw [← y15] at x15
  refine ⟨by omega, a15 86 (by omega) (by omega), fun g16 y16 => ?_⟩
  have s16 := shP_s (n := 30) s15 (f := 86) (by decide)
  have a16 := a_pA (f := 86) (n := 30) (m' := 87) a15 (by omega) (by omega)
  have i16 := i_pA (f := 86) (n := 30) i15
  rw [← y16] at s16 a16 i16
  have x16 := x_pA (f := 86) (n := 30) x15 (by decide)
  rw [← y16] at x16
  refine ⟨by omega, a16 87 (by omega) (by omega), fun g17 y17 => ?_⟩
  have s17 := shP_s (n := 30) s16 (f := 87) (by decide)
  have a17 := a_pA (f := 87) (n := 30) (m' := 88) a16 (by omega) (by omega)
  have i17 := i_pA (f := 87) (n := 30) i16
  rw [← y17] at s17 a17 i17
  have x17 := x_pA (f := 87) (n := 30) x16 (by decide)
  rw [← y17] at x17
  refine ⟨by omega, a17 88 (by omega) (by omega), fun g18 y18 => ?_⟩
  have s18 := shP_s (n := 30) s17 (f := 88) (by decide)
  have a18 := a_pA (f := 88) (n := 30) (m' := 89) a17 (by omega) (by omega)
  have i18 := i_pA (f := 88) (n := 30) i17
  rw [← y18] at s18 a18 i18
  have x18 := x_pA (f := 88) (n := 30) x17 (by decide)
  rw [← y18] at x18
  refine ⟨by omega, a18 89 (by omega) (by omega), fun g19 y19 => ?_⟩
  have s19 := shP_s (n := 48) s18 (f := 89) (by decide)
  have a19 := a_pA (f := 89) (n := 48) (m' := 90) a18 (by omega) (by omega)
  have i19 := i_pA (f := 89) (n := 48) i18
  rw [← y19] at s19 a19 i19
  have x19 := x_pA (f := 89) (n := 48) x18 (by decide)
  rw [← y19] at x19
  refine ⟨by omega, a19 90 (by omega) (by omega), fun g20 y20 => ?_⟩
  have s20 := shP_s (n := 48) s19 (f := 90) (by decide)
  have a20 := a_pA (f := 90) (n := 48) (m' := 91) a19 (by omega) (by omega)
  have i20 := i_pA (f := 90) (n := 48) i19
  rw [← y20] at s20 a20 i20
  have x20 := x_pA (f := 90) (n := 48) x19 (by decide)
  rw [← y20] at x20
  refine ⟨by omega, a20 91 (by omega) (by omega), fun g21 y21 => ?_⟩
  have s21 := shP_s (n := 48) s20 (f := 91) (by decide)
  have a21 := a_pA (f := 91) (n := 48) (m' := 92) a20 (by omega) (by omega)
  have i21 := i_pA (f := 91) (n := 48) i20
  rw [← y21] at s21 a21 i21
  have x21 := x_pA (f := 91) (n := 48) x20 (by decide)
  rw [← y21] at x21
  refine ⟨by omega, a21 92 (by omega) (by omega), fun g22 y22 => ?_⟩
  have s22 := shP_s (n := 5) s21 (f := 92) (by decide)
  have a22 := a_pA (f := 92) (n := 5) (m' := 93) a21 (by omega) (by omega)
  have i22 := i_pA (f := 92) (n := 5) i21
  rw [← y22] at s22 a22 i22
  have x22 := x_pA (f := 92) (n := 5) x21 (by decide)
  rw [← y22] at x22
  refine ⟨by omega, a22 93 (by omega) (by omega), fun g23 y23 => ?_⟩
  have s23 := shP_s (n := 30) s22 (f := 93) (by decide)
  have a23 := a_pA (f := 93) (n := 30) (m' := 94) a22 (by omega) (by omega)
  have i23 := i_pA (f := 93) (n := 30) i22
  rw [← y23] at s23 a23 i23
  have x23 := x_pA (f := 93) (n := 30) x22 (by decide)
  rw [← y23] at x23
  refine ⟨by omega, a23 94 (by omega) (by omega), fun g24 y24 => ?_⟩
  have s24 := shP_s (n := 30) s23 (f := 94) (by decide)
  have a24 := a_pA (f := 94) (n := 30) (m' := 95) a23 (by omega) (by omega)
  have i24 := i_pA (f := 94) (n := 30) i23
  rw [← y24] at s24 a24 i24
  have x24 := x_pA (f := 94) (n := 30) x23 (by decide)
  rw [← y24] at x24
  refine ⟨by omega, a24 95 (by omega) (by omega), fun g25 y25 => ?_⟩
  have s25 := shP_s (n := 30) s24 (f := 95) (by decide)
  have a25 := a_pA (f := 95) (n := 30) (m' := 96) a24 (by omega) (by omega)
  have i25 := i_pA (f := 95) (n := 30) i24
  rw [← y25] at s25 a25 i25
  have x25 := x_pA (f := 95) (n := 30) x24 (by decide)
  rw [← y25] at x25
  refine ⟨by omega, a25 96 (by omega) (by omega), fun g26 y26 => ?_⟩
  have s26 := shP_s (n := 150) s25 (f := 96) (by decide)
  have a26 := a_pA (f := 96) (n := 150) (m' := 97) a25 (by omega) (by omega)
  have i26 := i_pA (f := 96) (n := 150) i25
  rw [← y26] at s26 a26 i26
  have x26 := x_pA (f := 96) (n := 150) x25 (by decide)
  rw [← y26] at x26
  refine ⟨by omega, a26 97 (by omega) (by omega), fun g27 y27 => ?_⟩
  have s27 := shP_s (n := 150) s26 (f := 97) (by decide)
  have a27 := a_pA (f := 97) (n := 150) (m' := 98) a26 (by omega) (by omega)
  have i27 := i_pA (f := 97) (n := 150) i26
  rw [← y27] at s27 a27 i27
  have x27 := x_pA (f := 97) (n := 150) x26 (by decide)
  rw [← y27] at x27
  refine ⟨by omega, a27 98 (by omega) (by omega), fun g28 y28 => ?_⟩
  have s28 := shP_s (n := 150) s27 (f := 98) (by decide)
  have a28 := a_pA (f := 98) (n := 150) (m' := 99) a27 (by omega) (by omega)
  have i28 := i_pA (f := 98) (n := 150) i27
  rw [← y28] at s28 a28 i28
  have x28 := x_pA (f := 98) (n := 150) x27 (by decide)
  rw [← y28] at x28
  refine ⟨by omega, a28 99 (by omega) (by omega), fun g29 y29 => ?_⟩
  have s29 := shP_s (n := 150) s28 (f := 99) (by decide)
  have a29 := a_pA (f := 99) (n := 150) (m' := 100) a28 (by omega) (by omega)
  have i29 := i_pA (f := 99) (n := 150) i28
  rw [← y29] at s29 a29 i29
  have x29 := x_pA (f := 99) (n := 150) x28 (by decide)
  rw [← y29] at x29
  refine ⟨by omega, a29 100 (by omega) (by omega), fun g30 y30 => ?_⟩
  have s30 := shP_s (n := 150) s29 (f := 100) (by decide)
  have a30 := a_pA (f := 100) (n := 150) (m' := 101) a29 (by omega) (by omega)
  have i30 := i_pA (f := 100) (n := 150) i29
  rw [← y30] at s30 a30 i30
  have x30 := x_pA (f := 100) (n := 150) x29 (by decide)
  rw [← y30] at x30
  refine ⟨by omega, a30 102 (by omega) (by omega), fun g31 y31 => ?_⟩
  have s31 := shP_s (n := 120) s30 (f := 102) (by decide)
  have a31 := a_pA (f := 102) (n := 120) (m' := 103) a30 (by omega) (by omega)
  have i31 := i_pA (f := 102) (n := 120) i30
  rw [← y31] at s31 a31 i31
  have x31 := x_pA (f := 102) (n := 120) x30 (by decide)
  rw [← y31] at x31
  refine ⟨by omega, a31 103 (by omega) (by omega), fun g32 y32 => ?_⟩
  have s32 := shP_s (n := 120) s31 (f := 103) (by decide)
  have a32 := a_pA (f := 103) (n := 120) (m' := 104) a31 (by omega) (by omega)
  have i32 := i_pA (f := 103) (n := 120) i31
  rw [← y32] at s32 a32 i32
  have x32 := x_pA (f := 103) (n := 120) x31 (by decide)
  rw [← y32] at x32
  refine ⟨by omega, a32 104 (by omega) (by omega), fun g33 y33 => ?_⟩
  have s33 := shP_s (n := 120) s32 (f := 104) (by decide)
  have a33 := a_pA (f := 104) (n := 120) (m' := 105) a32 (by omega) (by omega)
  have i33 := i_pA (f := 104) (n := 120) i32
  rw [← y33] at s33 a33 i33
  have x33 := x_pA (f := 104) (n := 120) x32 (by decide)
  rw [← y33] at x33
  refine ⟨by omega, a33 105 (by omega) (by omega), fun g34 y34 => ?_⟩
  have s34 := shP_s (n := 120) s33 (f := 105) (by decide)
  have a34 := a_pA (f := 105) (n := 120) (m' := 106) a33 (by omega) (by omega)
  have i34 := i_pA (f := 105) (n := 120) i33
  rw [← y34] at s34 a34 i34
  have x34 := x_pA (f := 105) (n := 120) x33 (by decide)
  rw [← y34] at x34
  refine ⟨by omega, a34 106 (by omega) (by omega), fun g35 y35 => ?_⟩
  have s35 := shP_s (n := 120) s34 (f := 106) (by decide)
  have a35 := a_pA (f := 106) (n := 120) (m' := 107) a34 (by omega) (by omega)
  have i35 := i_pA (f := 106) (n := 120) i34
  rw [← y35] at s35 a35 i35
  have x35 := x_pA (f := 106) (n := 120) x34 (by decide)
  rw [← y35] at x35
  refine ⟨by omega, a35 107 (by omega) (by omega), fun g36 y36 => ?_⟩
  have s36 := shP_s (n := 120) s35 (f := 107) (by decide)
  have a36 := a_pA (f := 107) (n := 120) (m' := 108) a35 (by omega) (by omega)
  have i36 := i_pA (f := 107) (n := 120) i35
  rw [← y36] at s36 a36 i36
  have x36 := x_pA (f := 107) (n := 120) x35 (by decide)
  rw [← y36] at x36
  refine ⟨by omega, a36 108 (by omega) (by omega), fun g37 y37 => ?_⟩
  have s37 := shP_s (n := 120) s36 (f := 108) (by decide)
  have a37 := a_pA (f := 108) (n := 120) (m' := 109) a36 (by omega) (by omega)
  have i37 := i_pA (f := 108) (n := 120) i36
  rw [← y37] at s37 a37 i37
  have x37 := x_pA (f := 108) (n := 120) x36 (by decide)
  rw [← y37] at x37
  refine ⟨by omega, a37 109 (by omega) (by omega), fun g38 y38 => ?_⟩
  have s38 := shP_s (n := 5) s37 (f := 109) (by decide)
  have a38 := a_pA (f := 109) (n := 5) (m' := 110) a37 (by omega) (by omega)
  have i38 := i_pA (f := 109) (n := 5) i37
  rw [← y38] at s38 a38 i38
  have x38 := x_pA (f := 109) (n := 5) x37 (by decide)
  rw [← y38] at x38
  refine ⟨by omega, a38 110 (by omega) (by omega), fun g39 y39 => ?_⟩
  have s39 := shP_s (n := 5) s38 (f := 110) (by decide)
  have a39 := a_pA (f := 110) (n := 5) (m' := 111) a38 (by omega) (by omega)
  have i39 := i_pA (f := 110) (n := 5) i38
  rw [← y39] at s39 a39 i39
  have x39 := x_pA (f := 110) (n := 5) x38 (by decide)
  rw [← y39] at x39
  refine ⟨by omega, a39 111 (by omega) (by omega), fun g40 y40 => ?_⟩
  have s40 := shP_s (n := 5) s39 (f := 111) (by decide)
  have a40 := a_pA (f := 111) (n := 5) (m' := 112) a39 (by omega) (by omega)
  have i40 := i_pA (f := 111) (n := 5) i39
  rw [← y40] at s40 a40 i40
  have x40 := x_pA (f := 111) (n := 5) x39 (by decide)
  rw [← y40] at x40
  refine ⟨by omega, a40 112 (by omega) (by omega), fun g41 y41 => ?_⟩
  have s41 := shP_s (n := 50) s40 (f := 112) (by decide)
  have a41 := a_pA (f := 112) (n := 50) (m' := 113) a40 (by omega) (by omega)
  have i41 := i_pA (f := 112) (n := 50) i40
  rw [← y41] at s41 a41 i41
  have x41 := x_pA (f := 112) (n := 50) x40 (by decide)
  rw [← y41] at x41
  refine ⟨by omega, a41 113 (by omega) (by omega), fun g42 y42 => ?_⟩
  have s42 := shP_s (n := 50) s41 (f := 113) (by decide)
  have a42 := a_pA (f := 113) (n := 50) (m' := 114) a41 (by omega) (by omega)
  have i42 := i_pA (f := 113) (n := 50) i41
  rw [← y42] at s42 a42 i42
  have x42 := x_pA (f := 113) (n := 50) x41 (by decide)
  rw [← y42] at x42
  refine ⟨by omega, a42 114 (by omega) (by omega), fun g43 y43 => ?_⟩
  have s43 := shP_s (n := 50) s42 (f := 114) (by decide)
  have a43 := a_pA (f := 114) (n := 50) (m' := 115) a42 (by omega) (by omega)
  have i43 := i_pA (f := 114) (n := 50) i42
  rw [← y43] at s43 a43 i43
  have x43 := x_pA (f := 114) (n := 50) x42 (by decide)
  rw [← y43] at x43
  refine ⟨by omega, a43 115 (by omega) (by omega), fun g44 y44 => ?_⟩
  have s44 := shP_s (n := 50) s43 (f := 115) (by decide)
  have a44 := a_pA (f := 115) (n := 50) (m' := 116) a43 (by omega) (by omega)
  have i44 := i_pA (f := 115) (n := 50) i43
  rw [← y44] at s44 a44 i44
  have x44 := x_pA (f := 115) (n := 50) x43 (by decide)
  rw [← y44] at x44
  have sM : shM g44 := s44
  refine c_Mod_withinX (lo := 0) (hi := 6) hx sM fun k1 sk1 ek1 _ k2 yk2 => ?_
  have sk2 : shM k2 := by rw [yk2]; exact sk1
  have ek2 : absM k2 = mu (absM g44) 64 0 (nI S) := by rw [yk2]; exact absM_pI ek1 rfl 0 (nI S)
  refine c_Mod_withinX (lo := 1) (hi := 6) hy sk2 fun k3 sk3 ek3 _ k4 yk4 => ?_
  have sk4 : shM k4 := by rw [yk4]; exact sk3
  have ek4 : absM k4 = mu (mu (absM g44) 64 0 (nI S)) 65 0 (nI P) := by rw [yk4]; exact absM_pI (ek3.trans ek2) rfl 0 (nI P)
  refine c_Mod_withinX (lo := 1) (hi := 9) hz sk4 fun k5 sk5 ek5 _ k6 yk6 => ?_
  have sk6 : shM k6 := by rw [yk6]; exact sk5
  have ek6 : absM k6 = mu (mu (mu (absM g44) 64 0 (nI S)) 65 0 (nI P)) 66 0 (nI L) := by rw [yk6]; exact absM_pI (ek5.trans ek4) rfl 0 (nI L)
  refine hZ k6 sk6 (fun f y' q2 q3 q4 q5 => ?_) ?_ ?_ ?_ ?_
  · rw [ek6, mu_at, if_neg (fun z => q4 z.1), mu_at, if_neg (fun z => q3 z.1), mu_at, if_neg (fun z => q2 z.1)]
    unfold absM
    split
    · rename_i q1
      exact i44 f y' q1 q5
    · rfl
  · rw [ek6, mu_at, if_neg (by omega), mu_at, if_neg (by omega), mu_at, if_neg (by omega)]
    exact x44
  · rw [ek6, mu_at, if_neg (by omega), mu_at, if_neg (by omega), mu_at, if_pos ⟨rfl, rfl⟩]
  · rw [ek6, mu_at, if_neg (by omega), mu_at, if_pos ⟨rfl, rfl⟩]
  · rw [ek6, mu_at, if_pos ⟨rfl, rfl⟩]
