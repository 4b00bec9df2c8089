def niv (S P : Nat) (lf : Int32) (i : Nat) (g : sg) : Prop :=
  (gC g 2 = P * i ∧ gC g 3 = 4 * i ∧ gC g 4 = i ∧ gC g 6 = i ∧ gC g 8 = i ∧ gC g 11 = i ∧ gC g 12 = i ∧ gC g 0 = 1 ∧ gC g 1 = 0 ∧ gC g 5 = 1 ∧ gC g 7 = 0 ∧ gC g 9 = 0) ∧
  (gR g 5 0 0 = some 0 ∧ (∀ n, gR g 7 0 n = none) ∧ ∀ i', i' < i → gR g 6 0 i' = some i') ∧
  (gA g 2 0 = some 24 ∧ gA g 4 0 = some 4 ∧ gA g 6 0 = some 5 ∧ gA g 7 0 = some 48 ∧ gA g 8 0 = some 48 ∧ gA g 9 0 = some 120 ∧ gA g 320 0 = some 48 ∧ gA g 321 0 = some 48 ∧ gA g 322 0 = some 48) ∧
  (gI g 0 0 0 = lf ∧ gI g 1 0 0 = 0 ∧ gI g 3 0 0 = 0 ∧ gI g 10 0 0 = 0 ∧ gI g 323 0 0 = 1 ∧ gI g 320 0 0 = -1 ∧ gI g 322 0 0 = 0) ∧
  ∀ i', i' < i → ndOK S P (nI i') i' i' i' i' i' (4 * i') (P * i') g
theorem niv_s {S P i : Nat} {lf : Int32} {g g4 g5 : sg} (hi : i < 5) (h : niv S P lf i g) (o4 : odn 6 (gC g 6) g g4) (k0 : ∀ c, c ≠ 2 → c ≠ 3 → c ≠ 4 → c ≠ 6 → c ≠ 8 → c ≠ 11 → c ≠ 12 → gC g4 c = gC g c) (k2 : gC g4 2 = gC g 2 + P) (k3 : gC g4 3 = gC g 3 + 4) (k4 : gC g4 4 = gC g 4 + 1) (k6 : gC g4 6 = gC g 6 + 1) (k8 : gC g4 8 = gC g 8 + 1) (k11 : gC g4 11 = gC g 11 + 1) (k12 : gC g4 12 = gC g 12 + 1) (nd : ndOK S P (nI i) (gC g 6) (gC g 11) (gC g 12) (gC g 8) (gC g 4) (gC g 3) (gC g 2) g4) (y5 : g5 = pR g4 6 0 i (some i)) : niv S P lf (i + 1) g5 := by
  obtain ⟨⟨c2, c3, c4, c6, c8, c11, c12, c0, c1, c5, c7, c9⟩, ⟨r5, r7, r6⟩, ⟨a2, a4, a6, a7, a8, a9, a320, a321, a322⟩, ⟨i0, i1, i3, i10, i323, i320, i322⟩, hn⟩ := h
  rw [c6, c11, c12, c8, c4, c3, c2] at nd
  have p0 : 0 < gC g 0 := by rw [c0]; exact Nat.one_pos
  have p5 : 0 < gC g 5 := by rw [c5]; exact Nat.one_pos
  have t4 : ∀ f x, x < gC g (f / 64) → sm g g4 f x := fun f x hx => o4.2 f x hx (fun z => by rw [z.1] at hx; exact Nat.lt_irrefl _ (z.2 ▸ hx))
  have u5 : ∀ f x, f ≠ 6 → sm g4 g5 f x := fun f x hf => by
    rw [y5]
    exact ⟨fun _ => rfl, fun y => by rw [gR_pR, if_neg (fun z => hf z.1)], rfl⟩
  have t5 : ∀ f x, x < gC g (f / 64) → f ≠ 6 → sm g g5 f x := fun f x hx hf => (t4 f x hx).tr (u5 f x hf)
  have C5 : ∀ c, gC g5 c = gC g4 c := fun c => by rw [y5]; rfl
  have z0 : ∀ f, f / 64 = 0 → f ≠ 6 → sm g g5 f 0 := fun f hf h6 => t5 f 0 (by rw [hf]; exact p0) h6
  have z5 : ∀ f, f / 64 = 5 → sm g g5 f 0 := fun f hf => t5 f 0 (by rw [hf]; exact p5) (fun q => by rw [q] at hf; exact absurd hf (by decide))
  have hmul : P * (i + 1) = P * i + P := Nat.mul_succ P i
  refine ⟨⟨?_, ?_, ?_, ?_, ?_, ?_, ?_, ?_, ?_, ?_, ?_, ?_⟩, ⟨?_, fun n => ?_, fun i' hi' => ?_⟩, ⟨?_, ?_, ?_, ?_, ?_, ?_, ?_, ?_, ?_⟩, ⟨?_, ?_, ?_, ?_, ?_, ?_, ?_⟩, fun i' hi' => ?_⟩
  · rw [C5, k2, c2, hmul]
  · rw [C5, k3, c3, Nat.mul_succ]
  · rw [C5, k4, c4]
  · rw [C5, k6, c6]
  · rw [C5, k8, c8]
  · rw [C5, k11, c11]
  · rw [C5, k12, c12]
  · rw [C5, k0 0 (by decide) (by decide) (by decide) (by decide) (by decide) (by decide) (by decide), c0]
  · rw [C5, k0 1 (by decide) (by decide) (by decide) (by decide) (by decide) (by decide) (by decide), c1]
  · rw [C5, k0 5 (by decide) (by decide) (by decide) (by decide) (by decide) (by decide) (by decide), c5]
  · rw [C5, k0 7 (by decide) (by decide) (by decide) (by decide) (by decide) (by decide) (by decide), c7]
  · rw [C5, k0 9 (by decide) (by decide) (by decide) (by decide) (by decide) (by decide) (by decide), c9]
  · rw [(z0 5 rfl (by decide)).2.1]; exact r5
  · rw [(z0 7 rfl (by decide)).2.1]; exact r7 n
  · rw [y5, gR_pR]
    by_cases e : i' = i
    · rw [if_pos ⟨rfl, rfl, e⟩, e]
    · rw [if_neg (fun z => e z.2.2), (t4 6 0 p0).2.1]
      exact r6 i' (by omega)
  · rw [(z0 2 rfl (by decide)).2.2]; exact a2
  · rw [(z0 4 rfl (by decide)).2.2]; exact a4
  · rw [y5]
    show gA g4 6 0 = some 5
    rw [(t4 6 0 p0).2.2]; exact a6
  · rw [(z0 7 rfl (by decide)).2.2]; exact a7
  · rw [(z0 8 rfl (by decide)).2.2]; exact a8
  · rw [(z0 9 rfl (by decide)).2.2]; exact a9
  · rw [(z5 320 rfl).2.2]; exact a320
  · rw [(z5 321 rfl).2.2]; exact a321
  · rw [(z5 322 rfl).2.2]; exact a322
  · rw [(z0 0 rfl (by decide)).1]; exact i0
  · rw [(z0 1 rfl (by decide)).1]; exact i1
  · rw [(z0 3 rfl (by decide)).1]; exact i3
  · rw [(z0 10 rfl (by decide)).1]; exact i10
  · rw [(z5 323 rfl).1]; exact i323
  · rw [(z5 320 rfl).1]; exact i320
  · rw [(z5 322 rfl).1]; exact i322
  · by_cases e : i' = i
    · subst e
      exact nd.tr (fun f x _ hf => u5 f x hf) (by rw [k6, c6]; exact Nat.lt_succ_self _) (by rw [k11, c11]; exact Nat.lt_succ_self _) (by rw [k12, c12]; exact Nat.lt_succ_self _) (by rw [k8, c8]; exact Nat.lt_succ_self _) (by rw [k4, c4]; exact Nat.lt_succ_self _) (by rw [k3, c3]; exact Nat.le_refl _) (by rw [k2, c2]; exact Nat.le_refl _)
    · have hlt : i' < i := by omega
      have hm : P * i' + P ≤ P * i := by
        rw [← Nat.mul_succ]
        exact Nat.mul_le_mul_left P hlt
      have hm4 : 4 * i' + 4 ≤ 4 * i := by
        rw [← Nat.mul_succ]
        exact Nat.mul_le_mul_left 4 hlt
      exact (hn i' hlt).tr t5 (by rw [c6]; exact hlt) (by rw [c11]; exact hlt) (by rw [c12]; exact hlt) (by rw [c8]; exact hlt) (by rw [c4]; exact hlt) (by rw [c3]; exact hm4) (by rw [c2]; exact hm)
theorem nodes_loop {X : Nat × (Nat → Int32)} {S P : Nat} {lf l1 l2 : Int32} {Z : sg → Prop} (h1 : wv l1 0 6 S) (h2 : wv l2 1 6 P) (hZ : ∀ g', niv S P lf 5 g' → Z g') : ∀ d i kk g, i + d = 5 → 55 * d ≤ kk → niv S P lf i g → nnWP X M_Net_init kk 78 [qr 0 (some 0), qi l1, qi l2, none, qi (nI i)] [] g (zV Z) := by
  intro d
  induction d with
  | zero =>
    intro i kk g hi _ h
    obtain rfl : i = 5 := by omega
    exact b_Net_init_78 ⟨fun _ => hZ g h, fun q => absurd (by decide) q⟩
  | succ d ih =>
    intro i kk g hi hk h
    have li : (nI i).toNatClampNeg = i := nI_clamp (by omega)
    have a6 : gA g 6 0 = some 5 := h.2.2.1.2.2.1
    have c6 : gC g 6 = i := h.1.2.2.2.1
    refine b_Net_init_78 ⟨fun q => ?_, fun _ => ⟨a6, by omega, fun g1 y1 => c_Net_withinX (lo := 0) (hi := 6) h1 fun _ => c_Net_withinX (lo := 1) (hi := 6) h2 fun _ => ⟨by omega, ?_⟩⟩⟩
    · rw [nl_5, nI_leI (by omega) (by omega)] at q
      omega
    · subst y1
      refine node_c h1.2.1 h2.1 h2.2.1 fun g4 o4 k0 k2 k3 k4 k6 k8 k11 k12 nd _ => ⟨(vpi (by omega)).mpr (by omega), fun g5 y5 => ?_⟩
      rw [li, c6] at y5
      rw [nI_1]
      exact ih (i + 1) _ g5 (by omega) (by omega) (niv_s (by omega) h o4 k0 k2 k3 k4 k6 k8 k11 k12 nd y5)
theorem neti_c {X : Nat × (Nat → Int32)} {S P L : Nat} {l1 l2 l3 : Int32} {Z : sg → Prop} (h1 : wv l1 0 6 S) (h2 : wv l2 1 6 P) (h3 : wv l3 1 9 L) (hZ : ∀ g', niv S P (nI L) 5 g' → Z g') : nnMT X M_Net_init 303 [qr 0 (some 0), qi l1, qi l2, qi l3] (pN g0 0) (zV Z) := by
  refine t_Net_init ⟨by omega, rfl, fun g1 y1 => ⟨by omega, by subst y1; rfl, fun g2 y2 => ⟨by omega, fun g3 y3 => ⟨by omega, t_Names_init ⟨by omega, by subst y3 y2 y1; rfl, fun x1 z1 => ⟨by omega, by subst z1 y3 y2 y1; rfl, fun x2 z2 => ⟨by omega, by subst z2 z1 y3 y2 y1; rfl, fun x3 z3 => ⟨by subst z3 z2 z1 y3 y2 y1; rfl, fun x4 z4 x5 z5 _ g5 y5 => ⟨by omega, by subst y5 z5 z4 z3 z2 z1 y3 y2 y1; rfl, fun g6 y6 => ⟨by omega, by subst y6 y5 z5 z4 z3 z2 z1 y3 y2 y1; rfl, fun g7 y7 => ⟨by omega, by subst y7 y6 y5 z5 z4 z3 z2 z1 y3 y2 y1; rfl, fun g8 y8 => ⟨by omega, by subst y8 y7 y6 y5 z5 z4 z3 z2 z1 y3 y2 y1; rfl, fun g9 y9 => c_Net_withinX (lo := 1) (hi := 9) h3 fun _ g11 y11 => ?_⟩⟩⟩⟩⟩⟩⟩⟩⟩⟩⟩⟩
  refine nodes_loop h1 h2 hZ 5 0 _ g11 (by omega) (by omega) ?_
  subst y11 y9 y8 y7 y6 y5 z5 z4 z3 z2 z1 y3 y2 y1
  refine ⟨⟨?_, rfl, rfl, rfl, rfl, rfl, rfl, rfl, rfl, rfl, rfl, rfl⟩, ⟨rfl, fun n => rfl, fun i' hi' => absurd hi' (by omega)⟩, ⟨rfl, rfl, rfl, rfl, rfl, rfl, rfl, rfl, rfl⟩, ⟨rfl, rfl, rfl, rfl, rfl, rfl, rfl⟩, fun i' hi' => absurd hi' (by omega)⟩
  rw [Nat.mul_zero]
  rfl
theorem rl_start {S P : Nat} {lf : Int32} {g : sg} {v : MS} (h : niv S P lf 5 g) (hS : S ≤ 6) (hP1 : 1 ≤ P) (hP : P ≤ 6) (v0 : ∀ f y, f ≠ 64 → f ≠ 65 → f ≠ 66 → f ≠ 70 → v f y = 0) (v70 : v 70 0 = 1) (v64 : v 64 0 = nI S) (v65 : v 65 0 = nI P) (v66 : v 66 0 = lf) : RL g v := by
  obtain ⟨⟨c2, c3, c4, c6, c8, c11, c12, c0, c1, c5, c7, c9⟩, ⟨r5, r7, r6⟩, ⟨a2, a4, a6, a7, a8, a9, a320, a321, a322⟩, ⟨i0, i1, i3, i10, i323, i320, i322⟩, hn⟩ := h
  have z : ∀ f y, f ≠ 64 ∧ f ≠ 65 ∧ f ≠ 66 ∧ f ≠ 70 → v f y = 0 := fun f y q => v0 f y q.1 q.2.1 q.2.2.1 q.2.2.2
  refine ⟨S, P, 1, 0, 0, ⟨⟨r5, r6, fun i f hi hf => ((hn i hi).1 f hf).1, fun i hi => ?_⟩, ⟨a2, a4, a6, a7, a8, a9, a320, a321, a322⟩, fun i hi => ?_, fun e he => ?_, fun e he => ?_⟩, ⟨by rw [i0, v66], by rw [i1, z 67 0 (by decide)], 0, by omega, i3, z 68 0 (by decide), fun i hi => absurd hi (by omega)⟩, ⟨by omega, by omega, i323, v70, i320, i322, z 72 0 (by decide), fun n h1 h2 => absurd h1 (by omega)⟩, fun e he => ?_, ⟨by omega, z 79 0 (by decide), fun r hr => absurd hr (by omega), fun r s hr => absurd hr (by omega), fun o _ => by show 0 ≤ 10; omega⟩, ⟨fun i hi => ⟨0, id, id, ?_⟩, ?_, fun i r hi _ _ => ⟨z 82 _ (by decide), fun f _ => z 83 _ (by decide)⟩⟩, ⟨hS, v64, fun i hi => ⟨0, by omega, ((hn i hi).2.2.2.1).2.2, z 84 i (by decide), fun j hj => absurd hj (by omega), fun j k hj => absurd hj (by omega)⟩⟩, ⟨hP1, hP, v65, fun i hi => ⟨0, fun j => P * i + j, ?_⟩⟩, ⟨by omega, c9, i10, z 101 0 (by decide), fun q hq => absurd hq (by omega), fun q _ _ => z 108 q (by decide)⟩, fun i hi => ⟨0, 0, by omega, by omega, (hn i hi).2.2.2.2.2.2.1.1, z 109 i (by decide), (hn i hi).2.2.2.2.2.2.1.2.1, z 110 i (by decide), by rw [(hn i hi).2.2.2.2.2.2.1.2.2, z 111 i (by decide)], Or.inl (z 111 i (by decide)), fun j hj => absurd hj (by omega)⟩, fun n _ => Or.inl ⟨z 89 n (by decide), r7 n⟩⟩
  · obtain ⟨q1, q2, q3, q4, q5, q6⟩ := (hn i hi).2.1
    exact ⟨q1, q2, q3, q4, q5⟩
  · obtain ⟨-, ⟨-, -, -, -, -, q6⟩, ⟨q7, -⟩, ⟨q8, q9, -⟩, ⟨q10, -⟩, ⟨q11, q12, q13, q14⟩, -, -⟩ := hn i hi
    exact ⟨q6, q7, q8, q9, q10, q11, q12, q13, q14⟩
  · obtain ⟨i, f, hi, hf, rfl⟩ : ∃ i f, i < 5 ∧ f < 4 ∧ e = 4 * i + f := ⟨e / 4, e % 4, by omega, by omega, by omega⟩
    exact ((hn i hi).1 f hf).2.2.2.2.2
  · have hi : e / P < 5 := Nat.div_lt_of_lt_mul (by rw [Nat.mul_comm]; exact he)
    have hj : e % P < P := Nat.mod_lt _ (by omega)
    have := ((hn (e / P) hi).2.2.2.2.2.2.2 (e % P) hj).2
    rw [Nat.div_add_mod] at this
    exact this
  · obtain ⟨i, f, hi, hf, rfl⟩ : ∃ i f, i < 5 ∧ f < 4 ∧ e = 4 * i + f := ⟨e / 4, e % 4, by omega, by omega, by omega⟩
    obtain ⟨q1, q2, q3, q4, q5⟩ := ((hn i hi).1 f hf).2
    exact ⟨by rw [q3, z 75 _ (by decide)], Or.inl (z 75 _ (by decide)), Or.inl ⟨z 74 _ (by decide), q1, q2, z 75 _ (by decide)⟩, 0, by omega, q4, z 76 _ (by decide), fun q => absurd q (by omega), fun j hj => absurd hj (by omega)⟩
  · exact ⟨by omega, (hn i hi).2.2.1.2, fun j hj => absurd hj (by omega), fun j k hj => absurd hj (by omega), fun r hr => absurd hr (by omega), fun r hr => absurd hr (by omega)⟩
  · intro i j i' j' a m m' hi hi' hm hm' m50 m50' hj hj'
    rw [(hn i hi).2.2.1.2, ← nI_0, nI_eq (by omega) (by omega)] at hm
    omega
  · refine ⟨by omega, (hn i hi).2.2.2.2.1.2, z 92 i (by decide), fun j hj => ⟨((hn i hi).2.2.2.2.2.2.2 j hj).1, Nat.le_add_right _ _, Nat.add_lt_add_left hj _⟩, fun j k _ _ q => Nat.add_left_cancel q, fun j hj => absurd hj (by omega), fun j k hj => absurd hj (by omega)⟩
def cv (X : Nat × (Nat → Int32)) (k : Nat) : Int32 := if nI X.1 ≤ nI k then 0 else X.2 k
theorem c_Law_cell {X : Nat × (Nat → Int32)} {kk k : Nat} {g : sg} {Z : Int32 → sg → Prop} (hX : X.1 ≤ 2563) (hk : k < 10) (hZ : Z (cv X k) g) : nnMT X M_Law_cell kk [qa 4095 0, qi (nI k)] g (zI Z) := by
  refine t_Law_cell ⟨fun q => ?_, fun q => ?_⟩
  · unfold cv at hZ
    rw [if_pos q] at hZ
    exact hZ
  · unfold cv at hZ
    rw [if_neg q] at hZ
    rw [nI_leI (by omega) (by omega)] at q
    rw [nI_clamp (show k < 2 ^ 31 by omega)]
    exact ⟨(vpi (by omega)).mpr (by omega), hZ⟩
theorem law_ok (X : Nat × (Nat → Int32)) (hX : X.1 ≤ 2563) : nnWP X M_Law_law 456000 0 [qa 4095 0, none, none, none] [] g0 (zI fun x _ => x = 1) := by
  obtain ⟨S, hS⟩ := wv_ex (cv X 0) (show 0 ≤ 6 by omega) (by omega)
  obtain ⟨P, hP⟩ := wv_ex (cv X 1) (show 1 ≤ 6 by omega) (by omega)
  obtain ⟨L, hL⟩ := wv_ex (cv X 2) (show 1 ≤ 9 by omega) (by omega)
  refine b_Law_law_0 ⟨by omega, fun g1 y1 => c_Law_cell (k := 0) hX (by omega) fun _ => c_Law_cell (k := 1) hX (by omega) fun _ => c_Law_cell (k := 2) hX (by omega) fun _ => ⟨by omega, ?_⟩⟩
  subst y1
  refine neti_c hS hP hL fun g5 h5 _ _ => ⟨by omega, fun g6 y6 => ?_⟩
  have c1 : gC g5 1 = 0 := h5.1.2.2.2.2.2.2.2.2.1
  subst y6
  rw [c1]
  refine c_Law_cell (k := 0) hX (by omega) fun _ => c_Law_cell (k := 1) hX (by omega) fun _ => c_Law_cell (k := 2) hX (by omega) fun _ => ⟨by omega, ?_⟩
  refine modi_c c1 hS hP hL fun g10 sM v0 v70 v64 v65 v66 _ ag => ?_
  have ag5 : nnAG 1 g5 (pN g5 1) := by
    intro c hc
    have h1 : c ≠ 1 := by
      rintro rfl
      exact absurd hc (by decide)
    refine ⟨by rw [gC_pN, if_neg h1], fun f hf => ⟨fun a i => ?_, fun a i => ?_, fun a => ?_⟩⟩
    · rw [gI_pN, if_neg (fun z => h1 (by omega))]
    · rw [gR_pN, if_neg (fun z => h1 (by omega))]
    · rw [gA_pN, if_neg (fun z => h1 (by omega))]
  have hRL : RL g10 (absM g10) := (rl_start h5 hS.2.1 hP.1 hP.2.1 v0 v70 v64 v65 v66).ag (ag5.tr ag)
  exact law_loop prs_all hX (X.1 + 5) 3 g10 _ (by omega) (by omega) (by omega) hRL sM
