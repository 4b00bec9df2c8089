def paU (u : MS) (Q R N i c j nm fl : Nat) (z : Int32) : MS :=
  if nxF u i R (5 * (6 * i + j)) nm = some 4 then
    (if fst (pdB (erU u (5 * (6 * i + j)) 4 z) i nm fl) 0 N = -1 then ptU (mu (erU u (5 * (6 * i + j)) 4 z) 99 (5 * (6 * i + j) + 4) 2) Q i c j z (nxF (mu (erU u (5 * (6 * i + j)) 4 z) 99 (5 * (6 * i + j) + 4) 2) i R (5 * (6 * i + j)) nm)
     else dataU (erU u (5 * (6 * i + j)) 4 z) Q i 4 (fst (pdB (erU u (5 * (6 * i + j)) 4 z) i nm fl) 0 N).toNatClampNeg (erU u (5 * (6 * i + j)) 4 z 90 (fst (pdB (erU u (5 * (6 * i + j)) 4 z) i nm fl) 0 N).toNatClampNeg) (erU u (5 * (6 * i + j)) 4 z 91 (fst (pdB (erU u (5 * (6 * i + j)) 4 z) i nm fl) 0 N).toNatClampNeg))
  else ptU u Q i c j z (nxF u i R (5 * (6 * i + j)) nm)
theorem pass_p {S P N R Q i c j nm fl : Nat} {ε : Nat → Nat} {g : sg} {u : MS} {z : Int32} (h : rl9 S P N R Q g u) (hi : i < 5) (hen : rEn N P i (c + 1) ε g u) (hj : j ≤ c) (hz : ∃ q, q < 120 ∧ z = nI (1000 + q)) (hnm : nm < N) (hfl : fl < 4) (n4 : u 93 (6 * i + j) = nI nm) (n5 : u 94 (6 * i + j) = nI fl) :
    (∃ g0, rl9 S P N R Q g0 (paU u Q R N i c j nm fl z) ∧ pkS g g0) ∧ (∀ Z : MS → Prop, Z (paU u Q R N i c j nm fl z) → mMT M_Mod_passOn [qr 1 (some 0), qi (nI i), qi (nI nm), qi (nI fl), qi z, qi (u 95 (6 * i + j))] u (mV Z)) ∧ ∀ (X : Nat × (Nat → Int32)) (Z : sg → Prop), (∀ g', rl9 S P N R Q g' (paU u Q R N i c j nm fl z) → pkS g g' → Z g') → nnMT X M_Net_passOn 5 [qr 0 (some 0), qr 6 (some i), qr 2 (some (ε j)), qi z] g (zV Z) := by
  have hP6 := h.2.2.2.2.2.2.2.1.2.1
  have hN := h.2.2.1.2.1
  have hen0 := hen
  obtain ⟨e1, e2, e3, e4, e5, e6, e7⟩ := hen
  obtain ⟨n1, n2, n3, -, -, ⟨hp, hhp, n6⟩, nf⟩ := e6 j (by omega)
  have hA := h.1.en hi (e4 j (by omega)).2.1 (e4 j (by omega)).2.2
  have hb1 : gI g 128 (ε j) 0 = nI nm := n1.trans n4
  by_cases h4 : nxF u i R (5 * (6 * i + j)) nm = some 4
  rotate_left
  · have eP : paU u Q R N i c j nm fl z = ptU u Q i c j z (nxF u i R (5 * (6 * i + j)) nm) := if_neg h4
    rw [eP]
    obtain ⟨p1, p2, p3⟩ := pt_p h hi hen0 hj hz hnm hfl n4 n5 (fun F hF => by
      have := nxF_b hF
      have : F ≠ 4 := fun e => h4 (by rw [hF, e])
      omega)
    refine ⟨p1, fun Z hZ => mt_Mod_passOn (p2 Z 0 (by omega) hZ), fun X Z hZ => t_Net_passOn ⟨i, rfl, ?_⟩⟩
    rw [h.1.1.1]
    refine c_Node_bestFace h hi hA nf hb1 hnm fun _ => ⟨fun _ => p3 X 5 Z (Nat.le_refl _) hZ, fun q => ?_⟩
    cases hr : nxF u i R (5 * (6 * i + j)) nm with
    | none => rw [hr] at q; exact absurd q (by decide)
    | some F =>
      rw [hr] at q
      have q' : nI F = 4 := q
      have := nxF_b hr
      rw [nl_4, nI_eq (by omega) (by omega)] at q'
      exact absurd (by rw [hr, q']) h4
  obtain ⟨r1, r2, r3⟩ := er_p h hi hen0 (show j < c + 1 by omega) (show 4 < 5 by omega) hz
  obtain ⟨u1, hu1⟩ : ∃ u1, u1 = erU u (5 * (6 * i + j)) 4 z := ⟨_, rfl⟩
  obtain ⟨g1, hg1⟩ : ∃ g1, g1 = erG g (ε j) 4 z := ⟨_, rfl⟩
  have a93 : u1 93 (6 * i + j) = nI nm := by rw [hu1]; exact n4
  have a94 : u1 94 (6 * i + j) = nI fl := by rw [hu1]; exact n5
  have a95 : u1 95 (6 * i + j) = u 95 (6 * i + j) := by rw [hu1]; rfl
  have a99 : u1 99 (5 * (6 * i + j) + 4) = 1 := by
    rw [hu1]; unfold erU; simp [mu_at]
  have a388 : gR g1 388 i 0 = gR g 388 i 0 := by rw [hg1]; rfl
  have hcl0 : ∀ (X : Nat × (Nat → Int32)) (Z : sg → Prop), nnMT X M_Net_producedFor 0 [qr 0 (some 0), qr 6 (some i), qr 2 (some (ε j))] g1 (zR 7 fun r2 g3 => gExt g1 g3 → (r2 = none → nnMT X M_Entry_nackErrand 0 [qr 2 (some (ε j)), qi 4] g3 (zV fun g4 => gExt g3 g4 → nnMT X M_Node_bestFace 0 [qr 6 (some i), qr 2 (some (ε j)), qr 5 (gR g4 5 0 0)] g4 (zI fun r3 g5 => gExt g4 g5 → nnWP X M_Net_passOn 5 61 [qr 0 (some 0), qr 6 (some i), qr 2 (some (ε j)), qi z, qi r3, none] [] g5 (zV Z)))) ∧ (∀ a3, r2 = some a3 → nnMT X M_Net_dataComes 0 [qr 0 (some 0), qr 6 (some i), qi 4, qr 7 r2] g3 (zV fun g6 => gExt g3 g6 → Z g6))) → nnMT X M_Net_passOn 5 [qr 0 (some 0), qr 6 (some i), qr 2 (some (ε j)), qi z] g (zV Z) := by
    intro X Z hh
    refine t_Net_passOn ⟨i, rfl, ?_⟩
    rw [h.1.1.1]
    refine c_Node_bestFace h hi hA nf hb1 hnm fun _ => ?_
    rw [h4]
    refine ⟨fun q => absurd rfl q, fun _ => ⟨ε j, rfl, c_Entry_putErrand (F := 4) hA (by omega) fun _ => ?_⟩⟩
    rw [← hg1]
    exact hh
  rw [← hu1, ← hg1] at r1 r2
  rw [← hg1] at r3
  obtain ⟨m1, m2, m3, m4, m5, m6, mf⟩ := r2.2.2.2.2.2.1 j (by omega)
  have hA1 := r1.1.en hi (e4 j (by omega)).2.1 (e4 j (by omega)).2.2
  have c1 : gI g1 128 (ε j) 0 = nI nm := m1.trans a93
  have c2 : gI g1 129 (ε j) 0 = nI fl := m2.trans a94
  have eP0 : paU u Q R N i c j nm fl z = if fst (pdB u1 i nm fl) 0 N = -1 then ptU (mu u1 99 (5 * (6 * i + j) + 4) 2) Q i c j z (nxF (mu u1 99 (5 * (6 * i + j) + 4) 2) i R (5 * (6 * i + j)) nm) else dataU u1 Q i 4 (fst (pdB u1 i nm fl) 0 N).toNatClampNeg (u1 90 (fst (pdB u1 i nm fl) 0 N).toNatClampNeg) (u1 91 (fst (pdB u1 i nm fl) 0 N).toNatClampNeg) := by
    unfold paU
    rw [if_pos h4, ← hu1]
  rw [eP0]
  rcases fst_cases (pdB u1 i nm fl) N 0 with ⟨ef, hno⟩ | ⟨n, -, hn, hpd, hfst, ef⟩
  · have hno' : ∀ n, n < N → pdB u1 i nm fl n = false := fun n hn => hno n (Nat.zero_le _) (by omega)
    rw [if_pos ef]
    obtain ⟨q1, q2, q3⟩ := nr_p r1 hi r2 (show j < c + 1 by omega) (show 4 < 5 by omega) (by rw [a99]; decide)
    have b93 : mu u1 99 (5 * (6 * i + j) + 4) 2 93 (6 * i + j) = nI nm := a93
    have b94 : mu u1 99 (5 * (6 * i + j) + 4) 2 94 (6 * i + j) = nI fl := a94
    have b95 : mu u1 99 (5 * (6 * i + j) + 4) 2 95 (6 * i + j) = u 95 (6 * i + j) := a95
    obtain ⟨p1, p2, p3⟩ := pt_p q1 hi q2 hj hz hnm hfl b93 b94 (fun F hF => by
      have hF5 := nxF_b hF
      have hfr := nxF_fr hF
      have : F ≠ 4 := by
        intro e
        subst e
        unfold frF at hfr
        rw [mu_at, if_pos ⟨rfl, rfl⟩] at hfr
        exact absurd hfr (by simp)
      omega)
    refine ⟨?_, fun Z hZ => mt_Mod_passOn (po_head (s := 0) h hi hen0 (by omega) hnm n4 n5 (by omega) ⟨fun q => ?_, fun F hF => ⟨fun _ => ?_, fun q => ?_⟩⟩), fun X Z hZ => hcl0 X Z (c_Net_producedFor r1 hi hnm hfl c1 c2 ⟨fun _ _ => ⟨fun _ => ?_, fun a3 ha3 => (by cases ha3)⟩, fun n p hn hp => absurd hp (by rw [hno' n hn]; decide)⟩)⟩
    · obtain ⟨g0, w1, w2⟩ := p1
      exact ⟨g0, w1, r3.tr (q3.tr w2)⟩
    · rw [h4] at q; exact absurd q (by decide)
    · rw [← hu1]
      refine c_Mod_producer r1 hnm hfl ⟨fun _ => mb_Mod_passOn_113 ⟨fun _ => ⟨fun _ => ?_, fun q => absurd (by decide) q⟩, fun q => absurd (by decide) q⟩, fun n hn hp => absurd hp (by rw [hno' n hn]; decide)⟩
      rw [show (5 : Int32) * nI (6 * i + j) + 4 = nI (5 * (6 * i + j) + 4) by rw [nl_5, pk_mul, nl_4, nI_add], nI_clamp (show 5 * (6 * i + j) + 4 < 2 ^ 31 by omega), nI_clamp (show 6 * i + j < 2 ^ 31 by omega)]
      refine ⟨(vpi (by omega)).mpr (by omega), fun u2 h2 => ⟨(vpi (by omega)).mpr (by omega), ?_⟩⟩
      subst h2
      exact p2 Z 1 (by omega) hZ
    · rw [h4] at hF; cases hF; omega
    · refine c_Entry_nackErrand (F := 4) hA1 (by omega) fun _ => ?_
      obtain ⟨k1, k2, k3, k4, k5, k6, kf⟩ := q2.2.2.2.2.2.1 j (by omega)
      rw [q1.1.1.1]
      have hA2 := q1.1.en hi (e4 j (by omega)).2.1 (e4 j (by omega)).2.2
      exact c_Node_bestFace q1 hi hA2 kf (k1.trans b93) hnm fun _ => p3 X 5 Z (Nat.le_refl _) fun g' l1 l2 => hZ g' l1 (r3.tr (q3.tr l2))
  · have hn' : n < N := by omega
    have en : (fst (pdB u1 i nm fl) 0 N).toNatClampNeg = n := by rw [ef, nI_clamp (by omega)]
    rw [if_neg (by rw [ef]; exact nI_m1 (by omega)), en]
    have hpd' : u1 89 n = nI (i + 1) := by
      unfold pdB at hpd
      simp only [Bool.and_eq_true, decide_eq_true_eq] at hpd
      exact hpd.1
    obtain ⟨p, hpv⟩ : ∃ p, dtv N g1 p (nI n) (u1 90 n) (u1 91 n) := by
      rcases r1.2.2.2.2.2.2.2.2.2.2 n (by omega) with ⟨z1, -⟩ | ⟨-, i', p, -, -, -, -, z5⟩
      · rw [hpd', nl_0, nI_eq (by omega) (by omega)] at z1
        omega
      · exact ⟨p, z5⟩
    obtain ⟨d1, d2, -⟩ := data_p r1 hi (show 4 < 5 by omega) hn' hpv
    have hfst' : ∀ n', n' < n → pdB u1 i nm fl n' = false := fun n' h' => hfst n' (Nat.zero_le _) h'
    refine ⟨?_, fun Z hZ => mt_Mod_passOn (po_head (s := 0) h hi hen0 (by omega) hnm n4 n5 (by omega) ⟨fun q => ?_, fun F hF => ⟨fun _ => ?_, fun q => ?_⟩⟩), fun X Z hZ => hcl0 X Z (c_Net_producedFor r1 hi hnm hfl c1 c2 ⟨fun hall => absurd hpd (by rw [hall n hn']; decide), fun n2 p2 hn2 hp2 hf2 hd2 _ => ⟨fun q => (by cases q), fun a3 _ => ?_⟩⟩)⟩
    · obtain ⟨g0, w1, w2⟩ := d1
      exact ⟨g0, w1, r3.tr w2⟩
    · rw [h4] at q; exact absurd q (by decide)
    · rw [← hu1]
      refine c_Mod_producer r1 hnm hfl ⟨fun hall => absurd hpd (by rw [hall n hn']; decide), fun n2 hn2 hp2 hf2 => ?_⟩
      have : n2 = n := by
        rcases Nat.lt_trichotomy n2 n with q | q | q
        · rw [hfst' n2 q] at hp2; exact absurd hp2 (by decide)
        · exact q
        · rw [hf2 n q] at hpd; exact absurd hpd (by decide)
      subst this
      refine mb_Mod_passOn_113 ⟨fun _ => ⟨fun q => absurd q (nI_pos (by omega)), fun _ => ⟨(vpi (by omega)).mpr (by omega), ?_⟩⟩, fun q => absurd (by decide) q⟩
      rw [nI_clamp (show n2 < 2 ^ 31 by omega)]
      exact d2 _ (po_end hZ)
    · rw [h4] at hF; cases hF; omega
    · have : n2 = n := by
        rcases Nat.lt_trichotomy n2 n with q | q | q
        · rw [hfst' n2 q] at hp2; exact absurd hp2 (by decide)
        · exact q
        · rw [hf2 n q] at hpd; exact absurd hpd (by decide)
      subst this
      exact (data_p r1 hi (show 4 < 5 by omega) hn' hd2).2.2 X _ fun g' l1 l2 _ => hZ g' l1 (r3.tr l2)
