theorem inter_p {S P N R Q i F p nm fl h0 : Nat} {g : sg} {u : MS} {z : Int32} (h : rl9 S P N R Q g u) (hi : i < 5) (hF : F < 5) (hpp : p < gC g 7) (p1 : gI g 449 p 0 = nI nm) (p2 : gI g 450 p 0 = nI fl) (p3 : gI g 451 p 0 = z) (p4 : gI g 452 p 0 = nI h0) (hnm : nm < N) (hfl : fl < 4) (hz : ∃ q, q < 120 ∧ z = nI (1000 + q)) (hh : h0 ≤ 9) :
    (∃ g0, rl9 S P N R Q g0 (inU u Q R N i F nm fl z h0) ∧ pkS g g0) ∧ (∀ Z : MS → Prop, Z (inU u Q R N i F nm fl z h0) → mMT M_Mod_interest [qr 1 (some 0), qi (nI i), qi (nI F), qi (nI nm), qi (nI fl), qi z, qi (nI h0)] u (mV Z)) ∧ ∀ (X : Nat × (Nat → Int32)) (Z : sg → Prop), (∀ g', rl9 S P N R Q g' (inU u Q R N i F nm fl z h0) → pkS g g' → Z g') → nnMT X M_Net_interestComes 5 [qr 0 (some 0), qr 6 (some i), qi (nI F), qr 7 (some p)] g (zV Z) := by
  have hP6 := h.2.2.2.2.2.2.2.1.2.1
  have h65 := h.2.2.2.2.2.2.2.1.2.2.1
  have hQ := h.2.2.2.2.2.2.2.2.1
  have hT := h.2.1
  obtain ⟨c, ε, hen⟩ := h.2.2.2.2.2.2.2.1.2.2.2 i hi
  have hen0 := hen
  obtain ⟨e1, e2, e3, e4, e5, e6, e7⟩ := hen
  have h388 := (h.1.1.2.2.2 i hi).2.2.1
  have h387 := (h.1.1.2.2.2 i hi).2.1
  have hA512 := (h.1.2.2.1 i hi).2.2.2.2.1
  have ec : (u 92 i).toNatClampNeg = c := by rw [e3, nI_clamp (by omega)]
  have hzn : ¬ z = -1 := by obtain ⟨q, hq, e⟩ := hz; rw [e]; exact nI_1000 hq
  obtain ⟨v1, v2⟩ := serve_p (a := p) h hi hnm hfl p1 p2
  have hnk := nack_p (x := nI nm) (y := nI fl) h hi hF hz
  obtain ⟨gn, wn1, wn2⟩ := nk_w (x := nI nm) (y := nI fl) h hi hF hz
  -- what a served interest does
  have hsrv : ∀ b, svF u i nm fl (u 84 i).toNatClampNeg = some b → (∃ g0, rl9 S P N R Q g0 (dtU (sevU u i b) Q i F (sevU u i b 85 (sevE u i)) (sevU u i b 86 (sevE u i)) (sevU u i b 87 (sevE u i)) (nI nm) (nI fl)) ∧ pkS g g0) ∧ (∀ (Z : MS → Prop) (A : Int32 → MS → Prop), Z (dtU (sevU u i b) Q i F (sevU u i b 85 (sevE u i)) (sevU u i b 86 (sevE u i)) (sevU u i b 87 (sevE u i)) (nI nm) (nI fl)) → mMT M_Mod_served [qr 1 (some 0), qi (nI i), qi (nI nm), qi (nI fl)] u (mI fun r1 u1 => (r1 < 0 → A r1 u1) ∧ (¬ r1 < 0 → (¬ nI F = 4 → vp_in r1 30 ∧ mMT M_Mod_put [qr 1 (some 0), qi ((4 * nI i) + nI F), qi 1, qi (u1 85 r1.toNatClampNeg), qi (u1 86 r1.toNatClampNeg), qi (u1 87 r1.toNatClampNeg), qi 0] u1 (mV fun u9 => Z u9)) ∧ (nI F = 4 → vp_in r1 30 ∧ mMT M_Mod_settle [qr 1 (some 0), qi (nI i), qi (nI nm), qi (nI fl), qi 1, qi (u1 85 r1.toNatClampNeg), qi (u1 86 r1.toNatClampNeg)] u1 (mV fun u10 => Z u10))))) ∧ ∀ (X : Nat × (Nat → Int32)) (Z : sg → Prop) (A : sg → Prop), (∀ g', rl9 S P N R Q g' (dtU (sevU u i b) Q i F (sevU u i b 85 (sevE u i)) (sevU u i b 86 (sevE u i)) (sevU u i b 87 (sevE u i)) (nI nm) (nI fl)) → pkS g g' → Z g') → nnMT X M_Store_serve 0 [qr 12 (some i), qr 7 (some p), qr 5 (some 0), qi (u 67 0)] g (zR 7 fun r1 g1 => gExt g g1 → (r1 = none → A g1) ∧ (∀ a3, r1 = some a3 → ∃ a9, some p = some a9 ∧ nnMT X M_Net_sendData 0 [qr 0 (some 0), qr 6 (some i), qi (nI F), qr 7 r1, qi (gI g1 449 a9 0), qi (gI g1 450 a9 0)] g1 (zV fun g4 => gExt g1 g4 → Z g4))) := by
    intro b hb
    obtain ⟨q, s1, s2, ⟨g0, w1, w2, w3⟩, s4, s5⟩ := v2 b hb
    obtain ⟨g3, y1, y2⟩ := dt_w (n := nI nm) (f := nI fl) (F := F) w1 hi hF w3
    refine ⟨⟨g3, y1, w2.2.2.1.tr y2.2.2.1⟩, fun Z A hZ => s4 _ ?_, fun X Z A hZ => s5 X _ fun g' l1 l2 l3 _ => ⟨fun q => (by cases q), fun a3 ha3 => ⟨p, rfl, ?_⟩⟩⟩
    · refine ⟨fun q2 => absurd q2 (nI_pos (by omega)), fun _ => ?_⟩
      rw [nI_clamp (show sevE u i < 2 ^ 31 by omega)]
      unfold dtU at hZ
      refine ⟨fun q2 => ⟨(vpi (by omega)).mpr s1, ?_⟩, fun q2 => ⟨(vpi (by omega)).mpr s1, ?_⟩⟩
      · rw [nl_4, nI_eq (by omega) (by omega)] at q2
        rw [if_neg q2] at hZ
        rw [nl_4, pk_mul, nI_add]
        obtain ⟨w, x1, x2⟩ := w1.hw8 (4 * i + F) (by omega)
        exact c_Mod_put (by omega) x1 x2 hZ
      · rw [nl_4, nI_eq (by omega) (by omega)] at q2
        rw [if_pos q2] at hZ
        exact c_Mod_settle hQ.1 (by rw [s2 101 (by omega)]; exact hQ.2.2.2.1) hZ
    · rw [l2.2.2.1.2 449 p 0 rfl hpp, l2.2.2.1.2 450 p 0 rfl hpp, p1, p2]
      exact sdata_c l1 hi hF l3 fun g4 k1 k2 _ => hZ g4 k1 (l2.2.2.1.tr k2.2.2.1)
  have n1 : gI g 1 0 0 = u 67 0 := hT.2.1
  have n0 : gI g 0 0 0 = u 66 0 := hT.1
  have h500 := h.1.1.1
  have hfc := fst_cases (fun j => decide (u 93 (6 * i + j) = nI nm) && decide (u 94 (6 * i + j) = nI fl)) c 0
  rcases hfc with ⟨ef, hno⟩ | ⟨j, -, hj, hjx, -, ef⟩
  · -- no entry
    have hno' : ∀ j, j < c → ¬ (u 93 (6 * i + j) = nI nm ∧ u 94 (6 * i + j) = nI fl) := by
      intro j hj q
      have := hno j (Nat.zero_le _) (by omega)
      simp [q.1, q.2] at this
    have eF : enF u i nm fl = -1 := by unfold enF; rw [ec]; exact ef
    have eI : inU u Q R N i F nm fl z h0 = isU u Q R N i F nm fl z h0 := by
      unfold inU
      rw [if_neg (fun q => q.1 eF)]
    rw [eI]
    have hm0 : ∀ Z : MS → Prop, mWP M_Mod_interest 39 [qr 1 (some 0), qi (nI i), qi (nI F), qi (nI nm), qi (nI fl), qi z, qi (nI h0), qi (-1), none, none] [] u (mV Z) → mMT M_Mod_interest [qr 1 (some 0), qi (nI i), qi (nI F), qi (nI nm), qi (nI fl), qi z, qi (nI h0)] u (mV Z) := fun Z hh' => mt_Mod_interest (c_Mod_entry hi (by omega) e3 ⟨fun j hj q1 q2 => absurd ⟨q1, q2⟩ (hno' j hj), fun _ => ⟨fun _ => hh', fun q => absurd (by decide) q⟩⟩)
    have hc0 : ∀ (X : Nat × (Nat → Int32)) (Z : sg → Prop), nnWP X M_Net_interestComes 5 57 [qr 0 (some 0), qr 6 (some i), qi (nI F), qr 7 (some p), qr 2 none, none, none, none] [] g (zV Z) → nnMT X M_Net_interestComes 5 [qr 0 (some 0), qr 6 (some i), qi (nI F), qr 7 (some p)] g (zV Z) := by
      intro X Z hh'
      refine t_Net_interestComes ⟨i, rfl, p, rfl, i, h388, ?_⟩
      rw [p1, p2]
      exact c_Pending_find hP6 hA512 hen0 ⟨fun j hj q1 q2 => absurd ⟨q1, q2⟩ (hno' j hj), fun _ _ => ⟨fun _ => hh', fun a4 q => (by cases q)⟩⟩
    cases hsv : svF u i nm fl (u 84 i).toNatClampNeg with
    | some b =>
      have eS : isU u Q R N i F nm fl z h0 = (dtU (sevU u i b) Q i F (sevU u i b 85 (sevE u i)) (sevU u i b 86 (sevE u i)) (sevU u i b 87 (sevE u i)) (nI nm) (nI fl)) := by unfold isU; rw [hsv]
      rw [eS]
      obtain ⟨s1, s2, s3⟩ := hsrv b hsv
      refine ⟨s1, fun Z hZ => hm0 Z (mb_Mod_interest_39 (s2 Z _ hZ)), fun X Z hZ => hc0 X Z (b_Net_interestComes_57 ⟨i, rfl, i, h387, ?_⟩)⟩
      rw [h500, n1]
      exact s3 X Z _ hZ
    | none =>
      obtain ⟨t1, t2⟩ := v1 hsv
      by_cases hfull : c = P
      · have eS : isU u Q R N i F nm fl z h0 = nkU u Q i F (nI nm) (nI fl) z := by
          unfold isU
          rw [hsv]
          dsimp only
          rw [if_pos eF, if_pos (by rw [e3, h65, hfull])]
        rw [eS]
        refine ⟨⟨gn, wn1, wn2.2.2.1⟩, fun Z hZ => hm0 Z (mb_Mod_interest_39 (t1 _ ⟨fun _ => ⟨fun q => absurd q (by decide), fun _ => ?_⟩, fun q => absurd (by decide) q⟩)), fun X Z hZ => hc0 X Z (b_Net_interestComes_57 ⟨i, rfl, i, h387, ?_⟩)⟩
        · rw [nI_clamp (show i < 2 ^ 31 by omega), e3, h65, hfull]
          exact ⟨(vpi (by omega)).mpr hi, fun q => absurd rfl q, fun _ => hnk.1 Z hZ⟩
        · rw [h500, n1]
          refine t2 X _ fun _ => ⟨fun _ => ⟨fun _ => ⟨fun q => absurd q (by decide), fun _ => ⟨p, rfl, i, h388, ?_⟩⟩, fun a4 q => (by cases q)⟩, fun a3 q => (by cases q)⟩
          refine c_Pending_make (a := ε c) hP6 hA512 e2 e1 (fun q => absurd q (by omega)) (fun q => absurd q (by omega)) ⟨fun q => absurd q (by omega), fun _ _ => b_Net_interestComes_131 ⟨fun _ => ⟨p, rfl, by omega, ?_⟩, fun a1 q => (by cases q)⟩⟩
          rw [p1, p2, p3]
          exact hnk.2 X Z fun g' k1 k2 => hZ g' k1 k2.2.2.1
      · have hcP : c < P := by omega
        have eS : isU u Q R N i F nm fl z h0 = paU (akU (nwU u i c (nI nm) (nI fl)) (6 * i + c) F z (u 67 0 + u 66 0) (nI h0)) Q R N i c c nm fl z := by
          unfold isU
          rw [hsv]
          dsimp only
          rw [if_pos eF, if_neg (by rw [e3, h65, nI_eq (by omega) (by omega)]; exact hfull), ec]
        rw [eS]
        obtain ⟨r1, r2, r3⟩ := new_p (t := u 67 0 + u 66 0) h hi hen0 hcP hF hz hh hnm hfl hno'
        have b93 : akU (nwU u i c (nI nm) (nI fl)) (6 * i + c) F z (u 67 0 + u 66 0) (nI h0) 93 (6 * i + c) = nI nm := by
          rw [akU_at, if_neg (by omega), if_neg (by omega), if_neg (by omega), if_neg (by omega)]
          unfold nwU neU
          rw [mu_at, if_neg (by omega), if_pos ⟨rfl, rfl⟩]
        have b94 : akU (nwU u i c (nI nm) (nI fl)) (6 * i + c) F z (u 67 0 + u 66 0) (nI h0) 94 (6 * i + c) = nI fl := by
          rw [akU_at, if_neg (by omega), if_neg (by omega), if_neg (by omega), if_neg (by omega)]
          unfold nwU neU
          rw [mu_at, if_neg (by omega), if_neg (by omega), if_pos ⟨rfl, rfl⟩]
        have b95 : akU (nwU u i c (nI nm) (nI fl)) (6 * i + c) F z (u 67 0 + u 66 0) (nI h0) 95 (6 * i + c) = nI h0 := by
          rw [akU_at, if_pos ⟨rfl, rfl⟩]
        obtain ⟨q1, q2, q3⟩ := pass_p (z := z) r1 hi r2 (Nat.le_refl c) hz hnm hfl b93 b94
        refine ⟨?_, fun Z hZ => hm0 Z (mb_Mod_interest_39 (t1 _ ⟨fun _ => ⟨fun q => absurd q (by decide), fun _ => ?_⟩, fun q => absurd (by decide) q⟩)), fun X Z hZ => hc0 X Z (b_Net_interestComes_57 ⟨i, rfl, i, h387, ?_⟩)⟩
        · obtain ⟨g0, y1, y2⟩ := q1
          exact ⟨g0, y1, r3.tr y2⟩
        · rw [nI_clamp (show i < 2 ^ 31 by omega), e3, h65]
          refine ⟨(vpi (by omega)).mpr hi, fun _ => ⟨fun _ => ⟨fun q => absurd q (by decide), fun _ => c_Mod_newEntry hi (by omega) e3 (m189 hF (by omega) ⟨fun q => absurd q (by decide), fun _ => ?_⟩)⟩, fun q => absurd (by decide) q⟩, fun q => ?_⟩
          · have := q2 Z hZ
            rw [b95] at this
            exact this
          · rw [nI_eq (by omega) (by omega)] at q
            exact absurd q hfull
        · rw [h500, n1]
          refine t2 X _ fun _ => ⟨fun _ => ⟨fun _ => ⟨fun q => absurd q (by decide), fun _ => ⟨p, rfl, i, h388, ?_⟩⟩, fun a4 q => (by cases q)⟩, fun a3 q => (by cases q)⟩
          rw [p1, p2]
          have hAc := h.1.en hi (e4 c hcP).2.1 (e4 c hcP).2.2
          refine c_Pending_make (a := ε c) hP6 hA512 e2 e1 (fun _ => (e4 c hcP).1) (fun _ => hAc) ⟨fun _ _ => ?_, fun q => absurd hcP q⟩
          have eN : ∀ f b k, f / 64 ≠ 2 → f ≠ 513 → gI (nwG g i c (ε c) (nI nm) (nI fl)) f b k = gI g f b k := by
            intro f b k q1 q2
            unfold nwG
            rw [gI_pI, if_neg (fun q => q2 q.1)]
            show (if f = 128 ∧ b = ε c ∧ k = 0 then _ else if f = 129 ∧ b = ε c ∧ k = 0 then _ else if (f = 131 ∨ f = 133) ∧ b = ε c ∧ k < 5 then _ else g.2.1 f b k) = _
            rw [if_neg (by omega), if_neg (by omega), if_neg (by omega)]
            rfl
          refine c131 (u := u) hF hAc (by rw [eN 451 p 0 (by decide) (by decide)]; exact p3) (by rw [eN 452 p 0 (by decide) (by decide)]; exact p4) (by omega) (by rw [eN 1 0 0 (by decide) (by decide)]; exact n1) (by rw [eN 0 0 0 (by decide) (by decide)]; exact n0) ⟨fun _ => q3 X Z fun g' l1 l2 => hZ g' l1 (r3.tr l2), fun q => absurd q (by decide)⟩
  · -- an entry
    have hjc : j < c := by omega
    simp only [Bool.and_eq_true, decide_eq_true_eq] at hjx
    obtain ⟨ja, jb⟩ := hjx
    have huq : ∀ j', j' < c → u 93 (6 * i + j') = nI nm → u 94 (6 * i + j') = nI fl → j' = j := fun j' hj' q1 q2 => e7 j' j hj' hjc (by rw [q1, ja]) (by rw [q2, jb])
    have eF : enF u i nm fl = nI j := by unfold enF; rw [ec]; exact ef
    have eFt : (enF u i nm fl).toNatClampNeg = j := by rw [eF, nI_clamp (by omega)]
    have eFn : ¬ enF u i nm fl = -1 := by rw [eF]; exact nI_m1 (by omega)
    obtain ⟨k1, k2, k3, -, -, -, nf⟩ := e6 j hjc
    have hA := h.1.en hi (e4 j (by omega)).2.1 (e4 j (by omega)).2.2
    have hm0 : ∀ Z : MS → Prop, ((rdF u (5 * (6 * i + j)) F z 5 = false → mWP M_Mod_interest 39 [qr 1 (some 0), qi (nI i), qi (nI F), qi (nI nm), qi (nI fl), qi z, qi (nI h0), qi (nI (6 * i + j)), none, none] [] u (mV Z)) ∧ (rdF u (5 * (6 * i + j)) F z 5 = true → mMT M_Mod_nackOut [qr 1 (some 0), qi (nI i), qi (nI F), qi (nI nm), qi (nI fl), qi z] u (mV fun u3 => Z u3))) → mMT M_Mod_interest [qr 1 (some 0), qi (nI i), qi (nI F), qi (nI nm), qi (nI fl), qi z, qi (nI h0)] u (mV Z) := by
      intro Z hh'
      refine mt_Mod_interest (c_Mod_entry hi (by omega) e3 ⟨fun j' hj' q1 q2 => ?_, fun hno => absurd ⟨ja, jb⟩ (hno j hjc)⟩)
      have := huq j' hj' q1 q2
      subst this
      refine ⟨fun q => absurd q (nI_pos (by omega)), fun _ => c_Mod_round (g := g) (a := ε j') (by omega) hF nf ?_⟩
      cases hr : rdF u (5 * (6 * i + j')) F z 5 with
      | false => exact ⟨fun _ => hh'.1 hr, fun q => absurd rfl q⟩
      | true => exact ⟨fun q => absurd q (by decide), fun _ => hh'.2 hr⟩
    have hc0 : ∀ (X : Nat × (Nat → Int32)) (Z : sg → Prop), ((rdF u (5 * (6 * i + j)) F z 5 = false → nnWP X M_Net_interestComes 5 57 [qr 0 (some 0), qr 6 (some i), qi (nI F), qr 7 (some p), qr 2 (some (ε j)), none, none, none] [] g (zV Z)) ∧ (rdF u (5 * (6 * i + j)) F z 5 = true → nnMT X M_Packet_nack 1 [qi (nI nm), qi (nI fl), qi z] g (zR 7 fun r3 g3 => gExt g g3 → nnMT X M_Net_sendNack 0 [qr 0 (some 0), qr 6 (some i), qi (nI F), qr 7 r3] g3 (zV fun g4 => gExt g3 g4 → Z g4)))) → nnMT X M_Net_interestComes 5 [qr 0 (some 0), qr 6 (some i), qi (nI F), qr 7 (some p)] g (zV Z) := by
      intro X Z hh'
      refine t_Net_interestComes ⟨i, rfl, p, rfl, i, h388, ?_⟩
      rw [p1, p2]
      refine c_Pending_find hP6 hA512 hen0 ⟨fun j' hj' q1 q2 _ => ⟨fun q => (by cases q), fun a4 ha4 => ?_⟩, fun hno => absurd ⟨ja, jb⟩ (hno j hjc)⟩
      have := huq j' hj' q1 q2
      subst this
      cases ha4
      rw [p3]
      refine c_Entry_hasSeen hA hF nf hzn fun _ => ?_
      rw [p1, p2, p3]
      cases hr : rdF u (5 * (6 * i + j')) F z 5 with
      | false => exact ⟨fun _ => hh'.1 hr, fun q => absurd rfl q⟩
      | true => exact ⟨fun q => absurd q (by decide), fun _ => ⟨by omega, hh'.2 hr⟩⟩
    cases hrd : rdF u (5 * (6 * i + j)) F z 5 with
    | true =>
      have eI : inU u Q R N i F nm fl z h0 = nkU u Q i F (nI nm) (nI fl) z := by
        unfold inU
        rw [eFt, if_pos ⟨eFn, hrd⟩]
      rw [eI]
      exact ⟨⟨gn, wn1, wn2.2.2.1⟩, fun Z hZ => hm0 Z ⟨fun q => absurd hrd (by rw [q]; decide), fun _ => hnk.1 Z hZ⟩, fun X Z hZ => hc0 X Z ⟨fun q => absurd hrd (by rw [q]; decide), fun _ => hnk.2 X Z fun g' l1 l2 => hZ g' l1 l2.2.2.1⟩⟩
    | false =>
      have eI : inU u Q R N i F nm fl z h0 = isU u Q R N i F nm fl z h0 := by
        unfold inU
        rw [eFt, if_neg (fun q => by rw [hrd] at q; exact absurd q.2 (by decide))]
      rw [eI]
      cases hsv : svF u i nm fl (u 84 i).toNatClampNeg with
      | some b =>
        have eS : isU u Q R N i F nm fl z h0 = dtU (sevU u i b) Q i F (sevU u i b 85 (sevE u i)) (sevU u i b 86 (sevE u i)) (sevU u i b 87 (sevE u i)) (nI nm) (nI fl) := by unfold isU; rw [hsv]
        rw [eS]
        obtain ⟨s1, s2, s3⟩ := hsrv b hsv
        refine ⟨s1, fun Z hZ => hm0 Z ⟨fun _ => mb_Mod_interest_39 (s2 Z _ hZ), fun q => absurd q (by rw [hrd]; decide)⟩, fun X Z hZ => hc0 X Z ⟨fun _ => b_Net_interestComes_57 ⟨i, rfl, i, h387, ?_⟩, fun q => absurd q (by rw [hrd]; decide)⟩⟩
        rw [h500, n1]
        exact s3 X Z _ hZ
      | none =>
        obtain ⟨t1, t2⟩ := v1 hsv
        obtain ⟨r1, r2, r3⟩ := ak_p (t := u 67 0 + u 66 0) h hi hen0 hjc hF hz hh
        have hm1 : ∀ Z : MS → Prop, ((u 96 (5 * (6 * i + j) + F) = 0 → Z (akU u (6 * i + j) F z (u 67 0 + u 66 0) (nI h0))) ∧ (¬ u 96 (5 * (6 * i + j) + F) = 0 → mMT M_Mod_passOn [qr 1 (some 0), qi (nI i), qi (nI nm), qi (nI fl), qi z, qi (nI h0)] (akU u (6 * i + j) F z (u 67 0 + u 66 0) (nI h0)) (mV fun u5 => Z u5))) → mMT M_Mod_interest [qr 1 (some 0), qi (nI i), qi (nI F), qi (nI nm), qi (nI fl), qi z, qi (nI h0)] u (mV Z) := by
          intro Z hh'
          refine hm0 Z ⟨fun _ => mb_Mod_interest_39 (t1 _ ⟨fun _ => ⟨fun _ => ⟨fun q => absurd q (nI_pos (by omega)), fun _ => ?_⟩, fun q => absurd (nI_pos' (by omega)) q⟩, fun q => absurd (by decide) q⟩), fun q => absurd q (by rw [hrd]; decide)⟩
          rw [show (5 : Int32) * nI (6 * i + j) + nI F = nI (5 * (6 * i + j) + F) by rw [nl_5, pk_mul, nI_add], nI_clamp (show 5 * (6 * i + j) + F < 2 ^ 31 by omega), (nf F hF).le96]
          exact ⟨(vpi (by omega)).mpr (by omega), fun q => ⟨fun _ => m189 hF (by omega) ⟨fun _ => hh'.1 q, fun q2 => absurd rfl q2⟩, fun q2 => absurd (nI_pos' (by omega)) q2⟩, fun q => ⟨fun _ => m189 hF (by omega) ⟨fun q2 => absurd q2 (by decide), fun _ => hh'.2 q⟩, fun q2 => absurd (nI_pos' (by omega)) q2⟩⟩
        have hc1 : ∀ (X : Nat × (Nat → Int32)) (Z : sg → Prop), ((u 96 (5 * (6 * i + j) + F) = 0 → Z (akG g (ε j) F z (u 67 0 + u 66 0) (nI h0))) ∧ (¬ u 96 (5 * (6 * i + j) + F) = 0 → nnMT X M_Net_passOn 5 [qr 0 (some 0), qr 6 (some i), qr 2 (some (ε j)), qi z] (akG g (ε j) F z (u 67 0 + u 66 0) (nI h0)) (zV Z))) → nnMT X M_Net_interestComes 5 [qr 0 (some 0), qr 6 (some i), qi (nI F), qr 7 (some p)] g (zV Z) := by
          intro X Z hh'
          refine hc0 X Z ⟨fun _ => b_Net_interestComes_57 ⟨i, rfl, i, h387, ?_⟩, fun q => absurd q (by rw [hrd]; decide)⟩
          rw [h500, n1]
          refine t2 X _ fun _ => ⟨fun _ => ⟨fun q => (by cases q), fun a4 _ => ⟨fun _ => ?_, fun q => absurd rfl q⟩⟩, fun a3 q => (by cases q)⟩
          refine c131 (u := u) hF hA p3 p4 (by omega) n1 n0 ?_
          rw [(nf F hF).as]
          refine ⟨fun q => hh'.2 ?_, fun _ q => hh'.1 q⟩
          rcases q with q | q
          · exact absurd rfl q
          · exact q
        obtain ⟨c', rfl⟩ : ∃ c', c = c' + 1 := ⟨c - 1, by omega⟩
        have b93 : akU u (6 * i + j) F z (u 67 0 + u 66 0) (nI h0) 93 (6 * i + j) = nI nm := ja
        have b94 : akU u (6 * i + j) F z (u 67 0 + u 66 0) (nI h0) 94 (6 * i + j) = nI fl := jb
        have b95 : akU u (6 * i + j) F z (u 67 0 + u 66 0) (nI h0) 95 (6 * i + j) = nI h0 := by rw [akU_at, if_pos ⟨rfl, rfl⟩]
        by_cases h96 : u 96 (5 * (6 * i + j) + F) = 0
        · have eS : isU u Q R N i F nm fl z h0 = akU u (6 * i + j) F z (u 67 0 + u 66 0) (nI h0) := by
            unfold isU
            rw [hsv]
            dsimp only
            rw [if_neg eFn, eFt, if_pos h96]
          rw [eS]
          exact ⟨⟨_, r1, r3⟩, fun Z hZ => hm1 Z ⟨fun _ => hZ, fun q => absurd h96 q⟩, fun X Z hZ => hc1 X Z ⟨fun _ => hZ _ r1 r3, fun q => absurd h96 q⟩⟩
        · have eS : isU u Q R N i F nm fl z h0 = paU (akU u (6 * i + j) F z (u 67 0 + u 66 0) (nI h0)) Q R N i c' j nm fl z := by
            unfold isU
            rw [hsv]
            dsimp only
            rw [if_neg eFn, eFt, if_neg h96, ec]
            rfl
          rw [eS]
          obtain ⟨q1, q2, q3⟩ := pass_p (z := z) r1 hi r2 (show j ≤ c' by omega) hz hnm hfl b93 b94
          refine ⟨?_, fun Z hZ => hm1 Z ⟨fun q => absurd q h96, fun _ => ?_⟩, fun X Z hZ => hc1 X Z ⟨fun q => absurd q h96, fun _ => q3 X Z fun g' l1 l2 => hZ g' l1 (r3.tr l2)⟩⟩
          · obtain ⟨g0, y1, y2⟩ := q1
            exact ⟨g0, y1, r3.tr y2⟩
          · have := q2 Z hZ
            rw [b95] at this
            exact this
