theorem b_Net_init_0 {X : Nat × (Nat → Int32)} {k : Nat} {g : sg} {l0 : Nat} {l1 : Int32} {l2 : Int32} {l3 : Int32} {Z : sg → Prop} (h : 2 ≤ k ∧ gA g 2 l0 = none ∧ ∀ g1, g1 = pA g 2 l0 24 → 1 ≤ (k - 2) ∧ gA g1 4 l0 = none ∧ ∀ g2, g2 = pA g1 4 l0 4 → 1 ≤ (k - 2 - 1) ∧ ∀ g3, g3 = pN g2 5 → 9 ≤ (k - 2 - 1 - 1) ∧ nnMT X M_Names_init 9 [qr 5 (some (gC g2 5))] g3 (zV fun g4 => gExt g3 g4 → ∀ g5, g5 = pR g4 5 l0 0 (some (gC g2 5)) → 1 ≤ (k - 2 - 1 - 1 - 9) ∧ gA g5 6 l0 = none ∧ ∀ g6, g6 = pA g5 6 l0 5 → 3 ≤ (k - 2 - 1 - 1 - 9 - 1) ∧ gA g6 7 l0 = none ∧ ∀ g7, g7 = pA g6 7 l0 48 → 3 ≤ (k - 2 - 1 - 1 - 9 - 1 - 3) ∧ gA g7 8 l0 = none ∧ ∀ g8, g8 = pA g7 8 l0 48 → 8 ≤ (k - 2 - 1 - 1 - 9 - 1 - 3 - 3) ∧ gA g8 9 l0 = none ∧ ∀ g9, g9 = pA g8 9 l0 120 → nnMT X M_Net_within 0 [qi l3, qi (1 : Int32), qi (9 : Int32)] g9 (zI fun r1 g10 => gExt g9 g10 → ∀ g11, g11 = pI g10 0 l0 0 r1 → nnWP X M_Net_init (k - 2 - 1 - 1 - 9 - 1 - 3 - 3 - 8) 78 [qr 0 (some l0), qi l1, qi l2, none, qi (0 : Int32)] [] g11 (zV Z)))) : nnWP X M_Net_init k 0 [qr 0 (some l0), qi l1, qi l2, qi l3, none] [] g (zV Z) := by
  refine wp_aload_n (i := 0) (v := qr 0 (some l0)) (dz dl_Net_init_0 0 0 (.aload_n 0) 1 rfl) rfl rfl trivial ?_
  refine wp_objInit l0 (dz dl_Net_init_0 1 1 (.invokespecial 1) 3 rfl) wm_Net_1 w_oi w_oc (by decide) (by decide) (Nat.le_of_ble_eq_true rfl) rfl ?_
  refine wp_aload_n (i := 0) (v := qr 0 (some l0)) (dz dl_Net_init_0 2 4 (.aload_n 0) 1 rfl) rfl rfl trivial ?_
  refine wp_bipush (dz dl_Net_init_0 3 5 (.bipush (24)) 2 rfl) (v := (24 : Int32)) (by decide) ?_
  obtain ⟨u1, h⟩ := h
  obtain ⟨q1, h⟩ := h
  have h := h _ rfl
  refine wp_newA (n := 24) l0 2 (dz dl_Net_init_0 4 7 (.newarray .char) 2 rfl) (dz dl_Net_init_0 5 9 (.putfield 9) 3 rfl) wf_Net_9 kd_2 rfl (by decide) (by decide) wa_1 rfl rfl rfl (by decide) (by decide) (by decide) u1 q1 rfl ?_
  refine wp_aload_n (i := 0) (v := qr 0 (some l0)) (dz dl_Net_init_0 6 12 (.aload_n 0) 1 rfl) rfl rfl trivial ?_
  refine wp_iconst (dz dl_Net_init_0 7 13 (.iconst (4)) 1 rfl) (v := (4 : Int32)) (by decide) ?_
  obtain ⟨u2, h⟩ := h
  obtain ⟨q2, h⟩ := h
  have h := h _ rfl
  refine wp_newA (n := 4) l0 1 (dz dl_Net_init_0 8 14 (.newarray .int) 2 rfl) (dz dl_Net_init_0 9 16 (.putfield 13) 3 rfl) wf_Net_13 kd_4 rfl (by decide) (by decide) wa_0 rfl rfl rfl (by decide) (by decide) (by decide) u2 q2 rfl ?_
  refine wp_aload_n (i := 0) (v := qr 0 (some l0)) (dz dl_Net_init_0 10 19 (.aload_n 0) 1 rfl) rfl rfl trivial ?_
  obtain ⟨u3, h⟩ := h
  have h := h _ rfl
  refine wp_new 1 (dz dl_Net_init_0 11 20 (.new 17) 3 rfl) (by decide) wc_Net_17 wi_5 wn_5 ⟨by decide, by decide⟩ rfl u3 ?_
  refine wp_dup (dz dl_Net_init_0 12 23 (.dup) 1 rfl) ?_
  obtain ⟨u4, h⟩ := h
  refine wp_callI (gC (pA (pA g 2 l0 24) 4 l0 4) 5) 9 [] [qr 5 (some (gC (pA (pA g 2 l0 24) 4 l0 4) 5)), qr 0 (some l0)] (dz dl_Net_init_0 13 24 (.invokespecial 19) 3 rfl) ok_Names_init rfl rfl lm_Net_19 ws_Names_init ⟨Nat.le_of_ble_eq_true rfl, Nat.le_of_ble_eq_true rfl⟩ pn_Names_init (Nat.le_of_ble_eq_true rfl) (Nat.le_of_ble_eq_true rfl) rfl (Or.inl rfl) u4 (mt_mono h ?_)
  rintro _ g4 ⟨rfl, h⟩ y1
  replace h := h y1.1
  show nnWP _ _ _ _ _ [qr 5 (some (gC (pA (pA g 2 l0 24) 4 l0 4) 5)), qr 0 (some l0)] _ _
  have h := h _ rfl
  refine wp_putRF l0 (dz dl_Net_init_0 14 27 (.putfield 20) 3 rfl) wf_Net_20 kd_5 rfl rfl rfl ?_
  refine wp_aload_n (i := 0) (v := qr 0 (some l0)) (dz dl_Net_init_0 15 30 (.aload_n 0) 1 rfl) rfl rfl trivial ?_
  refine wp_iconst (dz dl_Net_init_0 16 31 (.iconst (5)) 1 rfl) (v := (5 : Int32)) (by decide) ?_
  obtain ⟨u5, h⟩ := h
  obtain ⟨q3, h⟩ := h
  have h := h _ rfl
  refine wp_newR (n := 5) l0 1 (dz dl_Net_init_0 17 32 (.anewarray 24) 3 rfl) (dz dl_Net_init_0 18 35 (.putfield 26) 3 rfl) wf_Net_26 kd_6 (by decide) wc_Net_24 (by decide) rfl rfl rfl (by decide) (by decide) (by decide) u5 q3 rfl ?_
  refine wp_aload_n (i := 0) (v := qr 0 (some l0)) (dz dl_Net_init_0 19 38 (.aload_n 0) 1 rfl) rfl rfl trivial ?_
  refine wp_bipush (dz dl_Net_init_0 20 39 (.bipush (48)) 2 rfl) (v := (48 : Int32)) (by decide) ?_
  obtain ⟨u6, h⟩ := h
  obtain ⟨q4, h⟩ := h
  have h := h _ rfl
  refine wp_newR (n := 48) l0 3 (dz dl_Net_init_0 21 41 (.anewarray 30) 3 rfl) (dz dl_Net_init_0 22 44 (.putfield 32) 3 rfl) wf_Net_32 kd_7 (by decide) wc_Net_30 (by decide) rfl rfl rfl (by decide) (by decide) (by decide) u6 q4 rfl ?_
  refine wp_aload_n (i := 0) (v := qr 0 (some l0)) (dz dl_Net_init_0 23 47 (.aload_n 0) 1 rfl) rfl rfl trivial ?_
  refine wp_bipush (dz dl_Net_init_0 24 48 (.bipush (48)) 2 rfl) (v := (48 : Int32)) (by decide) ?_
  obtain ⟨u7, h⟩ := h
  obtain ⟨q5, h⟩ := h
  have h := h _ rfl
  refine wp_newA (n := 48) l0 3 (dz dl_Net_init_0 25 50 (.newarray .int) 2 rfl) (dz dl_Net_init_0 26 52 (.putfield 36) 3 rfl) wf_Net_36 kd_8 rfl (by decide) (by decide) wa_0 rfl rfl rfl (by decide) (by decide) (by decide) u7 q5 rfl ?_
  refine wp_aload_n (i := 0) (v := qr 0 (some l0)) (dz dl_Net_init_0 27 55 (.aload_n 0) 1 rfl) rfl rfl trivial ?_
  refine wp_bipush (dz dl_Net_init_0 28 56 (.bipush (120)) 2 rfl) (v := (120 : Int32)) (by decide) ?_
  obtain ⟨u8, h⟩ := h
  obtain ⟨q6, h⟩ := h
  have h := h _ rfl
  refine wp_newR (n := 120) l0 8 (dz dl_Net_init_0 29 58 (.anewarray 39) 3 rfl) (dz dl_Net_init_0 30 61 (.putfield 41) 3 rfl) wf_Net_41 kd_9 (by decide) wc_Net_39 (by decide) rfl rfl rfl (by decide) (by decide) (by decide) u8 q6 rfl ?_
  refine wp_aload_n (i := 0) (v := qr 0 (some l0)) (dz dl_Net_init_0 31 64 (.aload_n 0) 1 rfl) rfl rfl trivial ?_
  refine wp_iload_n (i := 3) (x := l3) (dz dl_Net_init_0 32 65 (.iload_n 3) 1 rfl) rfl rfl ?_
  refine wp_iconst (dz dl_Net_init_0 33 66 (.iconst (1)) 1 rfl) (v := (1 : Int32)) (by decide) ?_
  refine wp_bipush (dz dl_Net_init_0 34 67 (.bipush (9)) 2 rfl) (v := (9 : Int32)) (by decide) ?_
  refine wp_callS 0 [qi l3, qi (1 : Int32), qi (9 : Int32)] [qr 0 (some l0)] (dz dl_Net_init_0 35 69 (.invokestatic 45) 3 rfl) ok_Net_within lm_Net_45 ws_Net_within ⟨Nat.le_of_ble_eq_true rfl, Nat.le_of_ble_eq_true rfl⟩ pn_Net_within (Nat.le_of_ble_eq_true rfl) (Nat.le_of_ble_eq_true rfl) (Or.inl rfl) (Nat.zero_le _) (mt_mono h ?_)
  rintro _ g10 ⟨r1, rfl, h⟩ y2
  replace h := h y2.1
  show nnWP _ _ _ _ _ [qi r1, qr 0 (some l0)] _ _
  have h := h _ rfl
  refine wp_putIF l0 (dz dl_Net_init_0 36 72 (.putfield 49) 3 rfl) wf_Net_49 kd_0 rfl rfl (okI_0 _) rfl ?_
  refine wp_iconst (dz dl_Net_init_0 37 75 (.iconst (0)) 1 rfl) (v := (0 : Int32)) (by decide) ?_
  refine wp_istore (i := 4) (dz dl_Net_init_0 38 76 (.istore 4) 2 rfl) [qr 0 (some l0), qi l1, qi l2, qi l3, qi (0 : Int32)] (by decide) rfl ?_
  exact wp_cut h ⟨Or.inr rfl, Or.inr rfl, Or.inr rfl, Or.inl rfl, Or.inr rfl, trivial⟩
theorem t_Net_init {X : Nat × (Nat → Int32)} {k : Nat} {g : sg} {l0 : Nat} {l1 : Int32} {l2 : Int32} {l3 : Int32} {Z : sg → Prop} (h : 2 ≤ k ∧ gA g 2 l0 = none ∧ ∀ g1, g1 = pA g 2 l0 24 → 1 ≤ (k - 2) ∧ gA g1 4 l0 = none ∧ ∀ g2, g2 = pA g1 4 l0 4 → 1 ≤ (k - 2 - 1) ∧ ∀ g3, g3 = pN g2 5 → 9 ≤ (k - 2 - 1 - 1) ∧ nnMT X M_Names_init 9 [qr 5 (some (gC g2 5))] g3 (zV fun g4 => gExt g3 g4 → ∀ g5, g5 = pR g4 5 l0 0 (some (gC g2 5)) → 1 ≤ (k - 2 - 1 - 1 - 9) ∧ gA g5 6 l0 = none ∧ ∀ g6, g6 = pA g5 6 l0 5 → 3 ≤ (k - 2 - 1 - 1 - 9 - 1) ∧ gA g6 7 l0 = none ∧ ∀ g7, g7 = pA g6 7 l0 48 → 3 ≤ (k - 2 - 1 - 1 - 9 - 1 - 3) ∧ gA g7 8 l0 = none ∧ ∀ g8, g8 = pA g7 8 l0 48 → 8 ≤ (k - 2 - 1 - 1 - 9 - 1 - 3 - 3) ∧ gA g8 9 l0 = none ∧ ∀ g9, g9 = pA g8 9 l0 120 → nnMT X M_Net_within 0 [qi l3, qi (1 : Int32), qi (9 : Int32)] g9 (zI fun r1 g10 => gExt g9 g10 → ∀ g11, g11 = pI g10 0 l0 0 r1 → nnWP X M_Net_init (k - 2 - 1 - 1 - 9 - 1 - 3 - 3 - 8) 78 [qr 0 (some l0), qi l1, qi l2, none, qi (0 : Int32)] [] g11 (zV Z)))) : nnMT X M_Net_init k [qr 0 (some l0), qi l1, qi l2, qi l3] g (zV Z) := b_Net_init_0 h

theorem b_Net_init_78 {X : Nat × (Nat → Int32)} {k : Nat} {g : sg} {l0 : Nat} {l1 : Int32} {l2 : Int32} {l4 : Int32} {Z : sg → Prop} (h : ((5 : Int32) ≤ l4 → Z g) ∧ (¬ (5 : Int32) ≤ l4 → gA g 6 l0 = some 5 ∧ 1 ≤ k ∧ ∀ g1, g1 = pN g 6 → nnMT X M_Net_within 0 [qi l1, qi (0 : Int32), qi (6 : Int32)] g1 (zI fun r1 g2 => gExt g1 g2 → nnMT X M_Net_within 0 [qi l2, qi (1 : Int32), qi (6 : Int32)] g2 (zI fun r2 g3 => gExt g2 g3 → 54 ≤ (k - 1) ∧ nnMT X M_Node_init 54 [qr 6 (some (gC g 6)), qi l4, qi r1, qi r2] g3 (zV fun g4 => gExt g3 g4 → vp_in l4 5 ∧ ∀ g5, g5 = pR g4 6 l0 l4.toNatClampNeg (some (gC g 6)) → nnWP X M_Net_init (k - 1 - 54) 78 [qr 0 (some l0), qi l1, qi l2, none, qi (l4 + 1)] [] g5 (zV Z)))))) : nnWP X M_Net_init k 78 [qr 0 (some l0), qi l1, qi l2, none, qi l4] [] g (zV Z) := by
  refine wp_iload (i := 4) (x := l4) (dz dl_Net_init_0 39 78 (.iload 4) 2 rfl) rfl ?_
  refine wp_iconst (dz dl_Net_init_1 0 80 (.iconst (5)) 1 rfl) (v := (5 : Int32)) (by decide) ?_
  refine wp_icmp_ge (tgt := 120) (dz dl_Net_init_1 1 81 (.if_icmp .ge (39)) 3 rfl) (by decide) (fun hc => ?_) (fun hc => ?_)
  · replace h := h.1 hc
    exact wp_rt none (rt_V rfl (dz dl_Net_init_1 20 120 (.return_) 1 rfl)) ⟨rfl, h⟩
  · replace h := h.2 hc
    refine wp_aload_n (i := 0) (v := qr 0 (some l0)) (dz dl_Net_init_1 2 84 (.aload_n 0) 1 rfl) rfl rfl trivial ?_
    obtain ⟨n1, h⟩ := h
    refine wp_getA l0 5 (dz dl_Net_init_1 3 85 (.getfield 26) 3 rfl) lk_Net_26 (q := 1) kd_6 rfl rfl n1 ?_
    refine wp_iload (i := 4) (x := l4) (dz dl_Net_init_1 4 88 (.iload 4) 2 rfl) rfl ?_
    obtain ⟨u1, h⟩ := h
    have h := h _ rfl
    refine wp_new 1 (dz dl_Net_init_1 5 90 (.new 24) 3 rfl) (by decide) wc_Net_24 wi_6 wn_6 ⟨by decide, by decide⟩ rfl u1 ?_
    refine wp_dup (dz dl_Net_init_1 6 93 (.dup) 1 rfl) ?_
    refine wp_iload (i := 4) (x := l4) (dz dl_Net_init_1 7 94 (.iload 4) 2 rfl) rfl ?_
    refine wp_iload_n (i := 1) (x := l1) (dz dl_Net_init_1 8 96 (.iload_n 1) 1 rfl) rfl rfl ?_
    refine wp_iconst (dz dl_Net_init_1 9 97 (.iconst (0)) 1 rfl) (v := (0 : Int32)) (by decide) ?_
    refine wp_bipush (dz dl_Net_init_1 10 98 (.bipush (6)) 2 rfl) (v := (6 : Int32)) (by decide) ?_
    refine wp_callS 0 [qi l1, qi (0 : Int32), qi (6 : Int32)] [qi l4, qr 6 (some (gC g 6)), qr 6 (some (gC g 6)), qi l4, qa 6 l0] (dz dl_Net_init_1 11 100 (.invokestatic 45) 3 rfl) ok_Net_within lm_Net_45 ws_Net_within ⟨Nat.le_of_ble_eq_true rfl, Nat.le_of_ble_eq_true rfl⟩ pn_Net_within (Nat.le_of_ble_eq_true rfl) (Nat.le_of_ble_eq_true rfl) (Or.inl rfl) (Nat.zero_le _) (mt_mono h ?_)
    rintro _ g2 ⟨r1, rfl, h⟩ y1
    replace h := h y1.1
    show nnWP _ _ _ _ _ [qi r1, qi l4, qr 6 (some (gC g 6)), qr 6 (some (gC g 6)), qi l4, qa 6 l0] _ _
    refine wp_iload_n (i := 2) (x := l2) (dz dl_Net_init_1 12 103 (.iload_n 2) 1 rfl) rfl rfl ?_
    refine wp_iconst (dz dl_Net_init_1 13 104 (.iconst (1)) 1 rfl) (v := (1 : Int32)) (by decide) ?_
    refine wp_bipush (dz dl_Net_init_1 14 105 (.bipush (6)) 2 rfl) (v := (6 : Int32)) (by decide) ?_
    refine wp_callS 0 [qi l2, qi (1 : Int32), qi (6 : Int32)] [qi r1, qi l4, qr 6 (some (gC g 6)), qr 6 (some (gC g 6)), qi l4, qa 6 l0] (dz dl_Net_init_1 15 107 (.invokestatic 45) 3 rfl) ok_Net_within lm_Net_45 ws_Net_within ⟨Nat.le_of_ble_eq_true rfl, Nat.le_of_ble_eq_true rfl⟩ pn_Net_within (Nat.le_of_ble_eq_true rfl) (Nat.le_of_ble_eq_true rfl) (Or.inl rfl) (Nat.zero_le _) (mt_mono h ?_)
    rintro _ g3 ⟨r2, rfl, h⟩ y2
    replace h := h y2.1
    show nnWP _ _ _ _ _ [qi r2, qi r1, qi l4, qr 6 (some (gC g 6)), qr 6 (some (gC g 6)), qi l4, qa 6 l0] _ _
    obtain ⟨u2, h⟩ := h
    refine wp_callI (gC g 6) 54 [qi l4, qi r1, qi r2] [qr 6 (some (gC g 6)), qi l4, qa 6 l0] (dz dl_Net_init_1 16 110 (.invokespecial 53) 3 rfl) ok_Node_init rfl rfl lm_Net_53 ws_Node_init ⟨Nat.le_of_ble_eq_true rfl, Nat.le_of_ble_eq_true rfl⟩ pn_Node_init (Nat.le_of_ble_eq_true rfl) (Nat.le_of_ble_eq_true rfl) rfl (Or.inl rfl) u2 (mt_mono h ?_)
    rintro _ g4 ⟨rfl, h⟩ y3
    replace h := h y3.1
    show nnWP _ _ _ _ _ [qr 6 (some (gC g 6)), qi l4, qa 6 l0] _ _
    obtain ⟨i1, h⟩ := h
    have h := h _ rfl
    refine wp_aast 5 (dz dl_Net_init_1 17 113 (.aastore) 1 rfl) kd_6 (by decide) (y3.1.2 _ _ _ (y2.1.2 _ _ _ (y1.1.2 _ _ _ (gA_pN_ne (by decide) n1)))) i1 rfl ?_
    refine wp_iinc (i := 4) (v := l4 + 1) (dz dl_Net_init_1 18 114 (.iinc 4 (1)) 3 rfl) rfl (congrArg (fun z => l4 + z) (by decide)) [qr 0 (some l0), qi l1, qi l2, none, qi (l4 + 1)] (by decide) rfl ?_
    refine wp_goto (tgt := 78) (dz dl_Net_init_1 19 117 (.goto (-39)) 3 rfl) (by decide) ?_
    exact wp_cut h ⟨Or.inr rfl, Or.inr rfl, Or.inr rfl, Or.inl rfl, Or.inr rfl, trivial⟩

theorem b_Net_write_0 {X : Nat × (Nat → Int32)} {k : Nat} {g : sg} {l0 : Nat} {l1 : Int32} {Z : Int32 → sg → Prop} (h : ((24 : Int32) ≤ (gI g 3 l0 0) → Z (0 : Int32) g) ∧ (¬ (24 : Int32) ≤ (gI g 3 l0 0) → (l1 < (32 : Int32) → Z (0 : Int32) g) ∧ (¬ l1 < (32 : Int32) → (l1 ≤ (126 : Int32) → gA g 2 l0 = some 24 ∧ vp_in (gI g 3 l0 0) 24 ∧ okI 1 l1 ∧ ∀ g1, g1 = pI g 2 l0 (gI g 3 l0 0).toNatClampNeg l1 → ∀ g2, g2 = pI g1 3 l0 0 ((gI g1 3 l0 0) + (1 : Int32)) → Z (1 : Int32) g2) ∧ (¬ l1 ≤ (126 : Int32) → Z (0 : Int32) g)))) : nnWP X M_Net_write k 0 [qr 0 (some l0), qi l1] [] g (zI Z) := by
  refine wp_aload_n (i := 0) (v := qr 0 (some l0)) (dz dl_Net_write_0 0 0 (.aload_n 0) 1 rfl) rfl rfl trivial ?_
  refine wp_getI l0 (dz dl_Net_write_0 1 1 (.getfield 56) 3 rfl) lk_Net_56 kd_3 rfl rfl ?_
  refine wp_bipush (dz dl_Net_write_0 2 4 (.bipush (24)) 2 rfl) (v := (24 : Int32)) (by decide) ?_
  refine wp_icmp_ge (tgt := 21) (dz dl_Net_write_0 3 6 (.if_icmp .ge (15)) 3 rfl) (by decide) (fun hc => ?_) (fun hc => ?_)
  · replace h := h.1 hc
    refine wp_iconst (dz dl_Net_write_0 10 21 (.iconst (0)) 1 rfl) (v := (0 : Int32)) (by decide) ?_
    exact wp_rt (qi _) (rt_Z rfl (Or.inl rfl) (dz dl_Net_write_0 11 22 (.ireturn) 1 rfl)) ⟨_, rfl, h⟩
  · replace h := h.2 hc
    refine wp_iload_n (i := 1) (x := l1) (dz dl_Net_write_0 4 9 (.iload_n 1) 1 rfl) rfl rfl ?_
    refine wp_bipush (dz dl_Net_write_0 5 10 (.bipush (32)) 2 rfl) (v := (32 : Int32)) (by decide) ?_
    refine wp_icmp_lt (tgt := 21) (dz dl_Net_write_0 6 12 (.if_icmp .lt (9)) 3 rfl) (by decide) (fun hc => ?_) (fun hc => ?_)
    · replace h := h.1 hc
      refine wp_iconst (dz dl_Net_write_0 10 21 (.iconst (0)) 1 rfl) (v := (0 : Int32)) (by decide) ?_
      exact wp_rt (qi _) (rt_Z rfl (Or.inl rfl) (dz dl_Net_write_0 11 22 (.ireturn) 1 rfl)) ⟨_, rfl, h⟩
    · replace h := h.2 hc
      refine wp_iload_n (i := 1) (x := l1) (dz dl_Net_write_0 7 15 (.iload_n 1) 1 rfl) rfl rfl ?_
      refine wp_bipush (dz dl_Net_write_0 8 16 (.bipush (126)) 2 rfl) (v := (126 : Int32)) (by decide) ?_
      refine wp_icmp_le (tgt := 23) (dz dl_Net_write_0 9 18 (.if_icmp .le (5)) 3 rfl) (by decide) (fun hc => ?_) (fun hc => ?_)
      · replace h := h.1 hc
        refine wp_aload_n (i := 0) (v := qr 0 (some l0)) (dz dl_Net_write_0 12 23 (.aload_n 0) 1 rfl) rfl rfl trivial ?_
        obtain ⟨n1, h⟩ := h
        refine wp_getA l0 24 (dz dl_Net_write_0 13 24 (.getfield 9) 3 rfl) lk_Net_9 (q := 0) kd_2 rfl rfl n1 ?_
        refine wp_aload_n (i := 0) (v := qr 0 (some l0)) (dz dl_Net_write_0 14 27 (.aload_n 0) 1 rfl) rfl rfl trivial ?_
        refine wp_getI l0 (dz dl_Net_write_0 15 28 (.getfield 56) 3 rfl) lk_Net_56 kd_3 rfl rfl ?_
        refine wp_iload_n (i := 1) (x := l1) (dz dl_Net_write_0 16 31 (.iload_n 1) 1 rfl) rfl rfl ?_
        obtain ⟨i1, h⟩ := h
        obtain ⟨o1, h⟩ := h
        have h := h _ rfl
        refine wp_cast 24 (dz dl_Net_write_0 17 32 (.castore) 1 rfl) kd_2 n1 i1 o1 rfl ?_
        refine wp_aload_n (i := 0) (v := qr 0 (some l0)) (dz dl_Net_write_0 18 33 (.aload_n 0) 1 rfl) rfl rfl trivial ?_
        refine wp_dup (dz dl_Net_write_0 19 34 (.dup) 1 rfl) ?_
        refine wp_getI l0 (dz dl_Net_write_0 20 35 (.getfield 56) 3 rfl) lk_Net_56 kd_3 rfl rfl ?_
        refine wp_iconst (dz dl_Net_write_0 21 38 (.iconst (1)) 1 rfl) (v := (1 : Int32)) (by decide) ?_
        refine wp_iadd (dz dl_Net_write_0 22 39 (.iadd) 1 rfl) ?_
        have h := h _ rfl
        refine wp_putI l0 (dz dl_Net_write_0 23 40 (.putfield 56) 3 rfl) lk_Net_56 kd_3 rfl rfl rfl (okI_0 _) rfl ?_
        refine wp_iconst (dz dl_Net_write_0 24 43 (.iconst (1)) 1 rfl) (v := (1 : Int32)) (by decide) ?_
        exact wp_rt (qi _) (rt_Z rfl (Or.inr rfl) (dz dl_Net_write_0 25 44 (.ireturn) 1 rfl)) ⟨_, rfl, h⟩
      · replace h := h.2 hc
        refine wp_iconst (dz dl_Net_write_0 10 21 (.iconst (0)) 1 rfl) (v := (0 : Int32)) (by decide) ?_
        exact wp_rt (qi _) (rt_Z rfl (Or.inl rfl) (dz dl_Net_write_0 11 22 (.ireturn) 1 rfl)) ⟨_, rfl, h⟩
theorem t_Net_write {X : Nat × (Nat → Int32)} {k : Nat} {g : sg} {l0 : Nat} {l1 : Int32} {Z : Int32 → sg → Prop} (h : ((24 : Int32) ≤ (gI g 3 l0 0) → Z (0 : Int32) g) ∧ (¬ (24 : Int32) ≤ (gI g 3 l0 0) → (l1 < (32 : Int32) → Z (0 : Int32) g) ∧ (¬ l1 < (32 : Int32) → (l1 ≤ (126 : Int32) → gA g 2 l0 = some 24 ∧ vp_in (gI g 3 l0 0) 24 ∧ okI 1 l1 ∧ ∀ g1, g1 = pI g 2 l0 (gI g 3 l0 0).toNatClampNeg l1 → ∀ g2, g2 = pI g1 3 l0 0 ((gI g1 3 l0 0) + (1 : Int32)) → Z (1 : Int32) g2) ∧ (¬ l1 ≤ (126 : Int32) → Z (0 : Int32) g)))) : nnMT X M_Net_write k [qr 0 (some l0), qi l1] g (zI Z) := b_Net_write_0 h

theorem b_Net_name_0 {X : Nat × (Nat → Int32)} {k : Nat} {g : sg} {l0 : Nat} {Z : Int32 → sg → Prop} (h : nnMT X M_Net_readText 0 [qr 0 (some l0)] g (zI fun r1 g1 => gExt g g1 → ∀ g2, g2 = pI g1 3 l0 0 (0 : Int32) → (¬ r1 = (-1 : Int32) → nnWP X M_Net_name k 24 [qr 0 (some l0), qi r1, qi (0 : Int32), qi (0 : Int32), qi (0 : Int32), none] [] g2 (zI Z)) ∧ (r1 = (-1 : Int32) → Z (-1 : Int32) g2))) : nnWP X M_Net_name k 0 [qr 0 (some l0), none, none, none, none, none] [] g (zI Z) := by
  refine wp_aload_n (i := 0) (v := qr 0 (some l0)) (dz dl_Net_name_0 0 0 (.aload_n 0) 1 rfl) rfl rfl trivial ?_
  refine wp_callV l0 0 [] [] (dz dl_Net_name_0 1 1 (.invokevirtual 59) 3 rfl) ok_Net_readText lm_Net_59 (by decide) ws_Net_readText wv_Net_readText ⟨Nat.le_of_ble_eq_true rfl, Nat.le_of_ble_eq_true rfl⟩ pn_Net_readText (Nat.le_of_ble_eq_true rfl) (Nat.le_of_ble_eq_true rfl) rfl (Or.inl rfl) (Nat.zero_le _) (mt_mono h ?_)
  rintro _ g1 ⟨r1, rfl, h⟩ y1
  replace h := h y1.1
  show nnWP _ _ _ _ _ [qi r1] _ _
  refine wp_istore_n (i := 1) (dz dl_Net_name_0 2 4 (.istore_n 1) 1 rfl) rfl [qr 0 (some l0), qi r1, none, none, none, none] (by decide) rfl ?_
  refine wp_aload_n (i := 0) (v := qr 0 (some l0)) (dz dl_Net_name_0 3 5 (.aload_n 0) 1 rfl) rfl rfl trivial ?_
  refine wp_iconst (dz dl_Net_name_0 4 6 (.iconst (0)) 1 rfl) (v := (0 : Int32)) (by decide) ?_
  have h := h _ rfl
  refine wp_putI l0 (dz dl_Net_name_0 5 7 (.putfield 56) 3 rfl) lk_Net_56 kd_3 rfl rfl rfl (okI_0 _) rfl ?_
  refine wp_iload_n (i := 1) (x := r1) (dz dl_Net_name_0 6 10 (.iload_n 1) 1 rfl) rfl rfl ?_
  refine wp_iconst (dz dl_Net_name_0 7 11 (.iconst (-1)) 1 rfl) (v := (-1 : Int32)) (by decide) ?_
  refine wp_icmp_ne (tgt := 17) (dz dl_Net_name_0 8 12 (.if_icmp .ne (5)) 3 rfl) (by decide) (fun hc => ?_) (fun hc => ?_)
  · replace h := h.1 hc
    refine wp_iconst (dz dl_Net_name_0 11 17 (.iconst (0)) 1 rfl) (v := (0 : Int32)) (by decide) ?_
    refine wp_istore_n (i := 2) (dz dl_Net_name_0 12 18 (.istore_n 2) 1 rfl) rfl [qr 0 (some l0), qi r1, qi (0 : Int32), none, none, none] (by decide) rfl ?_
    refine wp_iconst (dz dl_Net_name_0 13 19 (.iconst (0)) 1 rfl) (v := (0 : Int32)) (by decide) ?_
    refine wp_istore_n (i := 3) (dz dl_Net_name_0 14 20 (.istore_n 3) 1 rfl) rfl [qr 0 (some l0), qi r1, qi (0 : Int32), qi (0 : Int32), none, none] (by decide) rfl ?_
    refine wp_iconst (dz dl_Net_name_0 15 21 (.iconst (0)) 1 rfl) (v := (0 : Int32)) (by decide) ?_
    refine wp_istore (i := 4) (dz dl_Net_name_0 16 22 (.istore 4) 2 rfl) [qr 0 (some l0), qi r1, qi (0 : Int32), qi (0 : Int32), qi (0 : Int32), none] (by decide) rfl ?_
    exact wp_cut h ⟨Or.inr rfl, Or.inr rfl, Or.inr rfl, Or.inr rfl, Or.inr rfl, Or.inl rfl, trivial⟩
  · replace h := h.2 hc
    refine wp_iconst (dz dl_Net_name_0 9 15 (.iconst (-1)) 1 rfl) (v := (-1 : Int32)) (by decide) ?_
    exact wp_rt (qi _) (rt_I rfl (dz dl_Net_name_0 10 16 (.ireturn) 1 rfl)) ⟨_, rfl, h⟩
theorem t_Net_name {X : Nat × (Nat → Int32)} {k : Nat} {g : sg} {l0 : Nat} {Z : Int32 → sg → Prop} (h : nnMT X M_Net_readText 0 [qr 0 (some l0)] g (zI fun r1 g1 => gExt g g1 → ∀ g2, g2 = pI g1 3 l0 0 (0 : Int32) → (¬ r1 = (-1 : Int32) → nnWP X M_Net_name k 24 [qr 0 (some l0), qi r1, qi (0 : Int32), qi (0 : Int32), qi (0 : Int32), none] [] g2 (zI Z)) ∧ (r1 = (-1 : Int32) → Z (-1 : Int32) g2))) : nnMT X M_Net_name k [qr 0 (some l0)] g (zI Z) := b_Net_name_0 h

theorem b_Net_name_24 {X : Nat × (Nat → Int32)} {k : Nat} {g : sg} {l0 : Nat} {l1 : Int32} {l2 : Int32} {l3 : Int32} {l4 : Int32} {Z : Int32 → sg → Prop} (h : (l1 ≤ l4 → ∃ a1, gR g 5 l0 0 = some a1 ∧ nnMT X M_Names_hasRoomFor 0 [qr 5 (some a1), qi (l1 - l3)] g (zI fun r1 g1 => gExt g g1 → (¬ r1 = 0 → nnWP X M_Net_name k 87 [qr 0 (some l0), qi l1, qi l2, none, qi l3, none] [] g1 (zI Z)) ∧ (r1 = 0 → Z (-2 : Int32) g1))) ∧ (¬ l1 ≤ l4 → gA g 4 l0 = some 4 ∧ vp_in l4 4 ∧ ∃ a2, gR g 5 l0 0 = some a2 ∧ nnMT X M_Names_find 0 [qr 5 (some a2), qi l2, qi (gI g 4 l0 l4.toNatClampNeg)] g (zI fun r2 g2 => gExt g g2 → (¬ r2 = (-1 : Int32) → nnWP X M_Net_name k 24 [qr 0 (some l0), qi l1, qi r2, qi (l3 + 1), qi (l4 + 1), none] [] g2 (zI Z)) ∧ (r2 = (-1 : Int32) → ∃ a3, gR g2 5 l0 0 = some a3 ∧ nnMT X M_Names_hasRoomFor 0 [qr 5 (some a3), qi (l1 - l3)] g2 (zI fun r3 g3 => gExt g2 g3 → (¬ r3 = 0 → nnWP X M_Net_name k 87 [qr 0 (some l0), qi l1, qi l2, none, qi l3, none] [] g3 (zI Z)) ∧ (r3 = 0 → Z (-2 : Int32) g3)))))) : nnWP X M_Net_name k 24 [qr 0 (some l0), qi l1, qi l2, qi l3, qi l4, none] [] g (zI Z) := by
  refine wp_iload (i := 4) (x := l4) (dz dl_Net_name_0 17 24 (.iload 4) 2 rfl) rfl ?_
  refine wp_iload_n (i := 1) (x := l1) (dz dl_Net_name_0 18 26 (.iload_n 1) 1 rfl) rfl rfl ?_
  refine wp_icmp_ge (tgt := 68) (dz dl_Net_name_0 19 27 (.if_icmp .ge (41)) 3 rfl) (by decide) (fun hc => ?_) (fun hc => ?_)
  · replace h := h.1 hc
    refine wp_aload_n (i := 0) (v := qr 0 (some l0)) (dz dl_Net_name_0 38 68 (.aload_n 0) 1 rfl) rfl rfl trivial ?_
    refine wp_getR l0 (dz dl_Net_name_0 39 69 (.getfield 20) 3 rfl) lk_Net_20 kd_5 rfl rfl ?_
    refine wp_iload_n (i := 1) (x := l1) (dz dl_Net_name_1 0 72 (.iload_n 1) 1 rfl) rfl rfl ?_
    refine wp_iload_n (i := 3) (x := l3) (dz dl_Net_name_1 1 73 (.iload_n 3) 1 rfl) rfl rfl ?_
    refine wp_isub (dz dl_Net_name_1 2 74 (.isub) 1 rfl) ?_
    obtain ⟨a1, e1, h⟩ := h
    refine wp_callV a1 0 [qi (l1 - l3)] [] (dz dl_Net_name_1 3 75 (.invokevirtual 67) 3 rfl) ok_Names_hasRoomFor lm_Net_67 (by decide) ws_Names_hasRoomFor wv_Names_hasRoomFor ⟨Nat.le_of_ble_eq_true rfl, Nat.le_of_ble_eq_true rfl⟩ pn_Names_hasRoomFor (Nat.le_of_ble_eq_true rfl) (Nat.le_of_ble_eq_true rfl) e1 (Or.inl rfl) (Nat.zero_le _) (mt_mono h ?_)
    rintro _ g1 ⟨r1, rfl, h⟩ y1
    replace h := h y1.1
    show nnWP _ _ _ _ _ [qi r1] _ _
    refine wp_if_ne (tgt := 84) (dz dl_Net_name_1 4 78 (.ifCond .ne (6)) 3 rfl) (by decide) (fun hc => ?_) (fun hc => ?_)
    · replace h := h.1 hc
      refine wp_iload_n (i := 3) (x := l3) (dz dl_Net_name_1 7 84 (.iload_n 3) 1 rfl) rfl rfl ?_
      refine wp_istore (i := 4) (dz dl_Net_name_1 8 85 (.istore 4) 2 rfl) [qr 0 (some l0), qi l1, qi l2, qi l3, qi l3, none] (by decide) rfl ?_
      exact wp_cut h ⟨Or.inr rfl, Or.inr rfl, Or.inr rfl, Or.inl rfl, Or.inr rfl, Or.inl rfl, trivial⟩
    · replace h := h.2 hc
      refine wp_bipush (dz dl_Net_name_1 5 81 (.bipush (-2)) 2 rfl) (v := (-2 : Int32)) (by decide) ?_
      exact wp_rt (qi _) (rt_I rfl (dz dl_Net_name_1 6 83 (.ireturn) 1 rfl)) ⟨_, rfl, h⟩
  · replace h := h.2 hc
    refine wp_aload_n (i := 0) (v := qr 0 (some l0)) (dz dl_Net_name_0 20 30 (.aload_n 0) 1 rfl) rfl rfl trivial ?_
    refine wp_getR l0 (dz dl_Net_name_0 21 31 (.getfield 20) 3 rfl) lk_Net_20 kd_5 rfl rfl ?_
    refine wp_iload_n (i := 2) (x := l2) (dz dl_Net_name_0 22 34 (.iload_n 2) 1 rfl) rfl rfl ?_
    refine wp_aload_n (i := 0) (v := qr 0 (some l0)) (dz dl_Net_name_0 23 35 (.aload_n 0) 1 rfl) rfl rfl trivial ?_
    obtain ⟨n1, h⟩ := h
    refine wp_getA l0 4 (dz dl_Net_name_0 24 36 (.getfield 13) 3 rfl) lk_Net_13 (q := 0) kd_4 rfl rfl n1 ?_
    refine wp_iload (i := 4) (x := l4) (dz dl_Net_name_0 25 39 (.iload 4) 2 rfl) rfl ?_
    obtain ⟨i1, h⟩ := h
    refine wp_iald 4 (dz dl_Net_name_0 26 41 (.iaload) 1 rfl) kd_4 n1 i1 ?_
    obtain ⟨a2, e2, h⟩ := h
    refine wp_callV a2 0 [qi l2, qi (gI g 4 l0 l4.toNatClampNeg)] [] (dz dl_Net_name_0 27 42 (.invokevirtual 63) 3 rfl) ok_Names_find lm_Net_63 (by decide) ws_Names_find wv_Names_find ⟨Nat.le_of_ble_eq_true rfl, Nat.le_of_ble_eq_true rfl⟩ pn_Names_find (Nat.le_of_ble_eq_true rfl) (Nat.le_of_ble_eq_true rfl) e2 (Or.inl rfl) (Nat.zero_le _) (mt_mono h ?_)
    rintro _ g2 ⟨r2, rfl, h⟩ y2
    replace h := h y2.1
    show nnWP _ _ _ _ _ [qi r2] _ _
    refine wp_istore (i := 5) (dz dl_Net_name_0 28 45 (.istore 5) 2 rfl) [qr 0 (some l0), qi l1, qi l2, qi l3, qi l4, qi r2] (by decide) rfl ?_
    refine wp_iload (i := 5) (x := r2) (dz dl_Net_name_0 29 47 (.iload 5) 2 rfl) rfl ?_
    refine wp_iconst (dz dl_Net_name_0 30 49 (.iconst (-1)) 1 rfl) (v := (-1 : Int32)) (by decide) ?_
    refine wp_icmp_ne (tgt := 56) (dz dl_Net_name_0 31 50 (.if_icmp .ne (6)) 3 rfl) (by decide) (fun hc => ?_) (fun hc => ?_)
    · replace h := h.1 hc
      refine wp_iload (i := 5) (x := r2) (dz dl_Net_name_0 33 56 (.iload 5) 2 rfl) rfl ?_
      refine wp_istore_n (i := 2) (dz dl_Net_name_0 34 58 (.istore_n 2) 1 rfl) rfl [qr 0 (some l0), qi l1, qi r2, qi l3, qi l4, qi r2] (by decide) rfl ?_
      refine wp_iinc (i := 3) (v := l3 + 1) (dz dl_Net_name_0 35 59 (.iinc 3 (1)) 3 rfl) rfl (congrArg (fun z => l3 + z) (by decide)) [qr 0 (some l0), qi l1, qi r2, qi (l3 + 1), qi l4, qi r2] (by decide) rfl ?_
      refine wp_iinc (i := 4) (v := l4 + 1) (dz dl_Net_name_0 36 62 (.iinc 4 (1)) 3 rfl) rfl (congrArg (fun z => l4 + z) (by decide)) [qr 0 (some l0), qi l1, qi r2, qi (l3 + 1), qi (l4 + 1), qi r2] (by decide) rfl ?_
      refine wp_goto (tgt := 24) (dz dl_Net_name_0 37 65 (.goto (-41)) 3 rfl) (by decide) ?_
      exact wp_cut h ⟨Or.inr rfl, Or.inr rfl, Or.inr rfl, Or.inr rfl, Or.inr rfl, Or.inl rfl, trivial⟩
    · replace h := h.2 hc
      refine wp_goto (tgt := 68) (dz dl_Net_name_0 32 53 (.goto (15)) 3 rfl) (by decide) ?_
      refine wp_aload_n (i := 0) (v := qr 0 (some l0)) (dz dl_Net_name_0 38 68 (.aload_n 0) 1 rfl) rfl rfl trivial ?_
      refine wp_getR l0 (dz dl_Net_name_0 39 69 (.getfield 20) 3 rfl) lk_Net_20 kd_5 rfl rfl ?_
      refine wp_iload_n (i := 1) (x := l1) (dz dl_Net_name_1 0 72 (.iload_n 1) 1 rfl) rfl rfl ?_
      refine wp_iload_n (i := 3) (x := l3) (dz dl_Net_name_1 1 73 (.iload_n 3) 1 rfl) rfl rfl ?_
      refine wp_isub (dz dl_Net_name_1 2 74 (.isub) 1 rfl) ?_
      obtain ⟨a3, e3, h⟩ := h
      refine wp_callV a3 0 [qi (l1 - l3)] [] (dz dl_Net_name_1 3 75 (.invokevirtual 67) 3 rfl) ok_Names_hasRoomFor lm_Net_67 (by decide) ws_Names_hasRoomFor wv_Names_hasRoomFor ⟨Nat.le_of_ble_eq_true rfl, Nat.le_of_ble_eq_true rfl⟩ pn_Names_hasRoomFor (Nat.le_of_ble_eq_true rfl) (Nat.le_of_ble_eq_true rfl) e3 (Or.inl rfl) (Nat.zero_le _) (mt_mono h ?_)
      rintro _ g3 ⟨r3, rfl, h⟩ y3
      replace h := h y3.1
      show nnWP _ _ _ _ _ [qi r3] _ _
      refine wp_if_ne (tgt := 84) (dz dl_Net_name_1 4 78 (.ifCond .ne (6)) 3 rfl) (by decide) (fun hc => ?_) (fun hc => ?_)
      · replace h := h.1 hc
        refine wp_iload_n (i := 3) (x := l3) (dz dl_Net_name_1 7 84 (.iload_n 3) 1 rfl) rfl rfl ?_
        refine wp_istore (i := 4) (dz dl_Net_name_1 8 85 (.istore 4) 2 rfl) [qr 0 (some l0), qi l1, qi l2, qi l3, qi l3, qi r2] (by decide) rfl ?_
        exact wp_cut h ⟨Or.inr rfl, Or.inr rfl, Or.inr rfl, Or.inl rfl, Or.inr rfl, Or.inl rfl, trivial⟩
      · replace h := h.2 hc
        refine wp_bipush (dz dl_Net_name_1 5 81 (.bipush (-2)) 2 rfl) (v := (-2 : Int32)) (by decide) ?_
        exact wp_rt (qi _) (rt_I rfl (dz dl_Net_name_1 6 83 (.ireturn) 1 rfl)) ⟨_, rfl, h⟩

theorem b_Net_name_87 {X : Nat × (Nat → Int32)} {k : Nat} {g : sg} {l0 : Nat} {l1 : Int32} {l2 : Int32} {l4 : Int32} {Z : Int32 → sg → Prop} (h : (l1 ≤ l4 → Z l2 g) ∧ (¬ l1 ≤ l4 → gA g 4 l0 = some 4 ∧ vp_in l4 4 ∧ ∃ a1, gR g 5 l0 0 = some a1 ∧ nnMT X M_Names_findOrMake 0 [qr 5 (some a1), qi l2, qi (gI g 4 l0 l4.toNatClampNeg)] g (zI fun r1 g1 => gExt g g1 → nnWP X M_Net_name k 87 [qr 0 (some l0), qi l1, qi r1, none, qi (l4 + 1), none] [] g1 (zI Z)))) : nnWP X M_Net_name k 87 [qr 0 (some l0), qi l1, qi l2, none, qi l4, none] [] g (zI Z) := by
  refine wp_iload (i := 4) (x := l4) (dz dl_Net_name_1 9 87 (.iload 4) 2 rfl) rfl ?_
  refine wp_iload_n (i := 1) (x := l1) (dz dl_Net_name_1 10 89 (.iload_n 1) 1 rfl) rfl rfl ?_
  refine wp_icmp_ge (tgt := 115) (dz dl_Net_name_1 11 90 (.if_icmp .ge (25)) 3 rfl) (by decide) (fun hc => ?_) (fun hc => ?_)
  · replace h := h.1 hc
    refine wp_iload_n (i := 2) (x := l2) (dz dl_Net_name_1 23 115 (.iload_n 2) 1 rfl) rfl rfl ?_
    exact wp_rt (qi _) (rt_I rfl (dz dl_Net_name_1 24 116 (.ireturn) 1 rfl)) ⟨_, rfl, h⟩
  · replace h := h.2 hc
    refine wp_aload_n (i := 0) (v := qr 0 (some l0)) (dz dl_Net_name_1 12 93 (.aload_n 0) 1 rfl) rfl rfl trivial ?_
    refine wp_getR l0 (dz dl_Net_name_1 13 94 (.getfield 20) 3 rfl) lk_Net_20 kd_5 rfl rfl ?_
    refine wp_iload_n (i := 2) (x := l2) (dz dl_Net_name_1 14 97 (.iload_n 2) 1 rfl) rfl rfl ?_
    refine wp_aload_n (i := 0) (v := qr 0 (some l0)) (dz dl_Net_name_1 15 98 (.aload_n 0) 1 rfl) rfl rfl trivial ?_
    obtain ⟨n1, h⟩ := h
    refine wp_getA l0 4 (dz dl_Net_name_1 16 99 (.getfield 13) 3 rfl) lk_Net_13 (q := 0) kd_4 rfl rfl n1 ?_
    refine wp_iload (i := 4) (x := l4) (dz dl_Net_name_1 17 102 (.iload 4) 2 rfl) rfl ?_
    obtain ⟨i1, h⟩ := h
    refine wp_iald 4 (dz dl_Net_name_1 18 104 (.iaload) 1 rfl) kd_4 n1 i1 ?_
    obtain ⟨a1, e1, h⟩ := h
    refine wp_callV a1 0 [qi l2, qi (gI g 4 l0 l4.toNatClampNeg)] [] (dz dl_Net_name_1 19 105 (.invokevirtual 71) 3 rfl) ok_Names_findOrMake lm_Net_71 (by decide) ws_Names_findOrMake wv_Names_findOrMake ⟨Nat.le_of_ble_eq_true rfl, Nat.le_of_ble_eq_true rfl⟩ pn_Names_findOrMake (Nat.le_of_ble_eq_true rfl) (Nat.le_of_ble_eq_true rfl) e1 (Or.inl rfl) (Nat.zero_le _) (mt_mono h ?_)
    rintro _ g1 ⟨r1, rfl, h⟩ y1
    replace h := h y1.1
    show nnWP _ _ _ _ _ [qi r1] _ _
    refine wp_istore_n (i := 2) (dz dl_Net_name_1 20 108 (.istore_n 2) 1 rfl) rfl [qr 0 (some l0), qi l1, qi r1, none, qi l4, none] (by decide) rfl ?_
    refine wp_iinc (i := 4) (v := l4 + 1) (dz dl_Net_name_1 21 109 (.iinc 4 (1)) 3 rfl) rfl (congrArg (fun z => l4 + z) (by decide)) [qr 0 (some l0), qi l1, qi r1, none, qi (l4 + 1), none] (by decide) rfl ?_
    refine wp_goto (tgt := 87) (dz dl_Net_name_1 22 112 (.goto (-25)) 3 rfl) (by decide) ?_
    exact wp_cut h ⟨Or.inr rfl, Or.inr rfl, Or.inr rfl, Or.inl rfl, Or.inr rfl, Or.inl rfl, trivial⟩

theorem b_Net_parent_0 {X : Nat × (Nat → Int32)} {k : Nat} {g : sg} {l0 : Nat} {l1 : Int32} {Z : Int32 → sg → Prop} (h : ∃ a1, gR g 5 l0 0 = some a1 ∧ nnMT X M_Names_shorterOf 0 [qr 5 (some a1), qi l1] g (zI fun r1 g1 => gExt g g1 → Z r1 g1)) : nnWP X M_Net_parent k 0 [qr 0 (some l0), qi l1] [] g (zI Z) := by
  refine wp_aload_n (i := 0) (v := qr 0 (some l0)) (dz dl_Net_parent_0 0 0 (.aload_n 0) 1 rfl) rfl rfl trivial ?_
  refine wp_getR l0 (dz dl_Net_parent_0 1 1 (.getfield 20) 3 rfl) lk_Net_20 kd_5 rfl rfl ?_
  refine wp_iload_n (i := 1) (x := l1) (dz dl_Net_parent_0 2 4 (.iload_n 1) 1 rfl) rfl rfl ?_
  obtain ⟨a1, e1, h⟩ := h
  refine wp_callV a1 0 [qi l1] [] (dz dl_Net_parent_0 3 5 (.invokevirtual 74) 3 rfl) ok_Names_shorterOf lm_Net_74 (by decide) ws_Names_shorterOf wv_Names_shorterOf ⟨Nat.le_of_ble_eq_true rfl, Nat.le_of_ble_eq_true rfl⟩ pn_Names_shorterOf (Nat.le_of_ble_eq_true rfl) (Nat.le_of_ble_eq_true rfl) e1 (Or.inl rfl) (Nat.zero_le _) (mt_mono h ?_)
  rintro _ g1 ⟨r1, rfl, h⟩ y1
  replace h := h y1.1
  show nnWP _ _ _ _ _ [qi r1] _ _
  exact wp_rt (qi _) (rt_I rfl (dz dl_Net_parent_0 4 8 (.ireturn) 1 rfl)) ⟨_, rfl, h⟩
theorem t_Net_parent {X : Nat × (Nat → Int32)} {k : Nat} {g : sg} {l0 : Nat} {l1 : Int32} {Z : Int32 → sg → Prop} (h : ∃ a1, gR g 5 l0 0 = some a1 ∧ nnMT X M_Names_shorterOf 0 [qr 5 (some a1), qi l1] g (zI fun r1 g1 => gExt g g1 → Z r1 g1)) : nnMT X M_Net_parent k [qr 0 (some l0), qi l1] g (zI Z) := b_Net_parent_0 h

theorem b_Net_link_0 {X : Nat × (Nat → Int32)} {k : Nat} {g : sg} {l0 : Nat} {l1 : Int32} {l2 : Int32} {l3 : Int32} {l4 : Int32} {Z : Int32 → sg → Prop} (h : nnMT X M_Net_linkFace 0 [qr 0 (some l0), qi l1, qi l2] g (zR 3 fun r1 g1 => gExt g g1 → nnMT X M_Net_linkFace 0 [qr 0 (some l0), qi l3, qi l4] g1 (zR 3 fun r2 g2 => gExt g1 g2 → (r1 = none → Z (0 : Int32) g2) ∧ (∀ a1, r1 = some a1 → (r2 = none → Z (0 : Int32) g2) ∧ (∀ a2, r2 = some a2 → (l1 = l3 → Z (0 : Int32) g2) ∧ (¬ l1 = l3 → nnMT X M_Face_isLinked 0 [qr 3 (some a1)] g2 (zI fun r3 g3 => gExt g2 g3 → (¬ r3 = 0 → Z (0 : Int32) g3) ∧ (r3 = 0 → nnMT X M_Face_isLinked 0 [qr 3 (some a2)] g3 (zI fun r4 g4 => gExt g3 g4 → (r4 = 0 → nnMT X M_Face_join 0 [qr 3 (some a1), qi l3, qi l4] g4 (zV fun g5 => gExt g4 g5 → nnMT X M_Face_join 0 [qr 3 (some a2), qi l1, qi l2] g5 (zV fun g6 => gExt g5 g6 → Z (1 : Int32) g6))) ∧ (¬ r4 = 0 → Z (0 : Int32) g4)))))))))) : nnWP X M_Net_link k 0 [qr 0 (some l0), qi l1, qi l2, qi l3, qi l4, none, none] [] g (zI Z) := by
  refine wp_aload_n (i := 0) (v := qr 0 (some l0)) (dz dl_Net_link_0 0 0 (.aload_n 0) 1 rfl) rfl rfl trivial ?_
  refine wp_iload_n (i := 1) (x := l1) (dz dl_Net_link_0 1 1 (.iload_n 1) 1 rfl) rfl rfl ?_
  refine wp_iload_n (i := 2) (x := l2) (dz dl_Net_link_0 2 2 (.iload_n 2) 1 rfl) rfl rfl ?_
  refine wp_callV l0 0 [qi l1, qi l2] [] (dz dl_Net_link_0 3 3 (.invokevirtual 78) 3 rfl) ok_Net_linkFace lm_Net_78 (by decide) ws_Net_linkFace wv_Net_linkFace ⟨Nat.le_of_ble_eq_true rfl, Nat.le_of_ble_eq_true rfl⟩ pn_Net_linkFace (Nat.le_of_ble_eq_true rfl) (Nat.le_of_ble_eq_true rfl) rfl (Or.inl rfl) (Nat.zero_le _) (mt_mono h ?_)
  rintro _ g1 ⟨r1, rfl, h⟩ y1
  replace h := h y1.1
  show nnWP _ _ _ _ _ [qr 3 r1] _ _
  refine wp_astore (i := 5) (dz dl_Net_link_0 4 6 (.astore 5) 2 rfl) [qr 0 (some l0), qi l1, qi l2, qi l3, qi l4, qr 3 r1, none] (by decide) trivial rfl ?_
  refine wp_aload_n (i := 0) (v := qr 0 (some l0)) (dz dl_Net_link_0 5 8 (.aload_n 0) 1 rfl) rfl rfl trivial ?_
  refine wp_iload_n (i := 3) (x := l3) (dz dl_Net_link_0 6 9 (.iload_n 3) 1 rfl) rfl rfl ?_
  refine wp_iload (i := 4) (x := l4) (dz dl_Net_link_0 7 10 (.iload 4) 2 rfl) rfl ?_
  refine wp_callV l0 0 [qi l3, qi l4] [] (dz dl_Net_link_0 8 12 (.invokevirtual 78) 3 rfl) ok_Net_linkFace lm_Net_78 (by decide) ws_Net_linkFace wv_Net_linkFace ⟨Nat.le_of_ble_eq_true rfl, Nat.le_of_ble_eq_true rfl⟩ pn_Net_linkFace (Nat.le_of_ble_eq_true rfl) (Nat.le_of_ble_eq_true rfl) rfl (Or.inl rfl) (Nat.zero_le _) (mt_mono h ?_)
  rintro _ g2 ⟨r2, rfl, h⟩ y2
  replace h := h y2.1
  show nnWP _ _ _ _ _ [qr 3 r2] _ _
  refine wp_astore (i := 6) (dz dl_Net_link_0 9 15 (.astore 6) 2 rfl) [qr 0 (some l0), qi l1, qi l2, qi l3, qi l4, qr 3 r1, qr 3 r2] (by decide) trivial rfl ?_
  refine wp_aload (i := 5) (v := qr 3 r1) (dz dl_Net_link_0 10 17 (.aload 5) 2 rfl) rfl trivial ?_
  refine wp_ifnull (tgt := 48) (dz dl_Net_link_0 11 19 (.ifnull (29)) 3 rfl) (by decide) (fun hc => ?_) (fun a1 e1 => ?_)
  · replace h := h.1 hc
    refine wp_iconst (dz dl_Net_link_0 23 48 (.iconst (0)) 1 rfl) (v := (0 : Int32)) (by decide) ?_
    exact wp_rt (qi _) (rt_Z rfl (Or.inl rfl) (dz dl_Net_link_0 24 49 (.ireturn) 1 rfl)) ⟨_, rfl, h⟩
  · replace h := h.2 a1 e1
    refine wp_aload (i := 6) (v := qr 3 r2) (dz dl_Net_link_0 12 22 (.aload 6) 2 rfl) rfl trivial ?_
    refine wp_ifnull (tgt := 48) (dz dl_Net_link_0 13 24 (.ifnull (24)) 3 rfl) (by decide) (fun hc => ?_) (fun a2 e2 => ?_)
    · replace h := h.1 hc
      refine wp_iconst (dz dl_Net_link_0 23 48 (.iconst (0)) 1 rfl) (v := (0 : Int32)) (by decide) ?_
      exact wp_rt (qi _) (rt_Z rfl (Or.inl rfl) (dz dl_Net_link_0 24 49 (.ireturn) 1 rfl)) ⟨_, rfl, h⟩
    · replace h := h.2 a2 e2
      refine wp_iload_n (i := 1) (x := l1) (dz dl_Net_link_0 14 27 (.iload_n 1) 1 rfl) rfl rfl ?_
      refine wp_iload_n (i := 3) (x := l3) (dz dl_Net_link_0 15 28 (.iload_n 3) 1 rfl) rfl rfl ?_
      refine wp_icmp_eq (tgt := 48) (dz dl_Net_link_0 16 29 (.if_icmp .eq (19)) 3 rfl) (by decide) (fun hc => ?_) (fun hc => ?_)
      · replace h := h.1 hc
        refine wp_iconst (dz dl_Net_link_0 23 48 (.iconst (0)) 1 rfl) (v := (0 : Int32)) (by decide) ?_
        exact wp_rt (qi _) (rt_Z rfl (Or.inl rfl) (dz dl_Net_link_0 24 49 (.ireturn) 1 rfl)) ⟨_, rfl, h⟩
      · replace h := h.2 hc
        refine wp_aload (i := 5) (v := qr 3 r1) (dz dl_Net_link_0 17 32 (.aload 5) 2 rfl) rfl trivial ?_
        refine wp_callV a1 0 [] [] (dz dl_Net_link_0 18 34 (.invokevirtual 82) 3 rfl) ok_Face_isLinked lm_Net_82 (by decide) ws_Face_isLinked wv_Face_isLinked ⟨Nat.le_of_ble_eq_true rfl, Nat.le_of_ble_eq_true rfl⟩ pn_Face_isLinked (Nat.le_of_ble_eq_true rfl) (Nat.le_of_ble_eq_true rfl) e1 (Or.inl rfl) (Nat.zero_le _) (mt_mono h ?_)
        rintro _ g3 ⟨r3, rfl, h⟩ y3
        replace h := h y3.1
        show nnWP _ _ _ _ _ [qi r3] _ _
        refine wp_if_ne (tgt := 48) (dz dl_Net_link_0 19 37 (.ifCond .ne (11)) 3 rfl) (by decide) (fun hc => ?_) (fun hc => ?_)
        · replace h := h.1 hc
          refine wp_iconst (dz dl_Net_link_0 23 48 (.iconst (0)) 1 rfl) (v := (0 : Int32)) (by decide) ?_
          exact wp_rt (qi _) (rt_Z rfl (Or.inl rfl) (dz dl_Net_link_0 24 49 (.ireturn) 1 rfl)) ⟨_, rfl, h⟩
        · replace h := h.2 hc
          refine wp_aload (i := 6) (v := qr 3 r2) (dz dl_Net_link_0 20 40 (.aload 6) 2 rfl) rfl trivial ?_
          refine wp_callV a2 0 [] [] (dz dl_Net_link_0 21 42 (.invokevirtual 82) 3 rfl) ok_Face_isLinked lm_Net_82 (by decide) ws_Face_isLinked wv_Face_isLinked ⟨Nat.le_of_ble_eq_true rfl, Nat.le_of_ble_eq_true rfl⟩ pn_Face_isLinked (Nat.le_of_ble_eq_true rfl) (Nat.le_of_ble_eq_true rfl) e2 (Or.inl rfl) (Nat.zero_le _) (mt_mono h ?_)
          rintro _ g4 ⟨r4, rfl, h⟩ y4
          replace h := h y4.1
          show nnWP _ _ _ _ _ [qi r4] _ _
          refine wp_if_eq (tgt := 50) (dz dl_Net_link_0 22 45 (.ifCond .eq (5)) 3 rfl) (by decide) (fun hc => ?_) (fun hc => ?_)
          · replace h := h.1 hc
            refine wp_aload (i := 5) (v := qr 3 r1) (dz dl_Net_link_0 25 50 (.aload 5) 2 rfl) rfl trivial ?_
            refine wp_iload_n (i := 3) (x := l3) (dz dl_Net_link_0 26 52 (.iload_n 3) 1 rfl) rfl rfl ?_
            refine wp_iload (i := 4) (x := l4) (dz dl_Net_link_0 27 53 (.iload 4) 2 rfl) rfl ?_
            refine wp_callV a1 0 [qi l3, qi l4] [] (dz dl_Net_link_0 28 55 (.invokevirtual 88) 3 rfl) ok_Face_join lm_Net_88 (by decide) ws_Face_join wv_Face_join ⟨Nat.le_of_ble_eq_true rfl, Nat.le_of_ble_eq_true rfl⟩ pn_Face_join (Nat.le_of_ble_eq_true rfl) (Nat.le_of_ble_eq_true rfl) e1 (Or.inl rfl) (Nat.zero_le _) (mt_mono h ?_)
            rintro _ g5 ⟨rfl, h⟩ y5
            replace h := h y5.1
            show nnWP _ _ _ _ _ [] _ _
            refine wp_aload (i := 6) (v := qr 3 r2) (dz dl_Net_link_0 29 58 (.aload 6) 2 rfl) rfl trivial ?_
            refine wp_iload_n (i := 1) (x := l1) (dz dl_Net_link_0 30 60 (.iload_n 1) 1 rfl) rfl rfl ?_
            refine wp_iload_n (i := 2) (x := l2) (dz dl_Net_link_0 31 61 (.iload_n 2) 1 rfl) rfl rfl ?_
            refine wp_callV a2 0 [qi l1, qi l2] [] (dz dl_Net_link_0 32 62 (.invokevirtual 88) 3 rfl) ok_Face_join lm_Net_88 (by decide) ws_Face_join wv_Face_join ⟨Nat.le_of_ble_eq_true rfl, Nat.le_of_ble_eq_true rfl⟩ pn_Face_join (Nat.le_of_ble_eq_true rfl) (Nat.le_of_ble_eq_true rfl) e2 (Or.inl rfl) (Nat.zero_le _) (mt_mono h ?_)
            rintro _ g6 ⟨rfl, h⟩ y6
            replace h := h y6.1
            show nnWP _ _ _ _ _ [] _ _
            refine wp_iconst (dz dl_Net_link_0 33 65 (.iconst (1)) 1 rfl) (v := (1 : Int32)) (by decide) ?_
            exact wp_rt (qi _) (rt_Z rfl (Or.inr rfl) (dz dl_Net_link_0 34 66 (.ireturn) 1 rfl)) ⟨_, rfl, h⟩
          · replace h := h.2 hc
            refine wp_iconst (dz dl_Net_link_0 23 48 (.iconst (0)) 1 rfl) (v := (0 : Int32)) (by decide) ?_
            exact wp_rt (qi _) (rt_Z rfl (Or.inl rfl) (dz dl_Net_link_0 24 49 (.ireturn) 1 rfl)) ⟨_, rfl, h⟩
theorem t_Net_link {X : Nat × (Nat → Int32)} {k : Nat} {g : sg} {l0 : Nat} {l1 : Int32} {l2 : Int32} {l3 : Int32} {l4 : Int32} {Z : Int32 → sg → Prop} (h : nnMT X M_Net_linkFace 0 [qr 0 (some l0), qi l1, qi l2] g (zR 3 fun r1 g1 => gExt g g1 → nnMT X M_Net_linkFace 0 [qr 0 (some l0), qi l3, qi l4] g1 (zR 3 fun r2 g2 => gExt g1 g2 → (r1 = none → Z (0 : Int32) g2) ∧ (∀ a1, r1 = some a1 → (r2 = none → Z (0 : Int32) g2) ∧ (∀ a2, r2 = some a2 → (l1 = l3 → Z (0 : Int32) g2) ∧ (¬ l1 = l3 → nnMT X M_Face_isLinked 0 [qr 3 (some a1)] g2 (zI fun r3 g3 => gExt g2 g3 → (¬ r3 = 0 → Z (0 : Int32) g3) ∧ (r3 = 0 → nnMT X M_Face_isLinked 0 [qr 3 (some a2)] g3 (zI fun r4 g4 => gExt g3 g4 → (r4 = 0 → nnMT X M_Face_join 0 [qr 3 (some a1), qi l3, qi l4] g4 (zV fun g5 => gExt g4 g5 → nnMT X M_Face_join 0 [qr 3 (some a2), qi l1, qi l2] g5 (zV fun g6 => gExt g5 g6 → Z (1 : Int32) g6))) ∧ (¬ r4 = 0 → Z (0 : Int32) g4)))))))))) : nnMT X M_Net_link k [qr 0 (some l0), qi l1, qi l2, qi l3, qi l4] g (zI Z) := b_Net_link_0 h

theorem b_Net_turn_0 {X : Nat × (Nat → Int32)} {k : Nat} {g : sg} {l0 : Nat} {l1 : Int32} {l2 : Int32} {l3 : Int32} {Z : Int32 → sg → Prop} (h : nnMT X M_Net_linkFace 0 [qr 0 (some l0), qi l1, qi l2] g (zR 3 fun r1 g1 => gExt g g1 → (r1 = none → Z (0 : Int32) g1) ∧ (∀ a1, r1 = some a1 → (¬ (gI g1 194 a1 0) = l3 → nnMT X M_Net_linkFace 0 [qr 0 (some l0), qi (gI g1 192 a1 0), qi (gI g1 193 a1 0)] g1 (zR 3 fun r2 g2 => gExt g1 g2 → (r2 = none → Z (0 : Int32) g2) ∧ (∀ a2, r2 = some a2 → nnMT X M_Face_set 0 [qr 3 (some a1), qi l3] g2 (zV fun g3 => gExt g2 g3 → nnMT X M_Face_set 0 [qr 3 (some a2), qi l3] g3 (zV fun g4 => gExt g3 g4 → Z (1 : Int32) g4))))) ∧ ((gI g1 194 a1 0) = l3 → Z (0 : Int32) g1)))) : nnWP X M_Net_turn k 0 [qr 0 (some l0), qi l1, qi l2, qi l3, none, none] [] g (zI Z) := by
  refine wp_aload_n (i := 0) (v := qr 0 (some l0)) (dz dl_Net_turn_0 0 0 (.aload_n 0) 1 rfl) rfl rfl trivial ?_
  refine wp_iload_n (i := 1) (x := l1) (dz dl_Net_turn_0 1 1 (.iload_n 1) 1 rfl) rfl rfl ?_
  refine wp_iload_n (i := 2) (x := l2) (dz dl_Net_turn_0 2 2 (.iload_n 2) 1 rfl) rfl rfl ?_
  refine wp_callV l0 0 [qi l1, qi l2] [] (dz dl_Net_turn_0 3 3 (.invokevirtual 78) 3 rfl) ok_Net_linkFace lm_Net_78 (by decide) ws_Net_linkFace wv_Net_linkFace ⟨Nat.le_of_ble_eq_true rfl, Nat.le_of_ble_eq_true rfl⟩ pn_Net_linkFace (Nat.le_of_ble_eq_true rfl) (Nat.le_of_ble_eq_true rfl) rfl (Or.inl rfl) (Nat.zero_le _) (mt_mono h ?_)
  rintro _ g1 ⟨r1, rfl, h⟩ y1
  replace h := h y1.1
  show nnWP _ _ _ _ _ [qr 3 r1] _ _
  refine wp_astore (i := 4) (dz dl_Net_turn_0 4 6 (.astore 4) 2 rfl) [qr 0 (some l0), qi l1, qi l2, qi l3, qr 3 r1, none] (by decide) trivial rfl ?_
  refine wp_aload (i := 4) (v := qr 3 r1) (dz dl_Net_turn_0 5 8 (.aload 4) 2 rfl) rfl trivial ?_
  refine wp_ifnull (tgt := 22) (dz dl_Net_turn_0 6 10 (.ifnull (12)) 3 rfl) (by decide) (fun hc => ?_) (fun a1 e1 => ?_)
  · replace h := h.1 hc
    refine wp_iconst (dz dl_Net_turn_0 11 22 (.iconst (0)) 1 rfl) (v := (0 : Int32)) (by decide) ?_
    exact wp_rt (qi _) (rt_Z rfl (Or.inl rfl) (dz dl_Net_turn_0 12 23 (.ireturn) 1 rfl)) ⟨_, rfl, h⟩
  · replace h := h.2 a1 e1
    refine wp_aload (i := 4) (v := qr 3 r1) (dz dl_Net_turn_0 7 13 (.aload 4) 2 rfl) rfl trivial ?_
    refine wp_getI a1 (dz dl_Net_turn_0 8 15 (.getfield 92) 3 rfl) lk_Net_92 kd_194 rfl e1 ?_
    refine wp_iload_n (i := 3) (x := l3) (dz dl_Net_turn_0 9 18 (.iload_n 3) 1 rfl) rfl rfl ?_
    refine wp_icmp_ne (tgt := 24) (dz dl_Net_turn_0 10 19 (.if_icmp .ne (5)) 3 rfl) (by decide) (fun hc => ?_) (fun hc => ?_)
    · replace h := h.1 hc
      refine wp_aload_n (i := 0) (v := qr 0 (some l0)) (dz dl_Net_turn_0 13 24 (.aload_n 0) 1 rfl) rfl rfl trivial ?_
      refine wp_aload (i := 4) (v := qr 3 r1) (dz dl_Net_turn_0 14 25 (.aload 4) 2 rfl) rfl trivial ?_
      refine wp_getI a1 (dz dl_Net_turn_0 15 27 (.getfield 96) 3 rfl) lk_Net_96 kd_192 rfl e1 ?_
      refine wp_aload (i := 4) (v := qr 3 r1) (dz dl_Net_turn_0 16 30 (.aload 4) 2 rfl) rfl trivial ?_
      refine wp_getI a1 (dz dl_Net_turn_0 17 32 (.getfield 99) 3 rfl) lk_Net_99 kd_193 rfl e1 ?_
      refine wp_callV l0 0 [qi (gI g1 192 a1 0), qi (gI g1 193 a1 0)] [] (dz dl_Net_turn_0 18 35 (.invokevirtual 78) 3 rfl) ok_Net_linkFace lm_Net_78 (by decide) ws_Net_linkFace wv_Net_linkFace ⟨Nat.le_of_ble_eq_true rfl, Nat.le_of_ble_eq_true rfl⟩ pn_Net_linkFace (Nat.le_of_ble_eq_true rfl) (Nat.le_of_ble_eq_true rfl) rfl (Or.inl rfl) (Nat.zero_le _) (mt_mono h ?_)
      rintro _ g2 ⟨r2, rfl, h⟩ y2
      replace h := h y2.1
      show nnWP _ _ _ _ _ [qr 3 r2] _ _
      refine wp_astore (i := 5) (dz dl_Net_turn_0 19 38 (.astore 5) 2 rfl) [qr 0 (some l0), qi l1, qi l2, qi l3, qr 3 r1, qr 3 r2] (by decide) trivial rfl ?_
      refine wp_aload (i := 5) (v := qr 3 r2) (dz dl_Net_turn_0 20 40 (.aload 5) 2 rfl) rfl trivial ?_
      refine wp_ifnonnull (tgt := 47) (dz dl_Net_turn_0 21 42 (.ifnonnull (5)) 3 rfl) (by decide) (fun a2 e2 => ?_) (fun hc => ?_)
      · replace h := h.2 a2 e2
        refine wp_aload (i := 4) (v := qr 3 r1) (dz dl_Net_turn_0 24 47 (.aload 4) 2 rfl) rfl trivial ?_
        refine wp_iload_n (i := 3) (x := l3) (dz dl_Net_turn_0 25 49 (.iload_n 3) 1 rfl) rfl rfl ?_
        refine wp_callV a1 0 [qi l3] [] (dz dl_Net_turn_0 26 50 (.invokevirtual 102) 3 rfl) ok_Face_set lm_Net_102 (by decide) ws_Face_set wv_Face_set ⟨Nat.le_of_ble_eq_true rfl, Nat.le_of_ble_eq_true rfl⟩ pn_Face_set (Nat.le_of_ble_eq_true rfl) (Nat.le_of_ble_eq_true rfl) e1 (Or.inl rfl) (Nat.zero_le _) (mt_mono h ?_)
        rintro _ g3 ⟨rfl, h⟩ y3
        replace h := h y3.1
        show nnWP _ _ _ _ _ [] _ _
        refine wp_aload (i := 5) (v := qr 3 r2) (dz dl_Net_turn_0 27 53 (.aload 5) 2 rfl) rfl trivial ?_
        refine wp_iload_n (i := 3) (x := l3) (dz dl_Net_turn_0 28 55 (.iload_n 3) 1 rfl) rfl rfl ?_
        refine wp_callV a2 0 [qi l3] [] (dz dl_Net_turn_0 29 56 (.invokevirtual 102) 3 rfl) ok_Face_set lm_Net_102 (by decide) ws_Face_set wv_Face_set ⟨Nat.le_of_ble_eq_true rfl, Nat.le_of_ble_eq_true rfl⟩ pn_Face_set (Nat.le_of_ble_eq_true rfl) (Nat.le_of_ble_eq_true rfl) e2 (Or.inl rfl) (Nat.zero_le _) (mt_mono h ?_)
        rintro _ g4 ⟨rfl, h⟩ y4
        replace h := h y4.1
        show nnWP _ _ _ _ _ [] _ _
        refine wp_iconst (dz dl_Net_turn_0 30 59 (.iconst (1)) 1 rfl) (v := (1 : Int32)) (by decide) ?_
        exact wp_rt (qi _) (rt_Z rfl (Or.inr rfl) (dz dl_Net_turn_0 31 60 (.ireturn) 1 rfl)) ⟨_, rfl, h⟩
      · replace h := h.1 hc
        refine wp_iconst (dz dl_Net_turn_0 22 45 (.iconst (0)) 1 rfl) (v := (0 : Int32)) (by decide) ?_
        exact wp_rt (qi _) (rt_Z rfl (Or.inl rfl) (dz dl_Net_turn_0 23 46 (.ireturn) 1 rfl)) ⟨_, rfl, h⟩
    · replace h := h.2 hc
      refine wp_iconst (dz dl_Net_turn_0 11 22 (.iconst (0)) 1 rfl) (v := (0 : Int32)) (by decide) ?_
      exact wp_rt (qi _) (rt_Z rfl (Or.inl rfl) (dz dl_Net_turn_0 12 23 (.ireturn) 1 rfl)) ⟨_, rfl, h⟩
theorem t_Net_turn {X : Nat × (Nat → Int32)} {k : Nat} {g : sg} {l0 : Nat} {l1 : Int32} {l2 : Int32} {l3 : Int32} {Z : Int32 → sg → Prop} (h : nnMT X M_Net_linkFace 0 [qr 0 (some l0), qi l1, qi l2] g (zR 3 fun r1 g1 => gExt g g1 → (r1 = none → Z (0 : Int32) g1) ∧ (∀ a1, r1 = some a1 → (¬ (gI g1 194 a1 0) = l3 → nnMT X M_Net_linkFace 0 [qr 0 (some l0), qi (gI g1 192 a1 0), qi (gI g1 193 a1 0)] g1 (zR 3 fun r2 g2 => gExt g1 g2 → (r2 = none → Z (0 : Int32) g2) ∧ (∀ a2, r2 = some a2 → nnMT X M_Face_set 0 [qr 3 (some a1), qi l3] g2 (zV fun g3 => gExt g2 g3 → nnMT X M_Face_set 0 [qr 3 (some a2), qi l3] g3 (zV fun g4 => gExt g3 g4 → Z (1 : Int32) g4))))) ∧ ((gI g1 194 a1 0) = l3 → Z (0 : Int32) g1)))) : nnMT X M_Net_turn k [qr 0 (some l0), qi l1, qi l2, qi l3] g (zI Z) := b_Net_turn_0 h

theorem b_Net_announce_0 {X : Nat × (Nat → Int32)} {k : Nat} {g : sg} {l0 : Nat} {l1 : Int32} {l2 : Int32} {l3 : Int32} {Z : Int32 → sg → Prop} (h : nnMT X M_Net_isNode 0 [qi l1] g (zI fun r1 g1 => gExt g g1 → (r1 = 0 → Z (-1 : Int32) g1) ∧ (¬ r1 = 0 → ∃ a1, gR g1 5 l0 0 = some a1 ∧ nnMT X M_Names_has 0 [qr 5 (some a1), qi l2] g1 (zI fun r2 g2 => gExt g1 g2 → (¬ r2 = 0 → gA g2 6 l0 = some 5 ∧ vp_in l1 5 ∧ ∃ a2, gR g2 6 l0 l1.toNatClampNeg = some a2 ∧ ∃ a3, gR g2 386 a2 0 = some a3 ∧ nnMT X M_Routes_find 0 [qr 11 (some a3), qi l1, qi l2] g2 (zR 10 fun r3 g3 => gExt g2 g3 → (¬ l3 = 0 → (r3 = none → 2 ≤ k ∧ ∃ a5, gR g3 386 a2 0 = some a5 ∧ nnMT X M_Routes_make 2 [qr 11 (some a5), qi l1, qi l2] g3 (zR 10 fun r4 g4 => gExt g3 g4 → nnWP X M_Net_announce (k - 2) 80 [none, qi l1, qi l2, qi l3, qr 6 (gR g2 6 l0 l1.toNatClampNeg), qr 10 r4] [] g4 (zI Z))) ∧ (∀ a4, r3 = some a4 → nnWP X M_Net_announce k 80 [none, qi l1, qi l2, qi l3, qr 6 (gR g2 6 l0 l1.toNatClampNeg), qr 10 r3] [] g3 (zI Z))) ∧ (l3 = 0 → (r3 = none → Z (-2 : Int32) g3) ∧ (∀ a6, r3 = some a6 → gA g3 643 a6 = some 5 ∧ (¬ (gI g3 643 a6 (4 : Int32).toNatClampNeg) = (-1 : Int32) → nnWP X M_Net_announce k 80 [none, qi l1, qi l2, qi l3, qr 6 (gR g2 6 l0 l1.toNatClampNeg), qr 10 r3] [] g3 (zI Z)) ∧ ((gI g3 643 a6 (4 : Int32).toNatClampNeg) = (-1 : Int32) → Z (-2 : Int32) g3))))) ∧ (r2 = 0 → Z (-1 : Int32) g2))))) : nnWP X M_Net_announce k 0 [qr 0 (some l0), qi l1, qi l2, qi l3, none, none] [] g (zI Z) := by
  refine wp_iload_n (i := 1) (x := l1) (dz dl_Net_announce_0 0 0 (.iload_n 1) 1 rfl) rfl rfl ?_
  refine wp_callS 0 [qi l1] [] (dz dl_Net_announce_0 1 1 (.invokestatic 106) 3 rfl) ok_Net_isNode lm_Net_106 ws_Net_isNode ⟨Nat.le_of_ble_eq_true rfl, Nat.le_of_ble_eq_true rfl⟩ pn_Net_isNode (Nat.le_of_ble_eq_true rfl) (Nat.le_of_ble_eq_true rfl) (Or.inl rfl) (Nat.zero_le _) (mt_mono h ?_)
  rintro _ g1 ⟨r1, rfl, h⟩ y1
  replace h := h y1.1
  show nnWP _ _ _ _ _ [qi r1] _ _
  refine wp_if_eq (tgt := 18) (dz dl_Net_announce_0 2 4 (.ifCond .eq (14)) 3 rfl) (by decide) (fun hc => ?_) (fun hc => ?_)
  · replace h := h.1 hc
    refine wp_iconst (dz dl_Net_announce_0 8 18 (.iconst (-1)) 1 rfl) (v := (-1 : Int32)) (by decide) ?_
    exact wp_rt (qi _) (rt_I rfl (dz dl_Net_announce_0 9 19 (.ireturn) 1 rfl)) ⟨_, rfl, h⟩
  · replace h := h.2 hc
    refine wp_aload_n (i := 0) (v := qr 0 (some l0)) (dz dl_Net_announce_0 3 7 (.aload_n 0) 1 rfl) rfl rfl trivial ?_
    refine wp_getR l0 (dz dl_Net_announce_0 4 8 (.getfield 20) 3 rfl) lk_Net_20 kd_5 rfl rfl ?_
    refine wp_iload_n (i := 2) (x := l2) (dz dl_Net_announce_0 5 11 (.iload_n 2) 1 rfl) rfl rfl ?_
    obtain ⟨a1, e1, h⟩ := h
    refine wp_callV a1 0 [qi l2] [] (dz dl_Net_announce_0 6 12 (.invokevirtual 109) 3 rfl) ok_Names_has lm_Net_109 (by decide) ws_Names_has wv_Names_has ⟨Nat.le_of_ble_eq_true rfl, Nat.le_of_ble_eq_true rfl⟩ pn_Names_has (Nat.le_of_ble_eq_true rfl) (Nat.le_of_ble_eq_true rfl) e1 (Or.inl rfl) (Nat.zero_le _) (mt_mono h ?_)
    rintro _ g2 ⟨r2, rfl, h⟩ y2
    replace h := h y2.1
    show nnWP _ _ _ _ _ [qi r2] _ _
    refine wp_if_ne (tgt := 20) (dz dl_Net_announce_0 7 15 (.ifCond .ne (5)) 3 rfl) (by decide) (fun hc => ?_) (fun hc => ?_)
    · replace h := h.1 hc
      refine wp_aload_n (i := 0) (v := qr 0 (some l0)) (dz dl_Net_announce_0 10 20 (.aload_n 0) 1 rfl) rfl rfl trivial ?_
      obtain ⟨n1, h⟩ := h
      refine wp_getA l0 5 (dz dl_Net_announce_0 11 21 (.getfield 26) 3 rfl) lk_Net_26 (q := 1) kd_6 rfl rfl n1 ?_
      refine wp_iload_n (i := 1) (x := l1) (dz dl_Net_announce_0 12 24 (.iload_n 1) 1 rfl) rfl rfl ?_
      obtain ⟨i1, h⟩ := h
      refine wp_aald 5 (dz dl_Net_announce_0 13 25 (.aaload) 1 rfl) kd_6 n1 i1 ?_
      refine wp_astore (i := 4) (dz dl_Net_announce_0 14 26 (.astore 4) 2 rfl) [qr 0 (some l0), qi l1, qi l2, qi l3, qr 6 (gR g2 6 l0 l1.toNatClampNeg), none] (by decide) trivial rfl ?_
      refine wp_aload (i := 4) (v := qr 6 (gR g2 6 l0 l1.toNatClampNeg)) (dz dl_Net_announce_0 15 28 (.aload 4) 2 rfl) rfl trivial ?_
      obtain ⟨a2, e2, h⟩ := h
      refine wp_getR a2 (dz dl_Net_announce_0 16 30 (.getfield 112) 3 rfl) lk_Net_112 kd_386 rfl e2 ?_
      refine wp_iload_n (i := 1) (x := l1) (dz dl_Net_announce_0 17 33 (.iload_n 1) 1 rfl) rfl rfl ?_
      refine wp_iload_n (i := 2) (x := l2) (dz dl_Net_announce_0 18 34 (.iload_n 2) 1 rfl) rfl rfl ?_
      obtain ⟨a3, e3, h⟩ := h
      refine wp_callV a3 0 [qi l1, qi l2] [] (dz dl_Net_announce_0 19 35 (.invokevirtual 116) 3 rfl) ok_Routes_find lm_Net_116 (by decide) ws_Routes_find wv_Routes_find ⟨Nat.le_of_ble_eq_true rfl, Nat.le_of_ble_eq_true rfl⟩ pn_Routes_find (Nat.le_of_ble_eq_true rfl) (Nat.le_of_ble_eq_true rfl) e3 (Or.inl rfl) (Nat.zero_le _) (mt_mono h ?_)
      rintro _ g3 ⟨r3, rfl, h⟩ y3
      replace h := h y3.1
      show nnWP _ _ _ _ _ [qr 10 r3] _ _
      refine wp_astore (i := 5) (dz dl_Net_announce_0 20 38 (.astore 5) 2 rfl) [qr 0 (some l0), qi l1, qi l2, qi l3, qr 6 (gR g2 6 l0 l1.toNatClampNeg), qr 10 r3] (by decide) trivial rfl ?_
      refine wp_iload_n (i := 3) (x := l3) (dz dl_Net_announce_0 21 40 (.iload_n 3) 1 rfl) rfl rfl ?_
      refine wp_if_ne (tgt := 63) (dz dl_Net_announce_0 22 41 (.ifCond .ne (22)) 3 rfl) (by decide) (fun hc => ?_) (fun hc => ?_)
      · replace h := h.1 hc
        refine wp_aload (i := 5) (v := qr 10 r3) (dz dl_Net_announce_0 33 63 (.aload 5) 2 rfl) rfl trivial ?_
        refine wp_ifnonnull (tgt := 80) (dz dl_Net_announce_0 34 65 (.ifnonnull (15)) 3 rfl) (by decide) (fun a4 e4 => ?_) (fun hc => ?_)
        · replace h := h.2 a4 e4
          exact wp_cut h ⟨Or.inl rfl, Or.inr rfl, Or.inr rfl, Or.inr rfl, Or.inr rfl, Or.inr rfl, trivial⟩
        · replace h := h.1 hc
          refine wp_aload (i := 4) (v := qr 6 (gR g2 6 l0 l1.toNatClampNeg)) (dz dl_Net_announce_0 35 68 (.aload 4) 2 rfl) rfl trivial ?_
          refine wp_getR a2 (dz dl_Net_announce_0 36 70 (.getfield 112) 3 rfl) lk_Net_112 kd_386 rfl e2 ?_
          refine wp_iload_n (i := 1) (x := l1) (dz dl_Net_announce_0 37 73 (.iload_n 1) 1 rfl) rfl rfl ?_
          refine wp_iload_n (i := 2) (x := l2) (dz dl_Net_announce_0 38 74 (.iload_n 2) 1 rfl) rfl rfl ?_
          obtain ⟨u1, h⟩ := h
          obtain ⟨a5, e5, h⟩ := h
          refine wp_callV a5 2 [qi l1, qi l2] [] (dz dl_Net_announce_0 39 75 (.invokevirtual 126) 3 rfl) ok_Routes_make lm_Net_126 (by decide) ws_Routes_make wv_Routes_make ⟨Nat.le_of_ble_eq_true rfl, Nat.le_of_ble_eq_true rfl⟩ pn_Routes_make (Nat.le_of_ble_eq_true rfl) (Nat.le_of_ble_eq_true rfl) e5 (Or.inl rfl) u1 (mt_mono h ?_)
          rintro _ g4 ⟨r4, rfl, h⟩ y4
          replace h := h y4.1
          show nnWP _ _ _ _ _ [qr 10 r4] _ _
          refine wp_astore (i := 5) (dz dl_Net_announce_1 0 78 (.astore 5) 2 rfl) [qr 0 (some l0), qi l1, qi l2, qi l3, qr 6 (gR g2 6 l0 l1.toNatClampNeg), qr 10 r4] (by decide) trivial rfl ?_
          exact wp_cut h ⟨Or.inl rfl, Or.inr rfl, Or.inr rfl, Or.inr rfl, Or.inr rfl, Or.inr rfl, trivial⟩
      · replace h := h.2 hc
        refine wp_aload (i := 5) (v := qr 10 r3) (dz dl_Net_announce_0 23 44 (.aload 5) 2 rfl) rfl trivial ?_
        refine wp_ifnull (tgt := 60) (dz dl_Net_announce_0 24 46 (.ifnull (14)) 3 rfl) (by decide) (fun hc => ?_) (fun a6 e6 => ?_)
        · replace h := h.1 hc
          refine wp_bipush (dz dl_Net_announce_0 31 60 (.bipush (-2)) 2 rfl) (v := (-2 : Int32)) (by decide) ?_
          exact wp_rt (qi _) (rt_I rfl (dz dl_Net_announce_0 32 62 (.ireturn) 1 rfl)) ⟨_, rfl, h⟩
        · replace h := h.2 a6 e6
          refine wp_aload (i := 5) (v := qr 10 r3) (dz dl_Net_announce_0 25 49 (.aload 5) 2 rfl) rfl trivial ?_
          obtain ⟨n2, h⟩ := h
          refine wp_getA a6 5 (dz dl_Net_announce_0 26 51 (.getfield 121) 3 rfl) lk_Net_121 (q := 0) kd_643 rfl e6 n2 ?_
          refine wp_iconst (dz dl_Net_announce_0 27 54 (.iconst (4)) 1 rfl) (v := (4 : Int32)) (by decide) ?_
          refine wp_iald 5 (dz dl_Net_announce_0 28 55 (.iaload) 1 rfl) kd_643 n2 (show ¬ ((4 : Int32) < 0 ∨ 5 ≤ (4 : Int32).toNatClampNeg) by decide) ?_
          refine wp_iconst (dz dl_Net_announce_0 29 56 (.iconst (-1)) 1 rfl) (v := (-1 : Int32)) (by decide) ?_
          refine wp_icmp_ne (tgt := 63) (dz dl_Net_announce_0 30 57 (.if_icmp .ne (6)) 3 rfl) (by decide) (fun hc => ?_) (fun hc => ?_)
          · replace h := h.1 hc
            refine wp_aload (i := 5) (v := qr 10 r3) (dz dl_Net_announce_0 33 63 (.aload 5) 2 rfl) rfl trivial ?_
            refine wp_ifnonnull (tgt := 80) (dz dl_Net_announce_0 34 65 (.ifnonnull (15)) 3 rfl) (by decide) (fun _ _ => ?_) (fun z => by rw [e6] at z; cases z)
            exact wp_cut h ⟨Or.inl rfl, Or.inr rfl, Or.inr rfl, Or.inr rfl, Or.inr rfl, Or.inr rfl, trivial⟩
          · replace h := h.2 hc
            refine wp_bipush (dz dl_Net_announce_0 31 60 (.bipush (-2)) 2 rfl) (v := (-2 : Int32)) (by decide) ?_
            exact wp_rt (qi _) (rt_I rfl (dz dl_Net_announce_0 32 62 (.ireturn) 1 rfl)) ⟨_, rfl, h⟩
    · replace h := h.2 hc
      refine wp_iconst (dz dl_Net_announce_0 8 18 (.iconst (-1)) 1 rfl) (v := (-1 : Int32)) (by decide) ?_
      exact wp_rt (qi _) (rt_I rfl (dz dl_Net_announce_0 9 19 (.ireturn) 1 rfl)) ⟨_, rfl, h⟩
theorem t_Net_announce {X : Nat × (Nat → Int32)} {k : Nat} {g : sg} {l0 : Nat} {l1 : Int32} {l2 : Int32} {l3 : Int32} {Z : Int32 → sg → Prop} (h : nnMT X M_Net_isNode 0 [qi l1] g (zI fun r1 g1 => gExt g g1 → (r1 = 0 → Z (-1 : Int32) g1) ∧ (¬ r1 = 0 → ∃ a1, gR g1 5 l0 0 = some a1 ∧ nnMT X M_Names_has 0 [qr 5 (some a1), qi l2] g1 (zI fun r2 g2 => gExt g1 g2 → (¬ r2 = 0 → gA g2 6 l0 = some 5 ∧ vp_in l1 5 ∧ ∃ a2, gR g2 6 l0 l1.toNatClampNeg = some a2 ∧ ∃ a3, gR g2 386 a2 0 = some a3 ∧ nnMT X M_Routes_find 0 [qr 11 (some a3), qi l1, qi l2] g2 (zR 10 fun r3 g3 => gExt g2 g3 → (¬ l3 = 0 → (r3 = none → 2 ≤ k ∧ ∃ a5, gR g3 386 a2 0 = some a5 ∧ nnMT X M_Routes_make 2 [qr 11 (some a5), qi l1, qi l2] g3 (zR 10 fun r4 g4 => gExt g3 g4 → nnWP X M_Net_announce (k - 2) 80 [none, qi l1, qi l2, qi l3, qr 6 (gR g2 6 l0 l1.toNatClampNeg), qr 10 r4] [] g4 (zI Z))) ∧ (∀ a4, r3 = some a4 → nnWP X M_Net_announce k 80 [none, qi l1, qi l2, qi l3, qr 6 (gR g2 6 l0 l1.toNatClampNeg), qr 10 r3] [] g3 (zI Z))) ∧ (l3 = 0 → (r3 = none → Z (-2 : Int32) g3) ∧ (∀ a6, r3 = some a6 → gA g3 643 a6 = some 5 ∧ (¬ (gI g3 643 a6 (4 : Int32).toNatClampNeg) = (-1 : Int32) → nnWP X M_Net_announce k 80 [none, qi l1, qi l2, qi l3, qr 6 (gR g2 6 l0 l1.toNatClampNeg), qr 10 r3] [] g3 (zI Z)) ∧ ((gI g3 643 a6 (4 : Int32).toNatClampNeg) = (-1 : Int32) → Z (-2 : Int32) g3))))) ∧ (r2 = 0 → Z (-1 : Int32) g2))))) : nnMT X M_Net_announce k [qr 0 (some l0), qi l1, qi l2, qi l3] g (zI Z) := b_Net_announce_0 h

theorem b_Net_announce_80 {X : Nat × (Nat → Int32)} {k : Nat} {g : sg} {l1 : Int32} {l2 : Int32} {l3 : Int32} {l4 : Option Nat} {l5 : Option Nat} {Z : Int32 → sg → Prop} (h : (l5 = none → Z (-3 : Int32) g) ∧ (∀ a1, l5 = some a1 → (l3 = 0 → nnMT X M_Route_begin 0 [qr 10 (some a1), qi ((gI g 642 a1 0) + (1 : Int32)), qi (4 : Int32), qi (99 : Int32)] g (zV fun g1 => gExt g g1 → (l3 = 0 → 1 ≤ k ∧ nnMT X M_Packet_notice 1 [qi l1, qi l2, qi (gI g1 642 a1 0), qi (99 : Int32)] g1 (zR 7 fun r1 g2 => gExt g1 g2 → ∃ a2, l4 = some a2 ∧ nnMT X M_Node_spread 0 [qr 6 (some a2), qr 7 r1, qi (-1 : Int32)] g2 (zV fun g3 => gExt g2 g3 → Z (gI g3 642 a1 0) g3))) ∧ (¬ l3 = 0 → 1 ≤ k ∧ nnMT X M_Packet_notice 1 [qi l1, qi l2, qi (gI g1 642 a1 0), qi (1 : Int32)] g1 (zR 7 fun r2 g4 => gExt g1 g4 → ∃ a3, l4 = some a3 ∧ nnMT X M_Node_spread 0 [qr 6 (some a3), qr 7 r2, qi (-1 : Int32)] g4 (zV fun g5 => gExt g4 g5 → Z (gI g5 642 a1 0) g5))))) ∧ (¬ l3 = 0 → nnMT X M_Route_begin 0 [qr 10 (some a1), qi ((gI g 642 a1 0) + (1 : Int32)), qi (4 : Int32), qi (0 : Int32)] g (zV fun g6 => gExt g g6 → (l3 = 0 → 1 ≤ k ∧ nnMT X M_Packet_notice 1 [qi l1, qi l2, qi (gI g6 642 a1 0), qi (99 : Int32)] g6 (zR 7 fun r3 g7 => gExt g6 g7 → ∃ a4, l4 = some a4 ∧ nnMT X M_Node_spread 0 [qr 6 (some a4), qr 7 r3, qi (-1 : Int32)] g7 (zV fun g8 => gExt g7 g8 → Z (gI g8 642 a1 0) g8))) ∧ (¬ l3 = 0 → 1 ≤ k ∧ nnMT X M_Packet_notice 1 [qi l1, qi l2, qi (gI g6 642 a1 0), qi (1 : Int32)] g6 (zR 7 fun r4 g9 => gExt g6 g9 → ∃ a5, l4 = some a5 ∧ nnMT X M_Node_spread 0 [qr 6 (some a5), qr 7 r4, qi (-1 : Int32)] g9 (zV fun g10 => gExt g9 g10 → Z (gI g10 642 a1 0) g10))))))) : nnWP X M_Net_announce k 80 [none, qi l1, qi l2, qi l3, qr 6 l4, qr 10 l5] [] g (zI Z) := by
  refine wp_aload (i := 5) (v := qr 10 l5) (dz dl_Net_announce_1 1 80 (.aload 5) 2 rfl) rfl trivial ?_
  refine wp_ifnonnull (tgt := 88) (dz dl_Net_announce_1 2 82 (.ifnonnull (6)) 3 rfl) (by decide) (fun a1 e1 => ?_) (fun hc => ?_)
  · replace h := h.2 a1 e1
    refine wp_aload (i := 5) (v := qr 10 l5) (dz dl_Net_announce_1 5 88 (.aload 5) 2 rfl) rfl trivial ?_
    refine wp_aload (i := 5) (v := qr 10 l5) (dz dl_Net_announce_1 6 90 (.aload 5) 2 rfl) rfl trivial ?_
    refine wp_getI a1 (dz dl_Net_announce_1 7 92 (.getfield 129) 3 rfl) lk_Net_129 kd_642 rfl e1 ?_
    refine wp_iconst (dz dl_Net_announce_1 8 95 (.iconst (1)) 1 rfl) (v := (1 : Int32)) (by decide) ?_
    refine wp_iadd (dz dl_Net_announce_1 9 96 (.iadd) 1 rfl) ?_
    refine wp_iconst (dz dl_Net_announce_1 10 97 (.iconst (4)) 1 rfl) (v := (4 : Int32)) (by decide) ?_
    refine wp_iload_n (i := 3) (x := l3) (dz dl_Net_announce_1 11 98 (.iload_n 3) 1 rfl) rfl rfl ?_
    refine wp_if_eq (tgt := 106) (dz dl_Net_announce_1 12 99 (.ifCond .eq (7)) 3 rfl) (by decide) (fun hc => ?_) (fun hc => ?_)
    · replace h := h.1 hc
      refine wp_bipush (dz dl_Net_announce_1 15 106 (.bipush (99)) 2 rfl) (v := (99 : Int32)) (by decide) ?_
      refine wp_callV a1 0 [qi ((gI g 642 a1 0) + (1 : Int32)), qi (4 : Int32), qi (99 : Int32)] [] (dz dl_Net_announce_1 16 108 (.invokevirtual 132) 3 rfl) ok_Route_begin lm_Net_132 (by decide) ws_Route_begin wv_Route_begin ⟨Nat.le_of_ble_eq_true rfl, Nat.le_of_ble_eq_true rfl⟩ pn_Route_begin (Nat.le_of_ble_eq_true rfl) (Nat.le_of_ble_eq_true rfl) e1 (Or.inl rfl) (Nat.zero_le _) (mt_mono h ?_)
      rintro _ g1 ⟨rfl, h⟩ y1
      replace h := h y1.1
      show nnWP _ _ _ _ _ [] _ _
      refine wp_aload (i := 4) (v := qr 6 l4) (dz dl_Net_announce_1 17 111 (.aload 4) 2 rfl) rfl trivial ?_
      refine wp_iload_n (i := 1) (x := l1) (dz dl_Net_announce_1 18 113 (.iload_n 1) 1 rfl) rfl rfl ?_
      refine wp_iload_n (i := 2) (x := l2) (dz dl_Net_announce_1 19 114 (.iload_n 2) 1 rfl) rfl rfl ?_
      refine wp_aload (i := 5) (v := qr 10 l5) (dz dl_Net_announce_1 20 115 (.aload 5) 2 rfl) rfl trivial ?_
      refine wp_getI a1 (dz dl_Net_announce_1 21 117 (.getfield 129) 3 rfl) lk_Net_129 kd_642 rfl e1 ?_
      refine wp_iload_n (i := 3) (x := l3) (dz dl_Net_announce_1 22 120 (.iload_n 3) 1 rfl) rfl rfl ?_
      refine wp_if_eq (tgt := 128) (dz dl_Net_announce_1 23 121 (.ifCond .eq (7)) 3 rfl) (by decide) (fun hc => ?_) (fun hc => ?_)
      · replace h := h.1 hc
        refine wp_bipush (dz dl_Net_announce_1 26 128 (.bipush (99)) 2 rfl) (v := (99 : Int32)) (by decide) ?_
        obtain ⟨u1, h⟩ := h
        refine wp_callS 1 [qi l1, qi l2, qi (gI g1 642 a1 0), qi (99 : Int32)] [qr 6 l4] (dz dl_Net_announce_1 27 130 (.invokestatic 135) 3 rfl) ok_Packet_notice lm_Net_135 ws_Packet_notice ⟨Nat.le_of_ble_eq_true rfl, Nat.le_of_ble_eq_true rfl⟩ pn_Packet_notice (Nat.le_of_ble_eq_true rfl) (Nat.le_of_ble_eq_true rfl) (Or.inl rfl) u1 (mt_mono h ?_)
        rintro _ g2 ⟨r1, rfl, h⟩ y2
        replace h := h y2.1
        show nnWP _ _ _ _ _ [qr 7 r1, qr 6 l4] _ _
        refine wp_iconst (dz dl_Net_announce_1 28 133 (.iconst (-1)) 1 rfl) (v := (-1 : Int32)) (by decide) ?_
        obtain ⟨a2, e2, h⟩ := h
        refine wp_callV a2 0 [qr 7 r1, qi (-1 : Int32)] [] (dz dl_Net_announce_1 29 134 (.invokevirtual 139) 3 rfl) ok_Node_spread lm_Net_139 (by decide) ws_Node_spread wv_Node_spread ⟨Nat.le_of_ble_eq_true rfl, Nat.le_of_ble_eq_true rfl⟩ pn_Node_spread (Nat.le_of_ble_eq_true rfl) (Nat.le_of_ble_eq_true rfl) e2 (Or.inl rfl) (Nat.zero_le _) (mt_mono h ?_)
        rintro _ g3 ⟨rfl, h⟩ y3
        replace h := h y3.1
        show nnWP _ _ _ _ _ [] _ _
        refine wp_aload (i := 5) (v := qr 10 l5) (dz dl_Net_announce_1 30 137 (.aload 5) 2 rfl) rfl trivial ?_
        refine wp_getI a1 (dz dl_Net_announce_1 31 139 (.getfield 129) 3 rfl) lk_Net_129 kd_642 rfl e1 ?_
        exact wp_rt (qi _) (rt_I rfl (dz dl_Net_announce_1 32 142 (.ireturn) 1 rfl)) ⟨_, rfl, h⟩
      · replace h := h.2 hc
        refine wp_iconst (dz dl_Net_announce_1 24 124 (.iconst (1)) 1 rfl) (v := (1 : Int32)) (by decide) ?_
        refine wp_goto (tgt := 130) (dz dl_Net_announce_1 25 125 (.goto (5)) 3 rfl) (by decide) ?_
        obtain ⟨u2, h⟩ := h
        refine wp_callS 1 [qi l1, qi l2, qi (gI g1 642 a1 0), qi (1 : Int32)] [qr 6 l4] (dz dl_Net_announce_1 27 130 (.invokestatic 135) 3 rfl) ok_Packet_notice lm_Net_135 ws_Packet_notice ⟨Nat.le_of_ble_eq_true rfl, Nat.le_of_ble_eq_true rfl⟩ pn_Packet_notice (Nat.le_of_ble_eq_true rfl) (Nat.le_of_ble_eq_true rfl) (Or.inl rfl) u2 (mt_mono h ?_)
        rintro _ g4 ⟨r2, rfl, h⟩ y4
        replace h := h y4.1
        show nnWP _ _ _ _ _ [qr 7 r2, qr 6 l4] _ _
        refine wp_iconst (dz dl_Net_announce_1 28 133 (.iconst (-1)) 1 rfl) (v := (-1 : Int32)) (by decide) ?_
        obtain ⟨a3, e3, h⟩ := h
        refine wp_callV a3 0 [qr 7 r2, qi (-1 : Int32)] [] (dz dl_Net_announce_1 29 134 (.invokevirtual 139) 3 rfl) ok_Node_spread lm_Net_139 (by decide) ws_Node_spread wv_Node_spread ⟨Nat.le_of_ble_eq_true rfl, Nat.le_of_ble_eq_true rfl⟩ pn_Node_spread (Nat.le_of_ble_eq_true rfl) (Nat.le_of_ble_eq_true rfl) e3 (Or.inl rfl) (Nat.zero_le _) (mt_mono h ?_)
        rintro _ g5 ⟨rfl, h⟩ y5
        replace h := h y5.1
        show nnWP _ _ _ _ _ [] _ _
        refine wp_aload (i := 5) (v := qr 10 l5) (dz dl_Net_announce_1 30 137 (.aload 5) 2 rfl) rfl trivial ?_
        refine wp_getI a1 (dz dl_Net_announce_1 31 139 (.getfield 129) 3 rfl) lk_Net_129 kd_642 rfl e1 ?_
        exact wp_rt (qi _) (rt_I rfl (dz dl_Net_announce_1 32 142 (.ireturn) 1 rfl)) ⟨_, rfl, h⟩
    · replace h := h.2 hc
      refine wp_iconst (dz dl_Net_announce_1 13 102 (.iconst (0)) 1 rfl) (v := (0 : Int32)) (by decide) ?_
      refine wp_goto (tgt := 108) (dz dl_Net_announce_1 14 103 (.goto (5)) 3 rfl) (by decide) ?_
      refine wp_callV a1 0 [qi ((gI g 642 a1 0) + (1 : Int32)), qi (4 : Int32), qi (0 : Int32)] [] (dz dl_Net_announce_1 16 108 (.invokevirtual 132) 3 rfl) ok_Route_begin lm_Net_132 (by decide) ws_Route_begin wv_Route_begin ⟨Nat.le_of_ble_eq_true rfl, Nat.le_of_ble_eq_true rfl⟩ pn_Route_begin (Nat.le_of_ble_eq_true rfl) (Nat.le_of_ble_eq_true rfl) e1 (Or.inl rfl) (Nat.zero_le _) (mt_mono h ?_)
      rintro _ g6 ⟨rfl, h⟩ y6
      replace h := h y6.1
      show nnWP _ _ _ _ _ [] _ _
      refine wp_aload (i := 4) (v := qr 6 l4) (dz dl_Net_announce_1 17 111 (.aload 4) 2 rfl) rfl trivial ?_
      refine wp_iload_n (i := 1) (x := l1) (dz dl_Net_announce_1 18 113 (.iload_n 1) 1 rfl) rfl rfl ?_
      refine wp_iload_n (i := 2) (x := l2) (dz dl_Net_announce_1 19 114 (.iload_n 2) 1 rfl) rfl rfl ?_
      refine wp_aload (i := 5) (v := qr 10 l5) (dz dl_Net_announce_1 20 115 (.aload 5) 2 rfl) rfl trivial ?_
      refine wp_getI a1 (dz dl_Net_announce_1 21 117 (.getfield 129) 3 rfl) lk_Net_129 kd_642 rfl e1 ?_
      refine wp_iload_n (i := 3) (x := l3) (dz dl_Net_announce_1 22 120 (.iload_n 3) 1 rfl) rfl rfl ?_
      refine wp_if_eq (tgt := 128) (dz dl_Net_announce_1 23 121 (.ifCond .eq (7)) 3 rfl) (by decide) (fun hc => ?_) (fun hc => ?_)
      · replace h := h.1 hc
        refine wp_bipush (dz dl_Net_announce_1 26 128 (.bipush (99)) 2 rfl) (v := (99 : Int32)) (by decide) ?_
        obtain ⟨u3, h⟩ := h
        refine wp_callS 1 [qi l1, qi l2, qi (gI g6 642 a1 0), qi (99 : Int32)] [qr 6 l4] (dz dl_Net_announce_1 27 130 (.invokestatic 135) 3 rfl) ok_Packet_notice lm_Net_135 ws_Packet_notice ⟨Nat.le_of_ble_eq_true rfl, Nat.le_of_ble_eq_true rfl⟩ pn_Packet_notice (Nat.le_of_ble_eq_true rfl) (Nat.le_of_ble_eq_true rfl) (Or.inl rfl) u3 (mt_mono h ?_)
        rintro _ g7 ⟨r3, rfl, h⟩ y7
        replace h := h y7.1
        show nnWP _ _ _ _ _ [qr 7 r3, qr 6 l4] _ _
        refine wp_iconst (dz dl_Net_announce_1 28 133 (.iconst (-1)) 1 rfl) (v := (-1 : Int32)) (by decide) ?_
        obtain ⟨a4, e4, h⟩ := h
        refine wp_callV a4 0 [qr 7 r3, qi (-1 : Int32)] [] (dz dl_Net_announce_1 29 134 (.invokevirtual 139) 3 rfl) ok_Node_spread lm_Net_139 (by decide) ws_Node_spread wv_Node_spread ⟨Nat.le_of_ble_eq_true rfl, Nat.le_of_ble_eq_true rfl⟩ pn_Node_spread (Nat.le_of_ble_eq_true rfl) (Nat.le_of_ble_eq_true rfl) e4 (Or.inl rfl) (Nat.zero_le _) (mt_mono h ?_)
        rintro _ g8 ⟨rfl, h⟩ y8
        replace h := h y8.1
        show nnWP _ _ _ _ _ [] _ _
        refine wp_aload (i := 5) (v := qr 10 l5) (dz dl_Net_announce_1 30 137 (.aload 5) 2 rfl) rfl trivial ?_
        refine wp_getI a1 (dz dl_Net_announce_1 31 139 (.getfield 129) 3 rfl) lk_Net_129 kd_642 rfl e1 ?_
        exact wp_rt (qi _) (rt_I rfl (dz dl_Net_announce_1 32 142 (.ireturn) 1 rfl)) ⟨_, rfl, h⟩
      · replace h := h.2 hc
        refine wp_iconst (dz dl_Net_announce_1 24 124 (.iconst (1)) 1 rfl) (v := (1 : Int32)) (by decide) ?_
        refine wp_goto (tgt := 130) (dz dl_Net_announce_1 25 125 (.goto (5)) 3 rfl) (by decide) ?_
        obtain ⟨u4, h⟩ := h
        refine wp_callS 1 [qi l1, qi l2, qi (gI g6 642 a1 0), qi (1 : Int32)] [qr 6 l4] (dz dl_Net_announce_1 27 130 (.invokestatic 135) 3 rfl) ok_Packet_notice lm_Net_135 ws_Packet_notice ⟨Nat.le_of_ble_eq_true rfl, Nat.le_of_ble_eq_true rfl⟩ pn_Packet_notice (Nat.le_of_ble_eq_true rfl) (Nat.le_of_ble_eq_true rfl) (Or.inl rfl) u4 (mt_mono h ?_)
        rintro _ g9 ⟨r4, rfl, h⟩ y9
        replace h := h y9.1
        show nnWP _ _ _ _ _ [qr 7 r4, qr 6 l4] _ _
        refine wp_iconst (dz dl_Net_announce_1 28 133 (.iconst (-1)) 1 rfl) (v := (-1 : Int32)) (by decide) ?_
        obtain ⟨a5, e5, h⟩ := h
        refine wp_callV a5 0 [qr 7 r4, qi (-1 : Int32)] [] (dz dl_Net_announce_1 29 134 (.invokevirtual 139) 3 rfl) ok_Node_spread lm_Net_139 (by decide) ws_Node_spread wv_Node_spread ⟨Nat.le_of_ble_eq_true rfl, Nat.le_of_ble_eq_true rfl⟩ pn_Node_spread (Nat.le_of_ble_eq_true rfl) (Nat.le_of_ble_eq_true rfl) e5 (Or.inl rfl) (Nat.zero_le _) (mt_mono h ?_)
        rintro _ g10 ⟨rfl, h⟩ y10
        replace h := h y10.1
        show nnWP _ _ _ _ _ [] _ _
        refine wp_aload (i := 5) (v := qr 10 l5) (dz dl_Net_announce_1 30 137 (.aload 5) 2 rfl) rfl trivial ?_
        refine wp_getI a1 (dz dl_Net_announce_1 31 139 (.getfield 129) 3 rfl) lk_Net_129 kd_642 rfl e1 ?_
        exact wp_rt (qi _) (rt_I rfl (dz dl_Net_announce_1 32 142 (.ireturn) 1 rfl)) ⟨_, rfl, h⟩
  · replace h := h.1 hc
    refine wp_bipush (dz dl_Net_announce_1 3 85 (.bipush (-3)) 2 rfl) (v := (-3 : Int32)) (by decide) ?_
    exact wp_rt (qi _) (rt_I rfl (dz dl_Net_announce_1 4 87 (.ireturn) 1 rfl)) ⟨_, rfl, h⟩

theorem b_Net_publish_0 {X : Nat × (Nat → Int32)} {k : Nat} {g : sg} {l0 : Nat} {l1 : Int32} {l2 : Int32} {l3 : Int32} {l4 : Int32} {Z : Int32 → sg → Prop} (h : nnMT X M_Net_isNode 0 [qi l1] g (zI fun r1 g1 => gExt g g1 → (r1 = 0 → Z (0 : Int32) g1) ∧ (¬ r1 = 0 → ∃ a1, gR g1 5 l0 0 = some a1 ∧ nnMT X M_Names_has 0 [qr 5 (some a1), qi l2] g1 (zI fun r2 g2 => gExt g1 g2 → (r2 = 0 → Z (0 : Int32) g2) ∧ (¬ r2 = 0 → (l4 < 0 → Z (0 : Int32) g2) ∧ (¬ l4 < 0 → ((20 : Int32) < l4 → Z (0 : Int32) g2) ∧ (¬ (20 : Int32) < l4 → gA g2 7 l0 = some 48 ∧ vp_in l2 48 ∧ (gR g2 7 l0 l2.toNatClampNeg = none → 1 ≤ k ∧ nnMT X M_Packet_data 1 [qi l2, qi l3, qi l4] g2 (zR 7 fun r3 g3 => gExt g2 g3 → ∀ g4, g4 = pR g3 7 l0 l2.toNatClampNeg r3 → gA g4 8 l0 = some 48 ∧ ∀ g5, g5 = pI g4 8 l0 l2.toNatClampNeg l1 → Z (1 : Int32) g5)) ∧ (∀ a2, gR g2 7 l0 l2.toNatClampNeg = some a2 → Z (0 : Int32) g2)))))))) : nnWP X M_Net_publish k 0 [qr 0 (some l0), qi l1, qi l2, qi l3, qi l4] [] g (zI Z) := by
  refine wp_iload_n (i := 1) (x := l1) (dz dl_Net_publish_0 0 0 (.iload_n 1) 1 rfl) rfl rfl ?_
  refine wp_callS 0 [qi l1] [] (dz dl_Net_publish_0 1 1 (.invokestatic 106) 3 rfl) ok_Net_isNode lm_Net_106 ws_Net_isNode ⟨Nat.le_of_ble_eq_true rfl, Nat.le_of_ble_eq_true rfl⟩ pn_Net_isNode (Nat.le_of_ble_eq_true rfl) (Nat.le_of_ble_eq_true rfl) (Or.inl rfl) (Nat.zero_le _) (mt_mono h ?_)
  rintro _ g1 ⟨r1, rfl, h⟩ y1
  replace h := h y1.1
  show nnWP _ _ _ _ _ [qi r1] _ _
  refine wp_if_eq (tgt := 39) (dz dl_Net_publish_0 2 4 (.ifCond .eq (35)) 3 rfl) (by decide) (fun hc => ?_) (fun hc => ?_)
  · replace h := h.1 hc
    refine wp_iconst (dz dl_Net_publish_0 18 39 (.iconst (0)) 1 rfl) (v := (0 : Int32)) (by decide) ?_
    exact wp_rt (qi _) (rt_Z rfl (Or.inl rfl) (dz dl_Net_publish_0 19 40 (.ireturn) 1 rfl)) ⟨_, rfl, h⟩
  · replace h := h.2 hc
    refine wp_aload_n (i := 0) (v := qr 0 (some l0)) (dz dl_Net_publish_0 3 7 (.aload_n 0) 1 rfl) rfl rfl trivial ?_
    refine wp_getR l0 (dz dl_Net_publish_0 4 8 (.getfield 20) 3 rfl) lk_Net_20 kd_5 rfl rfl ?_
    refine wp_iload_n (i := 2) (x := l2) (dz dl_Net_publish_0 5 11 (.iload_n 2) 1 rfl) rfl rfl ?_
    obtain ⟨a1, e1, h⟩ := h
    refine wp_callV a1 0 [qi l2] [] (dz dl_Net_publish_0 6 12 (.invokevirtual 109) 3 rfl) ok_Names_has lm_Net_109 (by decide) ws_Names_has wv_Names_has ⟨Nat.le_of_ble_eq_true rfl, Nat.le_of_ble_eq_true rfl⟩ pn_Names_has (Nat.le_of_ble_eq_true rfl) (Nat.le_of_ble_eq_true rfl) e1 (Or.inl rfl) (Nat.zero_le _) (mt_mono h ?_)
    rintro _ g2 ⟨r2, rfl, h⟩ y2
    replace h := h y2.1
    show nnWP _ _ _ _ _ [qi r2] _ _
    refine wp_if_eq (tgt := 39) (dz dl_Net_publish_0 7 15 (.ifCond .eq (24)) 3 rfl) (by decide) (fun hc => ?_) (fun hc => ?_)
    · replace h := h.1 hc
      refine wp_iconst (dz dl_Net_publish_0 18 39 (.iconst (0)) 1 rfl) (v := (0 : Int32)) (by decide) ?_
      exact wp_rt (qi _) (rt_Z rfl (Or.inl rfl) (dz dl_Net_publish_0 19 40 (.ireturn) 1 rfl)) ⟨_, rfl, h⟩
    · replace h := h.2 hc
      refine wp_iload (i := 4) (x := l4) (dz dl_Net_publish_0 8 18 (.iload 4) 2 rfl) rfl ?_
      refine wp_if_lt (tgt := 39) (dz dl_Net_publish_0 9 20 (.ifCond .lt (19)) 3 rfl) (by decide) (fun hc => ?_) (fun hc => ?_)
      · replace h := h.1 hc
        refine wp_iconst (dz dl_Net_publish_0 18 39 (.iconst (0)) 1 rfl) (v := (0 : Int32)) (by decide) ?_
        exact wp_rt (qi _) (rt_Z rfl (Or.inl rfl) (dz dl_Net_publish_0 19 40 (.ireturn) 1 rfl)) ⟨_, rfl, h⟩
      · replace h := h.2 hc
        refine wp_iload (i := 4) (x := l4) (dz dl_Net_publish_0 10 23 (.iload 4) 2 rfl) rfl ?_
        refine wp_bipush (dz dl_Net_publish_0 11 25 (.bipush (20)) 2 rfl) (v := (20 : Int32)) (by decide) ?_
        refine wp_icmp_gt (tgt := 39) (dz dl_Net_publish_0 12 27 (.if_icmp .gt (12)) 3 rfl) (by decide) (fun hc => ?_) (fun hc => ?_)
        · replace h := h.1 hc
          refine wp_iconst (dz dl_Net_publish_0 18 39 (.iconst (0)) 1 rfl) (v := (0 : Int32)) (by decide) ?_
          exact wp_rt (qi _) (rt_Z rfl (Or.inl rfl) (dz dl_Net_publish_0 19 40 (.ireturn) 1 rfl)) ⟨_, rfl, h⟩
        · replace h := h.2 hc
          refine wp_aload_n (i := 0) (v := qr 0 (some l0)) (dz dl_Net_publish_0 13 30 (.aload_n 0) 1 rfl) rfl rfl trivial ?_
          obtain ⟨n1, h⟩ := h
          refine wp_getA l0 48 (dz dl_Net_publish_0 14 31 (.getfield 32) 3 rfl) lk_Net_32 (q := 1) kd_7 rfl rfl n1 ?_
          refine wp_iload_n (i := 2) (x := l2) (dz dl_Net_publish_0 15 34 (.iload_n 2) 1 rfl) rfl rfl ?_
          obtain ⟨i1, h⟩ := h
          refine wp_aald 48 (dz dl_Net_publish_0 16 35 (.aaload) 1 rfl) kd_7 n1 i1 ?_
          refine wp_ifnull (tgt := 41) (dz dl_Net_publish_0 17 36 (.ifnull (5)) 3 rfl) (by decide) (fun hc => ?_) (fun a2 e2 => ?_)
          · replace h := h.1 hc
            refine wp_aload_n (i := 0) (v := qr 0 (some l0)) (dz dl_Net_publish_0 20 41 (.aload_n 0) 1 rfl) rfl rfl trivial ?_
            refine wp_getA l0 48 (dz dl_Net_publish_0 21 42 (.getfield 32) 3 rfl) lk_Net_32 (q := 1) kd_7 rfl rfl n1 ?_
            refine wp_iload_n (i := 2) (x := l2) (dz dl_Net_publish_0 22 45 (.iload_n 2) 1 rfl) rfl rfl ?_
            refine wp_iload_n (i := 2) (x := l2) (dz dl_Net_publish_0 23 46 (.iload_n 2) 1 rfl) rfl rfl ?_
            refine wp_iload_n (i := 3) (x := l3) (dz dl_Net_publish_0 24 47 (.iload_n 3) 1 rfl) rfl rfl ?_
            refine wp_iload (i := 4) (x := l4) (dz dl_Net_publish_0 25 48 (.iload 4) 2 rfl) rfl ?_
            obtain ⟨u1, h⟩ := h
            refine wp_callS 1 [qi l2, qi l3, qi l4] [qi l2, qa 7 l0] (dz dl_Net_publish_0 26 50 (.invokestatic 143) 3 rfl) ok_Packet_data lm_Net_143 ws_Packet_data ⟨Nat.le_of_ble_eq_true rfl, Nat.le_of_ble_eq_true rfl⟩ pn_Packet_data (Nat.le_of_ble_eq_true rfl) (Nat.le_of_ble_eq_true rfl) (Or.inl rfl) u1 (mt_mono h ?_)
            rintro _ g3 ⟨r3, rfl, h⟩ y3
            replace h := h y3.1
            show nnWP _ _ _ _ _ [qr 7 r3, qi l2, qa 7 l0] _ _
            have h := h _ rfl
            refine wp_aast 48 (dz dl_Net_publish_0 27 53 (.aastore) 1 rfl) kd_7 (by decide) (y3.1.2 _ _ _ n1) i1 rfl ?_
            refine wp_aload_n (i := 0) (v := qr 0 (some l0)) (dz dl_Net_publish_0 28 54 (.aload_n 0) 1 rfl) rfl rfl trivial ?_
            obtain ⟨n2, h⟩ := h
            refine wp_getA l0 48 (dz dl_Net_publish_0 29 55 (.getfield 36) 3 rfl) lk_Net_36 (q := 0) kd_8 rfl rfl n2 ?_
            refine wp_iload_n (i := 2) (x := l2) (dz dl_Net_publish_0 30 58 (.iload_n 2) 1 rfl) rfl rfl ?_
            refine wp_iload_n (i := 1) (x := l1) (dz dl_Net_publish_0 31 59 (.iload_n 1) 1 rfl) rfl rfl ?_
            have h := h _ rfl
            refine wp_iast 48 (dz dl_Net_publish_0 32 60 (.iastore) 1 rfl) kd_8 n2 i1 rfl ?_
            refine wp_iconst (dz dl_Net_publish_0 33 61 (.iconst (1)) 1 rfl) (v := (1 : Int32)) (by decide) ?_
            exact wp_rt (qi _) (rt_Z rfl (Or.inr rfl) (dz dl_Net_publish_0 34 62 (.ireturn) 1 rfl)) ⟨_, rfl, h⟩
          · replace h := h.2 a2 e2
            refine wp_iconst (dz dl_Net_publish_0 18 39 (.iconst (0)) 1 rfl) (v := (0 : Int32)) (by decide) ?_
            exact wp_rt (qi _) (rt_Z rfl (Or.inl rfl) (dz dl_Net_publish_0 19 40 (.ireturn) 1 rfl)) ⟨_, rfl, h⟩
theorem t_Net_publish {X : Nat × (Nat → Int32)} {k : Nat} {g : sg} {l0 : Nat} {l1 : Int32} {l2 : Int32} {l3 : Int32} {l4 : Int32} {Z : Int32 → sg → Prop} (h : nnMT X M_Net_isNode 0 [qi l1] g (zI fun r1 g1 => gExt g g1 → (r1 = 0 → Z (0 : Int32) g1) ∧ (¬ r1 = 0 → ∃ a1, gR g1 5 l0 0 = some a1 ∧ nnMT X M_Names_has 0 [qr 5 (some a1), qi l2] g1 (zI fun r2 g2 => gExt g1 g2 → (r2 = 0 → Z (0 : Int32) g2) ∧ (¬ r2 = 0 → (l4 < 0 → Z (0 : Int32) g2) ∧ (¬ l4 < 0 → ((20 : Int32) < l4 → Z (0 : Int32) g2) ∧ (¬ (20 : Int32) < l4 → gA g2 7 l0 = some 48 ∧ vp_in l2 48 ∧ (gR g2 7 l0 l2.toNatClampNeg = none → 1 ≤ k ∧ nnMT X M_Packet_data 1 [qi l2, qi l3, qi l4] g2 (zR 7 fun r3 g3 => gExt g2 g3 → ∀ g4, g4 = pR g3 7 l0 l2.toNatClampNeg r3 → gA g4 8 l0 = some 48 ∧ ∀ g5, g5 = pI g4 8 l0 l2.toNatClampNeg l1 → Z (1 : Int32) g5)) ∧ (∀ a2, gR g2 7 l0 l2.toNatClampNeg = some a2 → Z (0 : Int32) g2)))))))) : nnMT X M_Net_publish k [qr 0 (some l0), qi l1, qi l2, qi l3, qi l4] g (zI Z) := b_Net_publish_0 h

theorem b_Net_ask_0 {X : Nat × (Nat → Int32)} {k : Nat} {g : sg} {l0 : Nat} {l1 : Int32} {l2 : Int32} {l3 : Int32} {l4 : Int32} {Z : Int32 → sg → Prop} (h : nnMT X M_Net_isNode 0 [qi l1] g (zI fun r1 g1 => gExt g g1 → (r1 = 0 → Z (-1 : Int32) g1) ∧ (¬ r1 = 0 → ∃ a1, gR g1 5 l0 0 = some a1 ∧ nnMT X M_Names_has 0 [qr 5 (some a1), qi l2] g1 (zI fun r2 g2 => gExt g1 g2 → (r2 = 0 → Z (-1 : Int32) g2) ∧ (¬ r2 = 0 → (l3 < 0 → Z (-1 : Int32) g2) ∧ (¬ l3 < 0 → ((3 : Int32) < l3 → Z (-1 : Int32) g2) ∧ (¬ (3 : Int32) < l3 → (l4 < 0 → Z (-1 : Int32) g2) ∧ (¬ l4 < 0 → (l4 ≤ (9 : Int32) → gA g2 6 l0 = some 5 ∧ vp_in l1 5 ∧ 7 ≤ k ∧ nnMT X M_Net_openRequest 7 [qr 0 (some l0), qr 6 (gR g2 6 l0 l1.toNatClampNeg), qi l2, qi l3, qi l4] g2 (zI fun r3 g3 => gExt g2 g3 → Z r3 g3)) ∧ (¬ l4 ≤ (9 : Int32) → Z (-1 : Int32) g2))))))))) : nnWP X M_Net_ask k 0 [qr 0 (some l0), qi l1, qi l2, qi l3, qi l4] [] g (zI Z) := by
  refine wp_iload_n (i := 1) (x := l1) (dz dl_Net_ask_0 0 0 (.iload_n 1) 1 rfl) rfl rfl ?_
  refine wp_callS 0 [qi l1] [] (dz dl_Net_ask_0 1 1 (.invokestatic 106) 3 rfl) ok_Net_isNode lm_Net_106 ws_Net_isNode ⟨Nat.le_of_ble_eq_true rfl, Nat.le_of_ble_eq_true rfl⟩ pn_Net_isNode (Nat.le_of_ble_eq_true rfl) (Nat.le_of_ble_eq_true rfl) (Or.inl rfl) (Nat.zero_le _) (mt_mono h ?_)
  rintro _ g1 ⟨r1, rfl, h⟩ y1
  replace h := h y1.1
  show nnWP _ _ _ _ _ [qi r1] _ _
  refine wp_if_eq (tgt := 39) (dz dl_Net_ask_0 2 4 (.ifCond .eq (35)) 3 rfl) (by decide) (fun hc => ?_) (fun hc => ?_)
  · replace h := h.1 hc
    refine wp_iconst (dz dl_Net_ask_0 18 39 (.iconst (-1)) 1 rfl) (v := (-1 : Int32)) (by decide) ?_
    exact wp_rt (qi _) (rt_I rfl (dz dl_Net_ask_0 19 40 (.ireturn) 1 rfl)) ⟨_, rfl, h⟩
  · replace h := h.2 hc
    refine wp_aload_n (i := 0) (v := qr 0 (some l0)) (dz dl_Net_ask_0 3 7 (.aload_n 0) 1 rfl) rfl rfl trivial ?_
    refine wp_getR l0 (dz dl_Net_ask_0 4 8 (.getfield 20) 3 rfl) lk_Net_20 kd_5 rfl rfl ?_
    refine wp_iload_n (i := 2) (x := l2) (dz dl_Net_ask_0 5 11 (.iload_n 2) 1 rfl) rfl rfl ?_
    obtain ⟨a1, e1, h⟩ := h
    refine wp_callV a1 0 [qi l2] [] (dz dl_Net_ask_0 6 12 (.invokevirtual 109) 3 rfl) ok_Names_has lm_Net_109 (by decide) ws_Names_has wv_Names_has ⟨Nat.le_of_ble_eq_true rfl, Nat.le_of_ble_eq_true rfl⟩ pn_Names_has (Nat.le_of_ble_eq_true rfl) (Nat.le_of_ble_eq_true rfl) e1 (Or.inl rfl) (Nat.zero_le _) (mt_mono h ?_)
    rintro _ g2 ⟨r2, rfl, h⟩ y2
    replace h := h y2.1
    show nnWP _ _ _ _ _ [qi r2] _ _
    refine wp_if_eq (tgt := 39) (dz dl_Net_ask_0 7 15 (.ifCond .eq (24)) 3 rfl) (by decide) (fun hc => ?_) (fun hc => ?_)
    · replace h := h.1 hc
      refine wp_iconst (dz dl_Net_ask_0 18 39 (.iconst (-1)) 1 rfl) (v := (-1 : Int32)) (by decide) ?_
      exact wp_rt (qi _) (rt_I rfl (dz dl_Net_ask_0 19 40 (.ireturn) 1 rfl)) ⟨_, rfl, h⟩
    · replace h := h.2 hc
      refine wp_iload_n (i := 3) (x := l3) (dz dl_Net_ask_0 8 18 (.iload_n 3) 1 rfl) rfl rfl ?_
      refine wp_if_lt (tgt := 39) (dz dl_Net_ask_0 9 19 (.ifCond .lt (20)) 3 rfl) (by decide) (fun hc => ?_) (fun hc => ?_)
      · replace h := h.1 hc
        refine wp_iconst (dz dl_Net_ask_0 18 39 (.iconst (-1)) 1 rfl) (v := (-1 : Int32)) (by decide) ?_
        exact wp_rt (qi _) (rt_I rfl (dz dl_Net_ask_0 19 40 (.ireturn) 1 rfl)) ⟨_, rfl, h⟩
      · replace h := h.2 hc
        refine wp_iload_n (i := 3) (x := l3) (dz dl_Net_ask_0 10 22 (.iload_n 3) 1 rfl) rfl rfl ?_
        refine wp_iconst (dz dl_Net_ask_0 11 23 (.iconst (3)) 1 rfl) (v := (3 : Int32)) (by decide) ?_
        refine wp_icmp_gt (tgt := 39) (dz dl_Net_ask_0 12 24 (.if_icmp .gt (15)) 3 rfl) (by decide) (fun hc => ?_) (fun hc => ?_)
        · replace h := h.1 hc
          refine wp_iconst (dz dl_Net_ask_0 18 39 (.iconst (-1)) 1 rfl) (v := (-1 : Int32)) (by decide) ?_
          exact wp_rt (qi _) (rt_I rfl (dz dl_Net_ask_0 19 40 (.ireturn) 1 rfl)) ⟨_, rfl, h⟩
        · replace h := h.2 hc
          refine wp_iload (i := 4) (x := l4) (dz dl_Net_ask_0 13 27 (.iload 4) 2 rfl) rfl ?_
          refine wp_if_lt (tgt := 39) (dz dl_Net_ask_0 14 29 (.ifCond .lt (10)) 3 rfl) (by decide) (fun hc => ?_) (fun hc => ?_)
          · replace h := h.1 hc
            refine wp_iconst (dz dl_Net_ask_0 18 39 (.iconst (-1)) 1 rfl) (v := (-1 : Int32)) (by decide) ?_
            exact wp_rt (qi _) (rt_I rfl (dz dl_Net_ask_0 19 40 (.ireturn) 1 rfl)) ⟨_, rfl, h⟩
          · replace h := h.2 hc
            refine wp_iload (i := 4) (x := l4) (dz dl_Net_ask_0 15 32 (.iload 4) 2 rfl) rfl ?_
            refine wp_bipush (dz dl_Net_ask_0 16 34 (.bipush (9)) 2 rfl) (v := (9 : Int32)) (by decide) ?_
            refine wp_icmp_le (tgt := 41) (dz dl_Net_ask_0 17 36 (.if_icmp .le (5)) 3 rfl) (by decide) (fun hc => ?_) (fun hc => ?_)
            · replace h := h.1 hc
              refine wp_aload_n (i := 0) (v := qr 0 (some l0)) (dz dl_Net_ask_0 20 41 (.aload_n 0) 1 rfl) rfl rfl trivial ?_
              refine wp_aload_n (i := 0) (v := qr 0 (some l0)) (dz dl_Net_ask_0 21 42 (.aload_n 0) 1 rfl) rfl rfl trivial ?_
              obtain ⟨n1, h⟩ := h
              refine wp_getA l0 5 (dz dl_Net_ask_0 22 43 (.getfield 26) 3 rfl) lk_Net_26 (q := 1) kd_6 rfl rfl n1 ?_
              refine wp_iload_n (i := 1) (x := l1) (dz dl_Net_ask_0 23 46 (.iload_n 1) 1 rfl) rfl rfl ?_
              obtain ⟨i1, h⟩ := h
              refine wp_aald 5 (dz dl_Net_ask_0 24 47 (.aaload) 1 rfl) kd_6 n1 i1 ?_
              refine wp_iload_n (i := 2) (x := l2) (dz dl_Net_ask_0 25 48 (.iload_n 2) 1 rfl) rfl rfl ?_
              refine wp_iload_n (i := 3) (x := l3) (dz dl_Net_ask_0 26 49 (.iload_n 3) 1 rfl) rfl rfl ?_
              refine wp_iload (i := 4) (x := l4) (dz dl_Net_ask_0 27 50 (.iload 4) 2 rfl) rfl ?_
              obtain ⟨u1, h⟩ := h
              refine wp_callV l0 7 [qr 6 (gR g2 6 l0 l1.toNatClampNeg), qi l2, qi l3, qi l4] [] (dz dl_Net_ask_0 28 52 (.invokevirtual 147) 3 rfl) ok_Net_openRequest lm_Net_147 (by decide) ws_Net_openRequest wv_Net_openRequest ⟨Nat.le_of_ble_eq_true rfl, Nat.le_of_ble_eq_true rfl⟩ pn_Net_openRequest (Nat.le_of_ble_eq_true rfl) (Nat.le_of_ble_eq_true rfl) rfl (Or.inl rfl) u1 (mt_mono h ?_)
              rintro _ g3 ⟨r3, rfl, h⟩ y3
              replace h := h y3.1
              show nnWP _ _ _ _ _ [qi r3] _ _
              exact wp_rt (qi _) (rt_I rfl (dz dl_Net_ask_0 29 55 (.ireturn) 1 rfl)) ⟨_, rfl, h⟩
            · replace h := h.2 hc
              refine wp_iconst (dz dl_Net_ask_0 18 39 (.iconst (-1)) 1 rfl) (v := (-1 : Int32)) (by decide) ?_
              exact wp_rt (qi _) (rt_I rfl (dz dl_Net_ask_0 19 40 (.ireturn) 1 rfl)) ⟨_, rfl, h⟩
theorem t_Net_ask {X : Nat × (Nat → Int32)} {k : Nat} {g : sg} {l0 : Nat} {l1 : Int32} {l2 : Int32} {l3 : Int32} {l4 : Int32} {Z : Int32 → sg → Prop} (h : nnMT X M_Net_isNode 0 [qi l1] g (zI fun r1 g1 => gExt g g1 → (r1 = 0 → Z (-1 : Int32) g1) ∧ (¬ r1 = 0 → ∃ a1, gR g1 5 l0 0 = some a1 ∧ nnMT X M_Names_has 0 [qr 5 (some a1), qi l2] g1 (zI fun r2 g2 => gExt g1 g2 → (r2 = 0 → Z (-1 : Int32) g2) ∧ (¬ r2 = 0 → (l3 < 0 → Z (-1 : Int32) g2) ∧ (¬ l3 < 0 → ((3 : Int32) < l3 → Z (-1 : Int32) g2) ∧ (¬ (3 : Int32) < l3 → (l4 < 0 → Z (-1 : Int32) g2) ∧ (¬ l4 < 0 → (l4 ≤ (9 : Int32) → gA g2 6 l0 = some 5 ∧ vp_in l1 5 ∧ 7 ≤ k ∧ nnMT X M_Net_openRequest 7 [qr 0 (some l0), qr 6 (gR g2 6 l0 l1.toNatClampNeg), qi l2, qi l3, qi l4] g2 (zI fun r3 g3 => gExt g2 g3 → Z r3 g3)) ∧ (¬ l4 ≤ (9 : Int32) → Z (-1 : Int32) g2))))))))) : nnMT X M_Net_ask k [qr 0 (some l0), qi l1, qi l2, qi l3, qi l4] g (zI Z) := b_Net_ask_0 h

theorem b_Net_carry_0 {X : Nat × (Nat → Int32)} {k : Nat} {g : sg} {l0 : Nat} {l1 : Int32} {l2 : Int32} {Z : Int32 → sg → Prop} (h : nnMT X M_Net_linkFace 0 [qr 0 (some l0), qi l1, qi l2] g (zR 3 fun r1 g1 => gExt g g1 → (r1 = none → Z (-1 : Int32) g1) ∧ (∀ a1, r1 = some a1 → nnMT X M_Net_isNode 0 [qi (gI g1 192 a1 0)] g1 (zI fun r2 g2 => gExt g1 g2 → (¬ r2 = 0 → nnMT X M_Face_first 0 [qr 3 (some a1)] g2 (zR 7 fun r3 g3 => gExt g2 g3 → (r3 = none → Z (-1 : Int32) g3) ∧ (∀ a2, r3 = some a2 → nnMT X M_Face_dropFirst 0 [qr 3 (some a1)] g3 (zV fun g4 => gExt g3 g4 → gA g4 6 l0 = some 5 ∧ vp_in (gI g4 192 a1 0) 5 ∧ 5 ≤ k ∧ nnMT X M_Net_arrive 5 [qr 0 (some l0), qr 6 (gR g4 6 l0 (gI g4 192 a1 0).toNatClampNeg), qi (gI g4 193 a1 0), qr 7 r3] g4 (zV fun g5 => gExt g4 g5 → Z (gI g5 448 a2 0) g5))))) ∧ (r2 = 0 → Z (-1 : Int32) g2))))) : nnWP X M_Net_carry k 0 [qr 0 (some l0), qi l1, qi l2, none, none] [] g (zI Z) := by
  refine wp_aload_n (i := 0) (v := qr 0 (some l0)) (dz dl_Net_carry_0 0 0 (.aload_n 0) 1 rfl) rfl rfl trivial ?_
  refine wp_iload_n (i := 1) (x := l1) (dz dl_Net_carry_0 1 1 (.iload_n 1) 1 rfl) rfl rfl ?_
  refine wp_iload_n (i := 2) (x := l2) (dz dl_Net_carry_0 2 2 (.iload_n 2) 1 rfl) rfl rfl ?_
  refine wp_callV l0 0 [qi l1, qi l2] [] (dz dl_Net_carry_0 3 3 (.invokevirtual 78) 3 rfl) ok_Net_linkFace lm_Net_78 (by decide) ws_Net_linkFace wv_Net_linkFace ⟨Nat.le_of_ble_eq_true rfl, Nat.le_of_ble_eq_true rfl⟩ pn_Net_linkFace (Nat.le_of_ble_eq_true rfl) (Nat.le_of_ble_eq_true rfl) rfl (Or.inl rfl) (Nat.zero_le _) (mt_mono h ?_)
  rintro _ g1 ⟨r1, rfl, h⟩ y1
  replace h := h y1.1
  show nnWP _ _ _ _ _ [qr 3 r1] _ _
  refine wp_astore_n (i := 3) (dz dl_Net_carry_0 4 6 (.astore_n 3) 1 rfl) rfl [qr 0 (some l0), qi l1, qi l2, qr 3 r1, none] (by decide) trivial rfl ?_
  refine wp_aload_n (i := 3) (v := qr 3 r1) (dz dl_Net_carry_0 5 7 (.aload_n 3) 1 rfl) rfl rfl trivial ?_
  refine wp_ifnull (tgt := 21) (dz dl_Net_carry_0 6 8 (.ifnull (13)) 3 rfl) (by decide) (fun hc => ?_) (fun a1 e1 => ?_)
  · replace h := h.1 hc
    refine wp_iconst (dz dl_Net_carry_0 11 21 (.iconst (-1)) 1 rfl) (v := (-1 : Int32)) (by decide) ?_
    exact wp_rt (qi _) (rt_I rfl (dz dl_Net_carry_0 12 22 (.ireturn) 1 rfl)) ⟨_, rfl, h⟩
  · replace h := h.2 a1 e1
    refine wp_aload_n (i := 3) (v := qr 3 r1) (dz dl_Net_carry_0 7 11 (.aload_n 3) 1 rfl) rfl rfl trivial ?_
    refine wp_getI a1 (dz dl_Net_carry_0 8 12 (.getfield 96) 3 rfl) lk_Net_96 kd_192 rfl e1 ?_
    refine wp_callS 0 [qi (gI g1 192 a1 0)] [] (dz dl_Net_carry_0 9 15 (.invokestatic 106) 3 rfl) ok_Net_isNode lm_Net_106 ws_Net_isNode ⟨Nat.le_of_ble_eq_true rfl, Nat.le_of_ble_eq_true rfl⟩ pn_Net_isNode (Nat.le_of_ble_eq_true rfl) (Nat.le_of_ble_eq_true rfl) (Or.inl rfl) (Nat.zero_le _) (mt_mono h ?_)
    rintro _ g2 ⟨r2, rfl, h⟩ y2
    replace h := h y2.1
    show nnWP _ _ _ _ _ [qi r2] _ _
    refine wp_if_ne (tgt := 23) (dz dl_Net_carry_0 10 18 (.ifCond .ne (5)) 3 rfl) (by decide) (fun hc => ?_) (fun hc => ?_)
    · replace h := h.1 hc
      refine wp_aload_n (i := 3) (v := qr 3 r1) (dz dl_Net_carry_0 13 23 (.aload_n 3) 1 rfl) rfl rfl trivial ?_
      refine wp_callV a1 0 [] [] (dz dl_Net_carry_0 14 24 (.invokevirtual 151) 3 rfl) ok_Face_first lm_Net_151 (by decide) ws_Face_first wv_Face_first ⟨Nat.le_of_ble_eq_true rfl, Nat.le_of_ble_eq_true rfl⟩ pn_Face_first (Nat.le_of_ble_eq_true rfl) (Nat.le_of_ble_eq_true rfl) e1 (Or.inl rfl) (Nat.zero_le _) (mt_mono h ?_)
      rintro _ g3 ⟨r3, rfl, h⟩ y3
      replace h := h y3.1
      show nnWP _ _ _ _ _ [qr 7 r3] _ _
      refine wp_astore (i := 4) (dz dl_Net_carry_0 15 27 (.astore 4) 2 rfl) [qr 0 (some l0), qi l1, qi l2, qr 3 r1, qr 7 r3] (by decide) trivial rfl ?_
      refine wp_aload (i := 4) (v := qr 7 r3) (dz dl_Net_carry_0 16 29 (.aload 4) 2 rfl) rfl trivial ?_
      refine wp_ifnonnull (tgt := 36) (dz dl_Net_carry_0 17 31 (.ifnonnull (5)) 3 rfl) (by decide) (fun a2 e2 => ?_) (fun hc => ?_)
      · replace h := h.2 a2 e2
        refine wp_aload_n (i := 3) (v := qr 3 r1) (dz dl_Net_carry_0 20 36 (.aload_n 3) 1 rfl) rfl rfl trivial ?_
        refine wp_callV a1 0 [] [] (dz dl_Net_carry_0 21 37 (.invokevirtual 155) 3 rfl) ok_Face_dropFirst lm_Net_155 (by decide) ws_Face_dropFirst wv_Face_dropFirst ⟨Nat.le_of_ble_eq_true rfl, Nat.le_of_ble_eq_true rfl⟩ pn_Face_dropFirst (Nat.le_of_ble_eq_true rfl) (Nat.le_of_ble_eq_true rfl) e1 (Or.inl rfl) (Nat.zero_le _) (mt_mono h ?_)
        rintro _ g4 ⟨rfl, h⟩ y4
        replace h := h y4.1
        show nnWP _ _ _ _ _ [] _ _
        refine wp_aload_n (i := 0) (v := qr 0 (some l0)) (dz dl_Net_carry_0 22 40 (.aload_n 0) 1 rfl) rfl rfl trivial ?_
        refine wp_aload_n (i := 0) (v := qr 0 (some l0)) (dz dl_Net_carry_0 23 41 (.aload_n 0) 1 rfl) rfl rfl trivial ?_
        obtain ⟨n1, h⟩ := h
        refine wp_getA l0 5 (dz dl_Net_carry_0 24 42 (.getfield 26) 3 rfl) lk_Net_26 (q := 1) kd_6 rfl rfl n1 ?_
        refine wp_aload_n (i := 3) (v := qr 3 r1) (dz dl_Net_carry_0 25 45 (.aload_n 3) 1 rfl) rfl rfl trivial ?_
        refine wp_getI a1 (dz dl_Net_carry_0 26 46 (.getfield 96) 3 rfl) lk_Net_96 kd_192 rfl e1 ?_
        obtain ⟨i1, h⟩ := h
        refine wp_aald 5 (dz dl_Net_carry_0 27 49 (.aaload) 1 rfl) kd_6 n1 i1 ?_
        refine wp_aload_n (i := 3) (v := qr 3 r1) (dz dl_Net_carry_0 28 50 (.aload_n 3) 1 rfl) rfl rfl trivial ?_
        refine wp_getI a1 (dz dl_Net_carry_0 29 51 (.getfield 99) 3 rfl) lk_Net_99 kd_193 rfl e1 ?_
        refine wp_aload (i := 4) (v := qr 7 r3) (dz dl_Net_carry_0 30 54 (.aload 4) 2 rfl) rfl trivial ?_
        obtain ⟨u1, h⟩ := h
        refine wp_callV l0 5 [qr 6 (gR g4 6 l0 (gI g4 192 a1 0).toNatClampNeg), qi (gI g4 193 a1 0), qr 7 r3] [] (dz dl_Net_carry_0 31 56 (.invokevirtual 158) 3 rfl) ok_Net_arrive lm_Net_158 (by decide) ws_Net_arrive wv_Net_arrive ⟨Nat.le_of_ble_eq_true rfl, Nat.le_of_ble_eq_true rfl⟩ pn_Net_arrive (Nat.le_of_ble_eq_true rfl) (Nat.le_of_ble_eq_true rfl) rfl (Or.inl rfl) u1 (mt_mono h ?_)
        rintro _ g5 ⟨rfl, h⟩ y5
        replace h := h y5.1
        show nnWP _ _ _ _ _ [] _ _
        refine wp_aload (i := 4) (v := qr 7 r3) (dz dl_Net_carry_0 32 59 (.aload 4) 2 rfl) rfl trivial ?_
        refine wp_getI a2 (dz dl_Net_carry_0 33 61 (.getfield 162) 3 rfl) lk_Net_162 kd_448 rfl e2 ?_
        exact wp_rt (qi _) (rt_I rfl (dz dl_Net_carry_0 34 64 (.ireturn) 1 rfl)) ⟨_, rfl, h⟩
      · replace h := h.1 hc
        refine wp_iconst (dz dl_Net_carry_0 18 34 (.iconst (-1)) 1 rfl) (v := (-1 : Int32)) (by decide) ?_
        exact wp_rt (qi _) (rt_I rfl (dz dl_Net_carry_0 19 35 (.ireturn) 1 rfl)) ⟨_, rfl, h⟩
    · replace h := h.2 hc
      refine wp_iconst (dz dl_Net_carry_0 11 21 (.iconst (-1)) 1 rfl) (v := (-1 : Int32)) (by decide) ?_
      exact wp_rt (qi _) (rt_I rfl (dz dl_Net_carry_0 12 22 (.ireturn) 1 rfl)) ⟨_, rfl, h⟩
theorem t_Net_carry {X : Nat × (Nat → Int32)} {k : Nat} {g : sg} {l0 : Nat} {l1 : Int32} {l2 : Int32} {Z : Int32 → sg → Prop} (h : nnMT X M_Net_linkFace 0 [qr 0 (some l0), qi l1, qi l2] g (zR 3 fun r1 g1 => gExt g g1 → (r1 = none → Z (-1 : Int32) g1) ∧ (∀ a1, r1 = some a1 → nnMT X M_Net_isNode 0 [qi (gI g1 192 a1 0)] g1 (zI fun r2 g2 => gExt g1 g2 → (¬ r2 = 0 → nnMT X M_Face_first 0 [qr 3 (some a1)] g2 (zR 7 fun r3 g3 => gExt g2 g3 → (r3 = none → Z (-1 : Int32) g3) ∧ (∀ a2, r3 = some a2 → nnMT X M_Face_dropFirst 0 [qr 3 (some a1)] g3 (zV fun g4 => gExt g3 g4 → gA g4 6 l0 = some 5 ∧ vp_in (gI g4 192 a1 0) 5 ∧ 5 ≤ k ∧ nnMT X M_Net_arrive 5 [qr 0 (some l0), qr 6 (gR g4 6 l0 (gI g4 192 a1 0).toNatClampNeg), qi (gI g4 193 a1 0), qr 7 r3] g4 (zV fun g5 => gExt g4 g5 → Z (gI g5 448 a2 0) g5))))) ∧ (r2 = 0 → Z (-1 : Int32) g2))))) : nnMT X M_Net_carry k [qr 0 (some l0), qi l1, qi l2] g (zI Z) := b_Net_carry_0 h

theorem b_Net_alter_0 {X : Nat × (Nat → Int32)} {k : Nat} {g : sg} {l0 : Nat} {l1 : Int32} {l2 : Int32} {l3 : Int32} {Z : Int32 → sg → Prop} (h : nnMT X M_Net_linkFace 0 [qr 0 (some l0), qi l1, qi l2] g (zR 3 fun r1 g1 => gExt g g1 → (r1 = none → Z (0 : Int32) g1) ∧ (∀ a1, r1 = some a1 → nnMT X M_Face_first 0 [qr 3 (some a1)] g1 (zR 7 fun r2 g2 => gExt g1 g2 → (r2 = none → Z (0 : Int32) g2) ∧ (∀ a2, r2 = some a2 → (l3 = 0 → nnMT X M_Face_dropFirst 0 [qr 3 (some a1)] g2 (zV fun g3 => gExt g2 g3 → Z (1 : Int32) g3)) ∧ (¬ l3 = 0 → nnMT X M_Face_first 0 [qr 3 (some a1)] g2 (zR 7 fun r3 g4 => gExt g2 g4 → nnMT X M_Face_put 0 [qr 3 (some a1), qr 7 r3] g4 (zI fun r4 g5 => gExt g4 g5 → (r4 = 0 ∨ r4 = 1) ∧ Z r4 g5)))))))) : nnWP X M_Net_alter k 0 [qr 0 (some l0), qi l1, qi l2, qi l3, none] [] g (zI Z) := by
  refine wp_aload_n (i := 0) (v := qr 0 (some l0)) (dz dl_Net_alter_0 0 0 (.aload_n 0) 1 rfl) rfl rfl trivial ?_
  refine wp_iload_n (i := 1) (x := l1) (dz dl_Net_alter_0 1 1 (.iload_n 1) 1 rfl) rfl rfl ?_
  refine wp_iload_n (i := 2) (x := l2) (dz dl_Net_alter_0 2 2 (.iload_n 2) 1 rfl) rfl rfl ?_
  refine wp_callV l0 0 [qi l1, qi l2] [] (dz dl_Net_alter_0 3 3 (.invokevirtual 78) 3 rfl) ok_Net_linkFace lm_Net_78 (by decide) ws_Net_linkFace wv_Net_linkFace ⟨Nat.le_of_ble_eq_true rfl, Nat.le_of_ble_eq_true rfl⟩ pn_Net_linkFace (Nat.le_of_ble_eq_true rfl) (Nat.le_of_ble_eq_true rfl) rfl (Or.inl rfl) (Nat.zero_le _) (mt_mono h ?_)
  rintro _ g1 ⟨r1, rfl, h⟩ y1
  replace h := h y1.1
  show nnWP _ _ _ _ _ [qr 3 r1] _ _
  refine wp_astore (i := 4) (dz dl_Net_alter_0 4 6 (.astore 4) 2 rfl) [qr 0 (some l0), qi l1, qi l2, qi l3, qr 3 r1] (by decide) trivial rfl ?_
  refine wp_aload (i := 4) (v := qr 3 r1) (dz dl_Net_alter_0 5 8 (.aload 4) 2 rfl) rfl trivial ?_
  refine wp_ifnull (tgt := 21) (dz dl_Net_alter_0 6 10 (.ifnull (11)) 3 rfl) (by decide) (fun hc => ?_) (fun a1 e1 => ?_)
  · replace h := h.1 hc
    refine wp_iconst (dz dl_Net_alter_0 10 21 (.iconst (0)) 1 rfl) (v := (0 : Int32)) (by decide) ?_
    exact wp_rt (qi _) (rt_Z rfl (Or.inl rfl) (dz dl_Net_alter_0 11 22 (.ireturn) 1 rfl)) ⟨_, rfl, h⟩
  · replace h := h.2 a1 e1
    refine wp_aload (i := 4) (v := qr 3 r1) (dz dl_Net_alter_0 7 13 (.aload 4) 2 rfl) rfl trivial ?_
    refine wp_callV a1 0 [] [] (dz dl_Net_alter_0 8 15 (.invokevirtual 151) 3 rfl) ok_Face_first lm_Net_151 (by decide) ws_Face_first wv_Face_first ⟨Nat.le_of_ble_eq_true rfl, Nat.le_of_ble_eq_true rfl⟩ pn_Face_first (Nat.le_of_ble_eq_true rfl) (Nat.le_of_ble_eq_true rfl) e1 (Or.inl rfl) (Nat.zero_le _) (mt_mono h ?_)
    rintro _ g2 ⟨r2, rfl, h⟩ y2
    replace h := h y2.1
    show nnWP _ _ _ _ _ [qr 7 r2] _ _
    refine wp_ifnonnull (tgt := 23) (dz dl_Net_alter_0 9 18 (.ifnonnull (5)) 3 rfl) (by decide) (fun a2 e2 => ?_) (fun hc => ?_)
    · replace h := h.2 a2 e2
      refine wp_iload_n (i := 3) (x := l3) (dz dl_Net_alter_0 12 23 (.iload_n 3) 1 rfl) rfl rfl ?_
      refine wp_if_eq (tgt := 38) (dz dl_Net_alter_0 13 24 (.ifCond .eq (14)) 3 rfl) (by decide) (fun hc => ?_) (fun hc => ?_)
      · replace h := h.1 hc
        refine wp_aload (i := 4) (v := qr 3 r1) (dz dl_Net_alter_0 19 38 (.aload 4) 2 rfl) rfl trivial ?_
        refine wp_callV a1 0 [] [] (dz dl_Net_alter_0 20 40 (.invokevirtual 155) 3 rfl) ok_Face_dropFirst lm_Net_155 (by decide) ws_Face_dropFirst wv_Face_dropFirst ⟨Nat.le_of_ble_eq_true rfl, Nat.le_of_ble_eq_true rfl⟩ pn_Face_dropFirst (Nat.le_of_ble_eq_true rfl) (Nat.le_of_ble_eq_true rfl) e1 (Or.inl rfl) (Nat.zero_le _) (mt_mono h ?_)
        rintro _ g3 ⟨rfl, h⟩ y3
        replace h := h y3.1
        show nnWP _ _ _ _ _ [] _ _
        refine wp_iconst (dz dl_Net_alter_0 21 43 (.iconst (1)) 1 rfl) (v := (1 : Int32)) (by decide) ?_
        exact wp_rt (qi _) (rt_Z rfl (Or.inr rfl) (dz dl_Net_alter_0 22 44 (.ireturn) 1 rfl)) ⟨_, rfl, h⟩
      · replace h := h.2 hc
        refine wp_aload (i := 4) (v := qr 3 r1) (dz dl_Net_alter_0 14 27 (.aload 4) 2 rfl) rfl trivial ?_
        refine wp_aload (i := 4) (v := qr 3 r1) (dz dl_Net_alter_0 15 29 (.aload 4) 2 rfl) rfl trivial ?_
        refine wp_callV a1 0 [] [qr 3 r1] (dz dl_Net_alter_0 16 31 (.invokevirtual 151) 3 rfl) ok_Face_first lm_Net_151 (by decide) ws_Face_first wv_Face_first ⟨Nat.le_of_ble_eq_true rfl, Nat.le_of_ble_eq_true rfl⟩ pn_Face_first (Nat.le_of_ble_eq_true rfl) (Nat.le_of_ble_eq_true rfl) e1 (Or.inl rfl) (Nat.zero_le _) (mt_mono h ?_)
        rintro _ g4 ⟨r3, rfl, h⟩ y4
        replace h := h y4.1
        show nnWP _ _ _ _ _ [qr 7 r3, qr 3 r1] _ _
        refine wp_callV a1 0 [qr 7 r3] [] (dz dl_Net_alter_0 17 34 (.invokevirtual 165) 3 rfl) ok_Face_put lm_Net_165 (by decide) ws_Face_put wv_Face_put ⟨Nat.le_of_ble_eq_true rfl, Nat.le_of_ble_eq_true rfl⟩ pn_Face_put (Nat.le_of_ble_eq_true rfl) (Nat.le_of_ble_eq_true rfl) e1 (Or.inl rfl) (Nat.zero_le _) (mt_mono h ?_)
        rintro _ g5 ⟨r4, rfl, h⟩ y5
        replace h := h y5.1
        show nnWP _ _ _ _ _ [qi r4] _ _
        exact wp_rt (qi _) (rt_Z rfl h.1 (dz dl_Net_alter_0 18 37 (.ireturn) 1 rfl)) ⟨_, rfl, h.2⟩
    · replace h := h.1 hc
      refine wp_iconst (dz dl_Net_alter_0 10 21 (.iconst (0)) 1 rfl) (v := (0 : Int32)) (by decide) ?_
      exact wp_rt (qi _) (rt_Z rfl (Or.inl rfl) (dz dl_Net_alter_0 11 22 (.ireturn) 1 rfl)) ⟨_, rfl, h⟩
theorem t_Net_alter {X : Nat × (Nat → Int32)} {k : Nat} {g : sg} {l0 : Nat} {l1 : Int32} {l2 : Int32} {l3 : Int32} {Z : Int32 → sg → Prop} (h : nnMT X M_Net_linkFace 0 [qr 0 (some l0), qi l1, qi l2] g (zR 3 fun r1 g1 => gExt g g1 → (r1 = none → Z (0 : Int32) g1) ∧ (∀ a1, r1 = some a1 → nnMT X M_Face_first 0 [qr 3 (some a1)] g1 (zR 7 fun r2 g2 => gExt g1 g2 → (r2 = none → Z (0 : Int32) g2) ∧ (∀ a2, r2 = some a2 → (l3 = 0 → nnMT X M_Face_dropFirst 0 [qr 3 (some a1)] g2 (zV fun g3 => gExt g2 g3 → Z (1 : Int32) g3)) ∧ (¬ l3 = 0 → nnMT X M_Face_first 0 [qr 3 (some a1)] g2 (zR 7 fun r3 g4 => gExt g2 g4 → nnMT X M_Face_put 0 [qr 3 (some a1), qr 7 r3] g4 (zI fun r4 g5 => gExt g4 g5 → (r4 = 0 ∨ r4 = 1) ∧ Z r4 g5)))))))) : nnMT X M_Net_alter k [qr 0 (some l0), qi l1, qi l2, qi l3] g (zI Z) := b_Net_alter_0 h

theorem b_Net_tick_0 {X : Nat × (Nat → Int32)} {k : Nat} {g : sg} {l0 : Nat} {Z : Int32 → sg → Prop} (h : ∀ g1, g1 = pI g 1 l0 0 ((gI g 1 l0 0) + (1 : Int32)) → nnWP X M_Net_tick k 14 [qr 0 (some l0), qi (0 : Int32), qi (0 : Int32), none] [] g1 (zI Z)) : nnWP X M_Net_tick k 0 [qr 0 (some l0), none, none, none] [] g (zI Z) := by
  refine wp_aload_n (i := 0) (v := qr 0 (some l0)) (dz dl_Net_tick_0 0 0 (.aload_n 0) 1 rfl) rfl rfl trivial ?_
  refine wp_dup (dz dl_Net_tick_0 1 1 (.dup) 1 rfl) ?_
  refine wp_getI l0 (dz dl_Net_tick_0 2 2 (.getfield 169) 3 rfl) lk_Net_169 kd_1 rfl rfl ?_
  refine wp_iconst (dz dl_Net_tick_0 3 5 (.iconst (1)) 1 rfl) (v := (1 : Int32)) (by decide) ?_
  refine wp_iadd (dz dl_Net_tick_0 4 6 (.iadd) 1 rfl) ?_
  have h := h _ rfl
  refine wp_putI l0 (dz dl_Net_tick_0 5 7 (.putfield 169) 3 rfl) lk_Net_169 kd_1 rfl rfl rfl (okI_0 _) rfl ?_
  refine wp_iconst (dz dl_Net_tick_0 6 10 (.iconst (0)) 1 rfl) (v := (0 : Int32)) (by decide) ?_
  refine wp_istore_n (i := 1) (dz dl_Net_tick_0 7 11 (.istore_n 1) 1 rfl) rfl [qr 0 (some l0), qi (0 : Int32), none, none] (by decide) rfl ?_
  refine wp_iconst (dz dl_Net_tick_0 8 12 (.iconst (0)) 1 rfl) (v := (0 : Int32)) (by decide) ?_
  refine wp_istore_n (i := 2) (dz dl_Net_tick_0 9 13 (.istore_n 2) 1 rfl) rfl [qr 0 (some l0), qi (0 : Int32), qi (0 : Int32), none] (by decide) rfl ?_
  exact wp_cut h ⟨Or.inr rfl, Or.inr rfl, Or.inr rfl, Or.inl rfl, trivial⟩
theorem t_Net_tick {X : Nat × (Nat → Int32)} {k : Nat} {g : sg} {l0 : Nat} {Z : Int32 → sg → Prop} (h : ∀ g1, g1 = pI g 1 l0 0 ((gI g 1 l0 0) + (1 : Int32)) → nnWP X M_Net_tick k 14 [qr 0 (some l0), qi (0 : Int32), qi (0 : Int32), none] [] g1 (zI Z)) : nnMT X M_Net_tick k [qr 0 (some l0)] g (zI Z) := b_Net_tick_0 h

theorem b_Net_tick_14 {X : Nat × (Nat → Int32)} {k : Nat} {g : sg} {l0 : Nat} {l1 : Int32} {l2 : Int32} {Z : Int32 → sg → Prop} (h : ((5 : Int32) ≤ l2 → nnWP X M_Net_tick k 46 [qr 0 (some l0), qi l1, qi (0 : Int32), none] [] g (zI Z)) ∧ (¬ (5 : Int32) ≤ l2 → gA g 6 l0 = some 5 ∧ vp_in l2 5 ∧ ∃ a1, gR g 6 l0 l2.toNatClampNeg = some a1 ∧ ∃ a2, gR g 388 a1 0 = some a2 ∧ nnMT X M_Pending_dropEnded 0 [qr 8 (some a2), qi (gI g 1 l0 0)] g (zI fun r1 g1 => gExt g g1 → nnWP X M_Net_tick k 14 [qr 0 (some l0), qi (l1 + r1), qi (l2 + 1), none] [] g1 (zI Z)))) : nnWP X M_Net_tick k 14 [qr 0 (some l0), qi l1, qi l2, none] [] g (zI Z) := by
  refine wp_iload_n (i := 2) (x := l2) (dz dl_Net_tick_0 10 14 (.iload_n 2) 1 rfl) rfl rfl ?_
  refine wp_iconst (dz dl_Net_tick_0 11 15 (.iconst (5)) 1 rfl) (v := (5 : Int32)) (by decide) ?_
  refine wp_icmp_ge (tgt := 44) (dz dl_Net_tick_0 12 16 (.if_icmp .ge (28)) 3 rfl) (by decide) (fun hc => ?_) (fun hc => ?_)
  · replace h := h.1 hc
    refine wp_iconst (dz dl_Net_tick_0 26 44 (.iconst (0)) 1 rfl) (v := (0 : Int32)) (by decide) ?_
    refine wp_istore_n (i := 2) (dz dl_Net_tick_0 27 45 (.istore_n 2) 1 rfl) rfl [qr 0 (some l0), qi l1, qi (0 : Int32), none] (by decide) rfl ?_
    exact wp_cut h ⟨Or.inr rfl, Or.inr rfl, Or.inr rfl, Or.inl rfl, trivial⟩
  · replace h := h.2 hc
    refine wp_iload_n (i := 1) (x := l1) (dz dl_Net_tick_0 13 19 (.iload_n 1) 1 rfl) rfl rfl ?_
    refine wp_aload_n (i := 0) (v := qr 0 (some l0)) (dz dl_Net_tick_0 14 20 (.aload_n 0) 1 rfl) rfl rfl trivial ?_
    obtain ⟨n1, h⟩ := h
    refine wp_getA l0 5 (dz dl_Net_tick_0 15 21 (.getfield 26) 3 rfl) lk_Net_26 (q := 1) kd_6 rfl rfl n1 ?_
    refine wp_iload_n (i := 2) (x := l2) (dz dl_Net_tick_0 16 24 (.iload_n 2) 1 rfl) rfl rfl ?_
    obtain ⟨i1, h⟩ := h
    refine wp_aald 5 (dz dl_Net_tick_0 17 25 (.aaload) 1 rfl) kd_6 n1 i1 ?_
    obtain ⟨a1, e1, h⟩ := h
    refine wp_getR a1 (dz dl_Net_tick_0 18 26 (.getfield 172) 3 rfl) lk_Net_172 kd_388 rfl e1 ?_
    refine wp_aload_n (i := 0) (v := qr 0 (some l0)) (dz dl_Net_tick_0 19 29 (.aload_n 0) 1 rfl) rfl rfl trivial ?_
    refine wp_getI l0 (dz dl_Net_tick_0 20 30 (.getfield 169) 3 rfl) lk_Net_169 kd_1 rfl rfl ?_
    obtain ⟨a2, e2, h⟩ := h
    refine wp_callV a2 0 [qi (gI g 1 l0 0)] [qi l1] (dz dl_Net_tick_0 21 33 (.invokevirtual 176) 3 rfl) ok_Pending_dropEnded lm_Net_176 (by decide) ws_Pending_dropEnded wv_Pending_dropEnded ⟨Nat.le_of_ble_eq_true rfl, Nat.le_of_ble_eq_true rfl⟩ pn_Pending_dropEnded (Nat.le_of_ble_eq_true rfl) (Nat.le_of_ble_eq_true rfl) e2 (Or.inl rfl) (Nat.zero_le _) (mt_mono h ?_)
    rintro _ g1 ⟨r1, rfl, h⟩ y1
    replace h := h y1.1
    show nnWP _ _ _ _ _ [qi r1, qi l1] _ _
    refine wp_iadd (dz dl_Net_tick_0 22 36 (.iadd) 1 rfl) ?_
    refine wp_istore_n (i := 1) (dz dl_Net_tick_0 23 37 (.istore_n 1) 1 rfl) rfl [qr 0 (some l0), qi (l1 + r1), qi l2, none] (by decide) rfl ?_
    refine wp_iinc (i := 2) (v := l2 + 1) (dz dl_Net_tick_0 24 38 (.iinc 2 (1)) 3 rfl) rfl (congrArg (fun z => l2 + z) (by decide)) [qr 0 (some l0), qi (l1 + r1), qi (l2 + 1), none] (by decide) rfl ?_
    refine wp_goto (tgt := 14) (dz dl_Net_tick_0 25 41 (.goto (-27)) 3 rfl) (by decide) ?_
    exact wp_cut h ⟨Or.inr rfl, Or.inr rfl, Or.inr rfl, Or.inl rfl, trivial⟩

theorem b_Net_tick_46 {X : Nat × (Nat → Int32)} {k : Nat} {g : sg} {l0 : Nat} {l1 : Int32} {l2 : Int32} {Z : Int32 → sg → Prop} (h : ((gI g 10 l0 0) ≤ l2 → Z l1 g) ∧ (¬ (gI g 10 l0 0) ≤ l2 → gA g 9 l0 = some 120 ∧ vp_in l2 120 ∧ ∃ a1, gR g 9 l0 l2.toNatClampNeg = some a1 ∧ (¬ (gI g 580 a1 0) = 0 → nnWP X M_Net_tick k 46 [qr 0 (some l0), qi l1, qi (l2 + 1), none] [] g (zI Z)) ∧ ((gI g 580 a1 0) = 0 → (((gI g 1 l0 0) - (gI g 579 a1 0)) < (gI g 0 l0 0) → nnWP X M_Net_tick k 46 [qr 0 (some l0), qi l1, qi (l2 + 1), none] [] g (zI Z)) ∧ (¬ ((gI g 1 l0 0) - (gI g 579 a1 0)) < (gI g 0 l0 0) → ∀ g1, g1 = pI g 580 a1 0 (3 : Int32) → nnWP X M_Net_tick k 46 [qr 0 (some l0), qi l1, qi (l2 + 1), none] [] g1 (zI Z))))) : nnWP X M_Net_tick k 46 [qr 0 (some l0), qi l1, qi l2, none] [] g (zI Z) := by
  refine wp_iload_n (i := 2) (x := l2) (dz dl_Net_tick_0 28 46 (.iload_n 2) 1 rfl) rfl rfl ?_
  refine wp_aload_n (i := 0) (v := qr 0 (some l0)) (dz dl_Net_tick_0 29 47 (.aload_n 0) 1 rfl) rfl rfl trivial ?_
  refine wp_getI l0 (dz dl_Net_tick_0 30 48 (.getfield 181) 3 rfl) lk_Net_181 kd_10 rfl rfl ?_
  refine wp_icmp_ge (tgt := 95) (dz dl_Net_tick_0 31 51 (.if_icmp .ge (44)) 3 rfl) (by decide) (fun hc => ?_) (fun hc => ?_)
  · replace h := h.1 hc
    refine wp_iload_n (i := 1) (x := l1) (dz dl_Net_tick_1 13 95 (.iload_n 1) 1 rfl) rfl rfl ?_
    exact wp_rt (qi _) (rt_I rfl (dz dl_Net_tick_1 14 96 (.ireturn) 1 rfl)) ⟨_, rfl, h⟩
  · replace h := h.2 hc
    refine wp_aload_n (i := 0) (v := qr 0 (some l0)) (dz dl_Net_tick_0 32 54 (.aload_n 0) 1 rfl) rfl rfl trivial ?_
    obtain ⟨n1, h⟩ := h
    refine wp_getA l0 120 (dz dl_Net_tick_0 33 55 (.getfield 41) 3 rfl) lk_Net_41 (q := 1) kd_9 rfl rfl n1 ?_
    refine wp_iload_n (i := 2) (x := l2) (dz dl_Net_tick_0 34 58 (.iload_n 2) 1 rfl) rfl rfl ?_
    obtain ⟨i1, h⟩ := h
    refine wp_aald 120 (dz dl_Net_tick_0 35 59 (.aaload) 1 rfl) kd_9 n1 i1 ?_
    refine wp_astore_n (i := 3) (dz dl_Net_tick_0 36 60 (.astore_n 3) 1 rfl) rfl [qr 0 (some l0), qi l1, qi l2, qr 9 (gR g 9 l0 l2.toNatClampNeg)] (by decide) trivial rfl ?_
    refine wp_aload_n (i := 3) (v := qr 9 (gR g 9 l0 l2.toNatClampNeg)) (dz dl_Net_tick_0 37 61 (.aload_n 3) 1 rfl) rfl rfl trivial ?_
    obtain ⟨a1, e1, h⟩ := h
    refine wp_getI a1 (dz dl_Net_tick_0 38 62 (.getfield 184) 3 rfl) lk_Net_184 kd_580 rfl e1 ?_
    refine wp_if_ne (tgt := 89) (dz dl_Net_tick_0 39 65 (.ifCond .ne (24)) 3 rfl) (by decide) (fun hc => ?_) (fun hc => ?_)
    · replace h := h.1 hc
      refine wp_iinc (i := 2) (v := l2 + 1) (dz dl_Net_tick_1 11 89 (.iinc 2 (1)) 3 rfl) rfl (congrArg (fun z => l2 + z) (by decide)) [qr 0 (some l0), qi l1, qi (l2 + 1), qr 9 (gR g 9 l0 l2.toNatClampNeg)] (by decide) rfl ?_
      refine wp_goto (tgt := 46) (dz dl_Net_tick_1 12 92 (.goto (-46)) 3 rfl) (by decide) ?_
      exact wp_cut h ⟨Or.inr rfl, Or.inr rfl, Or.inr rfl, Or.inl rfl, trivial⟩
    · replace h := h.2 hc
      refine wp_aload_n (i := 0) (v := qr 0 (some l0)) (dz dl_Net_tick_1 0 68 (.aload_n 0) 1 rfl) rfl rfl trivial ?_
      refine wp_getI l0 (dz dl_Net_tick_1 1 69 (.getfield 169) 3 rfl) lk_Net_169 kd_1 rfl rfl ?_
      refine wp_aload_n (i := 3) (v := qr 9 (gR g 9 l0 l2.toNatClampNeg)) (dz dl_Net_tick_1 2 72 (.aload_n 3) 1 rfl) rfl rfl trivial ?_
      refine wp_getI a1 (dz dl_Net_tick_1 3 73 (.getfield 187) 3 rfl) lk_Net_187 kd_579 rfl e1 ?_
      refine wp_isub (dz dl_Net_tick_1 4 76 (.isub) 1 rfl) ?_
      refine wp_aload_n (i := 0) (v := qr 0 (some l0)) (dz dl_Net_tick_1 5 77 (.aload_n 0) 1 rfl) rfl rfl trivial ?_
      refine wp_getI l0 (dz dl_Net_tick_1 6 78 (.getfield 49) 3 rfl) lk_Net_49 kd_0 rfl rfl ?_
      refine wp_icmp_lt (tgt := 89) (dz dl_Net_tick_1 7 81 (.if_icmp .lt (8)) 3 rfl) (by decide) (fun hc => ?_) (fun hc => ?_)
      · replace h := h.1 hc
        refine wp_iinc (i := 2) (v := l2 + 1) (dz dl_Net_tick_1 11 89 (.iinc 2 (1)) 3 rfl) rfl (congrArg (fun z => l2 + z) (by decide)) [qr 0 (some l0), qi l1, qi (l2 + 1), qr 9 (gR g 9 l0 l2.toNatClampNeg)] (by decide) rfl ?_
        refine wp_goto (tgt := 46) (dz dl_Net_tick_1 12 92 (.goto (-46)) 3 rfl) (by decide) ?_
        exact wp_cut h ⟨Or.inr rfl, Or.inr rfl, Or.inr rfl, Or.inl rfl, trivial⟩
      · replace h := h.2 hc
        refine wp_aload_n (i := 3) (v := qr 9 (gR g 9 l0 l2.toNatClampNeg)) (dz dl_Net_tick_1 8 84 (.aload_n 3) 1 rfl) rfl rfl trivial ?_
        refine wp_iconst (dz dl_Net_tick_1 9 85 (.iconst (3)) 1 rfl) (v := (3 : Int32)) (by decide) ?_
        have h := h _ rfl
        refine wp_putI a1 (dz dl_Net_tick_1 10 86 (.putfield 184) 3 rfl) lk_Net_184 kd_580 rfl rfl e1 (okI_0 _) rfl ?_
        refine wp_iinc (i := 2) (v := l2 + 1) (dz dl_Net_tick_1 11 89 (.iinc 2 (1)) 3 rfl) rfl (congrArg (fun z => l2 + z) (by decide)) [qr 0 (some l0), qi l1, qi (l2 + 1), qr 9 (gR g 9 l0 l2.toNatClampNeg)] (by decide) rfl ?_
        refine wp_goto (tgt := 46) (dz dl_Net_tick_1 12 92 (.goto (-46)) 3 rfl) (by decide) ?_
        exact wp_cut h ⟨Or.inr rfl, Or.inr rfl, Or.inr rfl, Or.inl rfl, trivial⟩

theorem b_Net_fetch_0 {X : Nat × (Nat → Int32)} {k : Nat} {g : sg} {l0 : Nat} {l1 : Int32} {l2 : Int32} {l3 : Int32} {l4 : Int32} {Z : Int32 → sg → Prop} (h : nnMT X M_Net_isNode 0 [qi l1] g (zI fun r1 g1 => gExt g g1 → (r1 = 0 → Z (0 : Int32) g1) ∧ (¬ r1 = 0 → ∃ a1, gR g1 5 l0 0 = some a1 ∧ nnMT X M_Names_has 0 [qr 5 (some a1), qi l2] g1 (zI fun r2 g2 => gExt g1 g2 → (r2 = 0 → Z (0 : Int32) g2) ∧ (¬ r2 = 0 → (l3 < (1 : Int32) → Z (0 : Int32) g2) ∧ (¬ l3 < (1 : Int32) → ((10 : Int32) < l3 → Z (0 : Int32) g2) ∧ (¬ (10 : Int32) < l3 → (l4 < (1 : Int32) → Z (0 : Int32) g2) ∧ (¬ l4 < (1 : Int32) → ((4 : Int32) < l4 → Z (0 : Int32) g2) ∧ (¬ (4 : Int32) < l4 → ∃ a2, gR g2 5 l0 0 = some a2 ∧ nnMT X M_Names_lengthOf 0 [qr 5 (some a2), qi l2] g2 (zI fun r3 g3 => gExt g2 g3 → (r3 < (4 : Int32) → nnWP X M_Net_fetch k 61 [qr 0 (some l0), qi l1, qi l2, qi l3, qi l4, qi (0 : Int32), qi (0 : Int32), none] [] g3 (zI Z)) ∧ (¬ r3 < (4 : Int32) → Z (0 : Int32) g3))))))))))) : nnWP X M_Net_fetch k 0 [qr 0 (some l0), qi l1, qi l2, qi l3, qi l4, none, none, none] [] g (zI Z) := by
  refine wp_iload_n (i := 1) (x := l1) (dz dl_Net_fetch_0 0 0 (.iload_n 1) 1 rfl) rfl rfl ?_
  refine wp_callS 0 [qi l1] [] (dz dl_Net_fetch_0 1 1 (.invokestatic 106) 3 rfl) ok_Net_isNode lm_Net_106 ws_Net_isNode ⟨Nat.le_of_ble_eq_true rfl, Nat.le_of_ble_eq_true rfl⟩ pn_Net_isNode (Nat.le_of_ble_eq_true rfl) (Nat.le_of_ble_eq_true rfl) (Or.inl rfl) (Nat.zero_le _) (mt_mono h ?_)
  rintro _ g1 ⟨r1, rfl, h⟩ y1
  replace h := h y1.1
  show nnWP _ _ _ _ _ [qi r1] _ _
  refine wp_if_eq (tgt := 53) (dz dl_Net_fetch_0 2 4 (.ifCond .eq (49)) 3 rfl) (by decide) (fun hc => ?_) (fun hc => ?_)
  · replace h := h.1 hc
    refine wp_iconst (dz dl_Net_fetch_0 26 53 (.iconst (0)) 1 rfl) (v := (0 : Int32)) (by decide) ?_
    exact wp_rt (qi _) (rt_Z rfl (Or.inl rfl) (dz dl_Net_fetch_0 27 54 (.ireturn) 1 rfl)) ⟨_, rfl, h⟩
  · replace h := h.2 hc
    refine wp_aload_n (i := 0) (v := qr 0 (some l0)) (dz dl_Net_fetch_0 3 7 (.aload_n 0) 1 rfl) rfl rfl trivial ?_
    refine wp_getR l0 (dz dl_Net_fetch_0 4 8 (.getfield 20) 3 rfl) lk_Net_20 kd_5 rfl rfl ?_
    refine wp_iload_n (i := 2) (x := l2) (dz dl_Net_fetch_0 5 11 (.iload_n 2) 1 rfl) rfl rfl ?_
    obtain ⟨a1, e1, h⟩ := h
    refine wp_callV a1 0 [qi l2] [] (dz dl_Net_fetch_0 6 12 (.invokevirtual 109) 3 rfl) ok_Names_has lm_Net_109 (by decide) ws_Names_has wv_Names_has ⟨Nat.le_of_ble_eq_true rfl, Nat.le_of_ble_eq_true rfl⟩ pn_Names_has (Nat.le_of_ble_eq_true rfl) (Nat.le_of_ble_eq_true rfl) e1 (Or.inl rfl) (Nat.zero_le _) (mt_mono h ?_)
    rintro _ g2 ⟨r2, rfl, h⟩ y2
    replace h := h y2.1
    show nnWP _ _ _ _ _ [qi r2] _ _
    refine wp_if_eq (tgt := 53) (dz dl_Net_fetch_0 7 15 (.ifCond .eq (38)) 3 rfl) (by decide) (fun hc => ?_) (fun hc => ?_)
    · replace h := h.1 hc
      refine wp_iconst (dz dl_Net_fetch_0 26 53 (.iconst (0)) 1 rfl) (v := (0 : Int32)) (by decide) ?_
      exact wp_rt (qi _) (rt_Z rfl (Or.inl rfl) (dz dl_Net_fetch_0 27 54 (.ireturn) 1 rfl)) ⟨_, rfl, h⟩
    · replace h := h.2 hc
      refine wp_iload_n (i := 3) (x := l3) (dz dl_Net_fetch_0 8 18 (.iload_n 3) 1 rfl) rfl rfl ?_
      refine wp_iconst (dz dl_Net_fetch_0 9 19 (.iconst (1)) 1 rfl) (v := (1 : Int32)) (by decide) ?_
      refine wp_icmp_lt (tgt := 53) (dz dl_Net_fetch_0 10 20 (.if_icmp .lt (33)) 3 rfl) (by decide) (fun hc => ?_) (fun hc => ?_)
      · replace h := h.1 hc
        refine wp_iconst (dz dl_Net_fetch_0 26 53 (.iconst (0)) 1 rfl) (v := (0 : Int32)) (by decide) ?_
        exact wp_rt (qi _) (rt_Z rfl (Or.inl rfl) (dz dl_Net_fetch_0 27 54 (.ireturn) 1 rfl)) ⟨_, rfl, h⟩
      · replace h := h.2 hc
        refine wp_iload_n (i := 3) (x := l3) (dz dl_Net_fetch_0 11 23 (.iload_n 3) 1 rfl) rfl rfl ?_
        refine wp_bipush (dz dl_Net_fetch_0 12 24 (.bipush (10)) 2 rfl) (v := (10 : Int32)) (by decide) ?_
        refine wp_icmp_gt (tgt := 53) (dz dl_Net_fetch_0 13 26 (.if_icmp .gt (27)) 3 rfl) (by decide) (fun hc => ?_) (fun hc => ?_)
        · replace h := h.1 hc
          refine wp_iconst (dz dl_Net_fetch_0 26 53 (.iconst (0)) 1 rfl) (v := (0 : Int32)) (by decide) ?_
          exact wp_rt (qi _) (rt_Z rfl (Or.inl rfl) (dz dl_Net_fetch_0 27 54 (.ireturn) 1 rfl)) ⟨_, rfl, h⟩
        · replace h := h.2 hc
          refine wp_iload (i := 4) (x := l4) (dz dl_Net_fetch_0 14 29 (.iload 4) 2 rfl) rfl ?_
          refine wp_iconst (dz dl_Net_fetch_0 15 31 (.iconst (1)) 1 rfl) (v := (1 : Int32)) (by decide) ?_
          refine wp_icmp_lt (tgt := 53) (dz dl_Net_fetch_0 16 32 (.if_icmp .lt (21)) 3 rfl) (by decide) (fun hc => ?_) (fun hc => ?_)
          · replace h := h.1 hc
            refine wp_iconst (dz dl_Net_fetch_0 26 53 (.iconst (0)) 1 rfl) (v := (0 : Int32)) (by decide) ?_
            exact wp_rt (qi _) (rt_Z rfl (Or.inl rfl) (dz dl_Net_fetch_0 27 54 (.ireturn) 1 rfl)) ⟨_, rfl, h⟩
          · replace h := h.2 hc
            refine wp_iload (i := 4) (x := l4) (dz dl_Net_fetch_0 17 35 (.iload 4) 2 rfl) rfl ?_
            refine wp_iconst (dz dl_Net_fetch_0 18 37 (.iconst (4)) 1 rfl) (v := (4 : Int32)) (by decide) ?_
            refine wp_icmp_gt (tgt := 53) (dz dl_Net_fetch_0 19 38 (.if_icmp .gt (15)) 3 rfl) (by decide) (fun hc => ?_) (fun hc => ?_)
            · replace h := h.1 hc
              refine wp_iconst (dz dl_Net_fetch_0 26 53 (.iconst (0)) 1 rfl) (v := (0 : Int32)) (by decide) ?_
              exact wp_rt (qi _) (rt_Z rfl (Or.inl rfl) (dz dl_Net_fetch_0 27 54 (.ireturn) 1 rfl)) ⟨_, rfl, h⟩
            · replace h := h.2 hc
              refine wp_aload_n (i := 0) (v := qr 0 (some l0)) (dz dl_Net_fetch_0 20 41 (.aload_n 0) 1 rfl) rfl rfl trivial ?_
              refine wp_getR l0 (dz dl_Net_fetch_0 21 42 (.getfield 20) 3 rfl) lk_Net_20 kd_5 rfl rfl ?_
              refine wp_iload_n (i := 2) (x := l2) (dz dl_Net_fetch_0 22 45 (.iload_n 2) 1 rfl) rfl rfl ?_
              obtain ⟨a2, e2, h⟩ := h
              refine wp_callV a2 0 [qi l2] [] (dz dl_Net_fetch_0 23 46 (.invokevirtual 190) 3 rfl) ok_Names_lengthOf lm_Net_190 (by decide) ws_Names_lengthOf wv_Names_lengthOf ⟨Nat.le_of_ble_eq_true rfl, Nat.le_of_ble_eq_true rfl⟩ pn_Names_lengthOf (Nat.le_of_ble_eq_true rfl) (Nat.le_of_ble_eq_true rfl) e2 (Or.inl rfl) (Nat.zero_le _) (mt_mono h ?_)
              rintro _ g3 ⟨r3, rfl, h⟩ y3
              replace h := h y3.1
              show nnWP _ _ _ _ _ [qi r3] _ _
              refine wp_iconst (dz dl_Net_fetch_0 24 49 (.iconst (4)) 1 rfl) (v := (4 : Int32)) (by decide) ?_
              refine wp_icmp_lt (tgt := 55) (dz dl_Net_fetch_0 25 50 (.if_icmp .lt (5)) 3 rfl) (by decide) (fun hc => ?_) (fun hc => ?_)
              · replace h := h.1 hc
                refine wp_iconst (dz dl_Net_fetch_0 28 55 (.iconst (0)) 1 rfl) (v := (0 : Int32)) (by decide) ?_
                refine wp_istore (i := 5) (dz dl_Net_fetch_0 29 56 (.istore 5) 2 rfl) [qr 0 (some l0), qi l1, qi l2, qi l3, qi l4, qi (0 : Int32), none, none] (by decide) rfl ?_
                refine wp_iconst (dz dl_Net_fetch_0 30 58 (.iconst (0)) 1 rfl) (v := (0 : Int32)) (by decide) ?_
                refine wp_istore (i := 6) (dz dl_Net_fetch_0 31 59 (.istore 6) 2 rfl) [qr 0 (some l0), qi l1, qi l2, qi l3, qi l4, qi (0 : Int32), qi (0 : Int32), none] (by decide) rfl ?_
                exact wp_cut h ⟨Or.inr rfl, Or.inr rfl, Or.inr rfl, Or.inr rfl, Or.inr rfl, Or.inr rfl, Or.inr rfl, Or.inl rfl, trivial⟩
              · replace h := h.2 hc
                refine wp_iconst (dz dl_Net_fetch_0 26 53 (.iconst (0)) 1 rfl) (v := (0 : Int32)) (by decide) ?_
                exact wp_rt (qi _) (rt_Z rfl (Or.inl rfl) (dz dl_Net_fetch_0 27 54 (.ireturn) 1 rfl)) ⟨_, rfl, h⟩
theorem t_Net_fetch {X : Nat × (Nat → Int32)} {k : Nat} {g : sg} {l0 : Nat} {l1 : Int32} {l2 : Int32} {l3 : Int32} {l4 : Int32} {Z : Int32 → sg → Prop} (h : nnMT X M_Net_isNode 0 [qi l1] g (zI fun r1 g1 => gExt g g1 → (r1 = 0 → Z (0 : Int32) g1) ∧ (¬ r1 = 0 → ∃ a1, gR g1 5 l0 0 = some a1 ∧ nnMT X M_Names_has 0 [qr 5 (some a1), qi l2] g1 (zI fun r2 g2 => gExt g1 g2 → (r2 = 0 → Z (0 : Int32) g2) ∧ (¬ r2 = 0 → (l3 < (1 : Int32) → Z (0 : Int32) g2) ∧ (¬ l3 < (1 : Int32) → ((10 : Int32) < l3 → Z (0 : Int32) g2) ∧ (¬ (10 : Int32) < l3 → (l4 < (1 : Int32) → Z (0 : Int32) g2) ∧ (¬ l4 < (1 : Int32) → ((4 : Int32) < l4 → Z (0 : Int32) g2) ∧ (¬ (4 : Int32) < l4 → ∃ a2, gR g2 5 l0 0 = some a2 ∧ nnMT X M_Names_lengthOf 0 [qr 5 (some a2), qi l2] g2 (zI fun r3 g3 => gExt g2 g3 → (r3 < (4 : Int32) → nnWP X M_Net_fetch k 61 [qr 0 (some l0), qi l1, qi l2, qi l3, qi l4, qi (0 : Int32), qi (0 : Int32), none] [] g3 (zI Z)) ∧ (¬ r3 < (4 : Int32) → Z (0 : Int32) g3))))))))))) : nnMT X M_Net_fetch k [qr 0 (some l0), qi l1, qi l2, qi l3, qi l4] g (zI Z) := b_Net_fetch_0 h

theorem b_Net_fetch_61 {X : Nat × (Nat → Int32)} {k : Nat} {g : sg} {l0 : Nat} {l1 : Int32} {l2 : Int32} {l3 : Int32} {l4 : Int32} {l5 : Int32} {l6 : Int32} {Z : Int32 → sg → Prop} (h : (l3 ≤ l6 → ∃ a1, gR g 5 l0 0 = some a1 ∧ nnMT X M_Names_hasRoomFor 0 [qr 5 (some a1), qi l5] g (zI fun r1 g1 => gExt g g1 → (¬ r1 = 0 → gA g1 6 l0 = some 5 ∧ vp_in l1 5 ∧ ∃ a2, gR g1 6 l0 l1.toNatClampNeg = some a2 ∧ ∃ a3, gR g1 389 a2 0 = some a3 ∧ nnMT X M_Fetch_begin 0 [qr 4 (some a3), qi l3, qi l4] g1 (zV fun g2 => gExt g1 g2 → nnWP X M_Net_fetch k 129 [qr 0 (some l0), none, qi l2, qi l3, none, none, qr 4 (gR g1 389 a2 0), qi (0 : Int32)] [] g2 (zI Z))) ∧ (r1 = 0 → Z (0 : Int32) g1))) ∧ (¬ l3 ≤ l6 → nnMT X M_Net_segmentComponent 0 [qi l6] g (zI fun r2 g3 => gExt g g3 → ∃ a4, gR g 5 l0 0 = some a4 ∧ nnMT X M_Names_find 0 [qr 5 (some a4), qi l2, qi r2] g3 (zI fun r3 g4 => gExt g3 g4 → (¬ r3 = (-1 : Int32) → nnWP X M_Net_fetch k 61 [qr 0 (some l0), qi l1, qi l2, qi l3, qi l4, qi l5, qi (l6 + 1), none] [] g4 (zI Z)) ∧ (r3 = (-1 : Int32) → nnWP X M_Net_fetch k 61 [qr 0 (some l0), qi l1, qi l2, qi l3, qi l4, qi (l5 + 1), qi (l6 + 1), none] [] g4 (zI Z)))))) : nnWP X M_Net_fetch k 61 [qr 0 (some l0), qi l1, qi l2, qi l3, qi l4, qi l5, qi l6, none] [] g (zI Z) := by
  refine wp_iload (i := 6) (x := l6) (dz dl_Net_fetch_0 32 61 (.iload 6) 2 rfl) rfl ?_
  refine wp_iload_n (i := 3) (x := l3) (dz dl_Net_fetch_0 33 63 (.iload_n 3) 1 rfl) rfl rfl ?_
  refine wp_icmp_ge (tgt := 93) (dz dl_Net_fetch_0 34 64 (.if_icmp .ge (29)) 3 rfl) (by decide) (fun hc => ?_) (fun hc => ?_)
  · replace h := h.1 hc
    refine wp_aload_n (i := 0) (v := qr 0 (some l0)) (dz dl_Net_fetch_1 6 93 (.aload_n 0) 1 rfl) rfl rfl trivial ?_
    refine wp_getR l0 (dz dl_Net_fetch_1 7 94 (.getfield 20) 3 rfl) lk_Net_20 kd_5 rfl rfl ?_
    refine wp_iload (i := 5) (x := l5) (dz dl_Net_fetch_1 8 97 (.iload 5) 2 rfl) rfl ?_
    obtain ⟨a1, e1, h⟩ := h
    refine wp_callV a1 0 [qi l5] [] (dz dl_Net_fetch_1 9 99 (.invokevirtual 67) 3 rfl) ok_Names_hasRoomFor lm_Net_67 (by decide) ws_Names_hasRoomFor wv_Names_hasRoomFor ⟨Nat.le_of_ble_eq_true rfl, Nat.le_of_ble_eq_true rfl⟩ pn_Names_hasRoomFor (Nat.le_of_ble_eq_true rfl) (Nat.le_of_ble_eq_true rfl) e1 (Or.inl rfl) (Nat.zero_le _) (mt_mono h ?_)
    rintro _ g1 ⟨r1, rfl, h⟩ y1
    replace h := h y1.1
    show nnWP _ _ _ _ _ [qi r1] _ _
    refine wp_if_ne (tgt := 107) (dz dl_Net_fetch_1 10 102 (.ifCond .ne (5)) 3 rfl) (by decide) (fun hc => ?_) (fun hc => ?_)
    · replace h := h.1 hc
      refine wp_aload_n (i := 0) (v := qr 0 (some l0)) (dz dl_Net_fetch_1 13 107 (.aload_n 0) 1 rfl) rfl rfl trivial ?_
      obtain ⟨n1, h⟩ := h
      refine wp_getA l0 5 (dz dl_Net_fetch_1 14 108 (.getfield 26) 3 rfl) lk_Net_26 (q := 1) kd_6 rfl rfl n1 ?_
      refine wp_iload_n (i := 1) (x := l1) (dz dl_Net_fetch_1 15 111 (.iload_n 1) 1 rfl) rfl rfl ?_
      obtain ⟨i1, h⟩ := h
      refine wp_aald 5 (dz dl_Net_fetch_1 16 112 (.aaload) 1 rfl) kd_6 n1 i1 ?_
      obtain ⟨a2, e2, h⟩ := h
      refine wp_getR a2 (dz dl_Net_fetch_1 17 113 (.getfield 196) 3 rfl) lk_Net_196 kd_389 rfl e2 ?_
      refine wp_astore (i := 6) (dz dl_Net_fetch_1 18 116 (.astore 6) 2 rfl) [qr 0 (some l0), qi l1, qi l2, qi l3, qi l4, qi l5, qr 4 (gR g1 389 a2 0), none] (by decide) trivial rfl ?_
      refine wp_aload (i := 6) (v := qr 4 (gR g1 389 a2 0)) (dz dl_Net_fetch_1 19 118 (.aload 6) 2 rfl) rfl trivial ?_
      refine wp_iload_n (i := 3) (x := l3) (dz dl_Net_fetch_1 20 120 (.iload_n 3) 1 rfl) rfl rfl ?_
      refine wp_iload (i := 4) (x := l4) (dz dl_Net_fetch_1 21 121 (.iload 4) 2 rfl) rfl ?_
      obtain ⟨a3, e3, h⟩ := h
      refine wp_callV a3 0 [qi l3, qi l4] [] (dz dl_Net_fetch_1 22 123 (.invokevirtual 200) 3 rfl) ok_Fetch_begin lm_Net_200 (by decide) ws_Fetch_begin wv_Fetch_begin ⟨Nat.le_of_ble_eq_true rfl, Nat.le_of_ble_eq_true rfl⟩ pn_Fetch_begin (Nat.le_of_ble_eq_true rfl) (Nat.le_of_ble_eq_true rfl) e3 (Or.inl rfl) (Nat.zero_le _) (mt_mono h ?_)
      rintro _ g2 ⟨rfl, h⟩ y2
      replace h := h y2.1
      show nnWP _ _ _ _ _ [] _ _
      refine wp_iconst (dz dl_Net_fetch_1 23 126 (.iconst (0)) 1 rfl) (v := (0 : Int32)) (by decide) ?_
      refine wp_istore (i := 7) (dz dl_Net_fetch_1 24 127 (.istore 7) 2 rfl) [qr 0 (some l0), qi l1, qi l2, qi l3, qi l4, qi l5, qr 4 (gR g1 389 a2 0), qi (0 : Int32)] (by decide) rfl ?_
      exact wp_cut h ⟨Or.inr rfl, Or.inl rfl, Or.inr rfl, Or.inr rfl, Or.inl rfl, Or.inl rfl, Or.inr rfl, Or.inr rfl, trivial⟩
    · replace h := h.2 hc
      refine wp_iconst (dz dl_Net_fetch_1 11 105 (.iconst (0)) 1 rfl) (v := (0 : Int32)) (by decide) ?_
      exact wp_rt (qi _) (rt_Z rfl (Or.inl rfl) (dz dl_Net_fetch_1 12 106 (.ireturn) 1 rfl)) ⟨_, rfl, h⟩
  · replace h := h.2 hc
    refine wp_aload_n (i := 0) (v := qr 0 (some l0)) (dz dl_Net_fetch_0 35 67 (.aload_n 0) 1 rfl) rfl rfl trivial ?_
    refine wp_getR l0 (dz dl_Net_fetch_0 36 68 (.getfield 20) 3 rfl) lk_Net_20 kd_5 rfl rfl ?_
    refine wp_iload_n (i := 2) (x := l2) (dz dl_Net_fetch_0 37 71 (.iload_n 2) 1 rfl) rfl rfl ?_
    refine wp_iload (i := 6) (x := l6) (dz dl_Net_fetch_0 38 72 (.iload 6) 2 rfl) rfl ?_
    refine wp_callS 0 [qi l6] [qi l2, qr 5 (gR g 5 l0 0)] (dz dl_Net_fetch_0 39 74 (.invokestatic 193) 3 rfl) ok_Net_segmentComponent lm_Net_193 ws_Net_segmentComponent ⟨Nat.le_of_ble_eq_true rfl, Nat.le_of_ble_eq_true rfl⟩ pn_Net_segmentComponent (Nat.le_of_ble_eq_true rfl) (Nat.le_of_ble_eq_true rfl) (Or.inl rfl) (Nat.zero_le _) (mt_mono h ?_)
    rintro _ g3 ⟨r2, rfl, h⟩ y3
    replace h := h y3.1
    show nnWP _ _ _ _ _ [qi r2, qi l2, qr 5 (gR g 5 l0 0)] _ _
    obtain ⟨a4, e4, h⟩ := h
    refine wp_callV a4 0 [qi l2, qi r2] [] (dz dl_Net_fetch_1 0 77 (.invokevirtual 63) 3 rfl) ok_Names_find lm_Net_63 (by decide) ws_Names_find wv_Names_find ⟨Nat.le_of_ble_eq_true rfl, Nat.le_of_ble_eq_true rfl⟩ pn_Names_find (Nat.le_of_ble_eq_true rfl) (Nat.le_of_ble_eq_true rfl) e4 (Or.inl rfl) (Nat.zero_le _) (mt_mono h ?_)
    rintro _ g4 ⟨r3, rfl, h⟩ y4
    replace h := h y4.1
    show nnWP _ _ _ _ _ [qi r3] _ _
    refine wp_iconst (dz dl_Net_fetch_1 1 80 (.iconst (-1)) 1 rfl) (v := (-1 : Int32)) (by decide) ?_
    refine wp_icmp_ne (tgt := 87) (dz dl_Net_fetch_1 2 81 (.if_icmp .ne (6)) 3 rfl) (by decide) (fun hc => ?_) (fun hc => ?_)
    · replace h := h.1 hc
      refine wp_iinc (i := 6) (v := l6 + 1) (dz dl_Net_fetch_1 4 87 (.iinc 6 (1)) 3 rfl) rfl (congrArg (fun z => l6 + z) (by decide)) [qr 0 (some l0), qi l1, qi l2, qi l3, qi l4, qi l5, qi (l6 + 1), none] (by decide) rfl ?_
      refine wp_goto (tgt := 61) (dz dl_Net_fetch_1 5 90 (.goto (-29)) 3 rfl) (by decide) ?_
      exact wp_cut h ⟨Or.inr rfl, Or.inr rfl, Or.inr rfl, Or.inr rfl, Or.inr rfl, Or.inr rfl, Or.inr rfl, Or.inl rfl, trivial⟩
    · replace h := h.2 hc
      refine wp_iinc (i := 5) (v := l5 + 1) (dz dl_Net_fetch_1 3 84 (.iinc 5 (1)) 3 rfl) rfl (congrArg (fun z => l5 + z) (by decide)) [qr 0 (some l0), qi l1, qi l2, qi l3, qi l4, qi (l5 + 1), qi l6, none] (by decide) rfl ?_
      refine wp_iinc (i := 6) (v := l6 + 1) (dz dl_Net_fetch_1 4 87 (.iinc 6 (1)) 3 rfl) rfl (congrArg (fun z => l6 + z) (by decide)) [qr 0 (some l0), qi l1, qi l2, qi l3, qi l4, qi (l5 + 1), qi (l6 + 1), none] (by decide) rfl ?_
      refine wp_goto (tgt := 61) (dz dl_Net_fetch_1 5 90 (.goto (-29)) 3 rfl) (by decide) ?_
      exact wp_cut h ⟨Or.inr rfl, Or.inr rfl, Or.inr rfl, Or.inr rfl, Or.inr rfl, Or.inr rfl, Or.inr rfl, Or.inl rfl, trivial⟩

theorem b_Net_fetch_129 {X : Nat × (Nat → Int32)} {k : Nat} {g : sg} {l0 : Nat} {l2 : Int32} {l3 : Int32} {l6 : Option Nat} {l7 : Int32} {Z : Int32 → sg → Prop} (h : (l3 ≤ l7 → Z (1 : Int32) g) ∧ (¬ l3 ≤ l7 → ∃ a1, l6 = some a1 ∧ gA g 259 a1 = some 10 ∧ nnMT X M_Net_segmentComponent 0 [qi l7] g (zI fun r1 g1 => gExt g g1 → ∃ a2, gR g 5 l0 0 = some a2 ∧ nnMT X M_Names_findOrMake 0 [qr 5 (some a2), qi l2, qi r1] g1 (zI fun r2 g2 => gExt g1 g2 → vp_in l7 10 ∧ ∀ g3, g3 = pI g2 259 a1 l7.toNatClampNeg r2 → nnWP X M_Net_fetch k 129 [qr 0 (some l0), none, qi l2, qi l3, none, none, qr 4 l6, qi (l7 + 1)] [] g3 (zI Z))))) : nnWP X M_Net_fetch k 129 [qr 0 (some l0), none, qi l2, qi l3, none, none, qr 4 l6, qi l7] [] g (zI Z) := by
  refine wp_iload (i := 7) (x := l7) (dz dl_Net_fetch_1 25 129 (.iload 7) 2 rfl) rfl ?_
  refine wp_iload_n (i := 3) (x := l3) (dz dl_Net_fetch_1 26 131 (.iload_n 3) 1 rfl) rfl rfl ?_
  refine wp_icmp_ge (tgt := 162) (dz dl_Net_fetch_1 27 132 (.if_icmp .ge (30)) 3 rfl) (by decide) (fun hc => ?_) (fun hc => ?_)
  · replace h := h.1 hc
    refine wp_iconst (dz dl_Net_fetch_2 0 162 (.iconst (1)) 1 rfl) (v := (1 : Int32)) (by decide) ?_
    exact wp_rt (qi _) (rt_Z rfl (Or.inr rfl) (dz dl_Net_fetch_2 1 163 (.ireturn) 1 rfl)) ⟨_, rfl, h⟩
  · replace h := h.2 hc
    refine wp_aload (i := 6) (v := qr 4 l6) (dz dl_Net_fetch_1 28 135 (.aload 6) 2 rfl) rfl trivial ?_
    obtain ⟨a1, e1, h⟩ := h
    obtain ⟨n1, h⟩ := h
    refine wp_getA a1 10 (dz dl_Net_fetch_1 29 137 (.getfield 204) 3 rfl) lk_Net_204 (q := 0) kd_259 rfl e1 n1 ?_
    refine wp_iload (i := 7) (x := l7) (dz dl_Net_fetch_1 30 140 (.iload 7) 2 rfl) rfl ?_
    refine wp_aload_n (i := 0) (v := qr 0 (some l0)) (dz dl_Net_fetch_1 31 142 (.aload_n 0) 1 rfl) rfl rfl trivial ?_
    refine wp_getR l0 (dz dl_Net_fetch_1 32 143 (.getfield 20) 3 rfl) lk_Net_20 kd_5 rfl rfl ?_
    refine wp_iload_n (i := 2) (x := l2) (dz dl_Net_fetch_1 33 146 (.iload_n 2) 1 rfl) rfl rfl ?_
    refine wp_iload (i := 7) (x := l7) (dz dl_Net_fetch_1 34 147 (.iload 7) 2 rfl) rfl ?_
    refine wp_callS 0 [qi l7] [qi l2, qr 5 (gR g 5 l0 0), qi l7, qa 259 a1] (dz dl_Net_fetch_1 35 149 (.invokestatic 193) 3 rfl) ok_Net_segmentComponent lm_Net_193 ws_Net_segmentComponent ⟨Nat.le_of_ble_eq_true rfl, Nat.le_of_ble_eq_true rfl⟩ pn_Net_segmentComponent (Nat.le_of_ble_eq_true rfl) (Nat.le_of_ble_eq_true rfl) (Or.inl rfl) (Nat.zero_le _) (mt_mono h ?_)
    rintro _ g1 ⟨r1, rfl, h⟩ y1
    replace h := h y1.1
    show nnWP _ _ _ _ _ [qi r1, qi l2, qr 5 (gR g 5 l0 0), qi l7, qa 259 a1] _ _
    obtain ⟨a2, e2, h⟩ := h
    refine wp_callV a2 0 [qi l2, qi r1] [qi l7, qa 259 a1] (dz dl_Net_fetch_1 36 152 (.invokevirtual 71) 3 rfl) ok_Names_findOrMake lm_Net_71 (by decide) ws_Names_findOrMake wv_Names_findOrMake ⟨Nat.le_of_ble_eq_true rfl, Nat.le_of_ble_eq_true rfl⟩ pn_Names_findOrMake (Nat.le_of_ble_eq_true rfl) (Nat.le_of_ble_eq_true rfl) e2 (Or.inl rfl) (Nat.zero_le _) (mt_mono h ?_)
    rintro _ g2 ⟨r2, rfl, h⟩ y2
    replace h := h y2.1
    show nnWP _ _ _ _ _ [qi r2, qi l7, qa 259 a1] _ _
    obtain ⟨i1, h⟩ := h
    have h := h _ rfl
    refine wp_iast 10 (dz dl_Net_fetch_1 37 155 (.iastore) 1 rfl) kd_259 (y2.1.2 _ _ _ (y1.1.2 _ _ _ n1)) i1 rfl ?_
    refine wp_iinc (i := 7) (v := l7 + 1) (dz dl_Net_fetch_1 38 156 (.iinc 7 (1)) 3 rfl) rfl (congrArg (fun z => l7 + z) (by decide)) [qr 0 (some l0), none, qi l2, qi l3, none, none, qr 4 l6, qi (l7 + 1)] (by decide) rfl ?_
    refine wp_goto (tgt := 129) (dz dl_Net_fetch_1 39 159 (.goto (-30)) 3 rfl) (by decide) ?_
    exact wp_cut h ⟨Or.inr rfl, Or.inl rfl, Or.inr rfl, Or.inr rfl, Or.inl rfl, Or.inl rfl, Or.inr rfl, Or.inr rfl, trivial⟩

theorem b_Net_pump_0 {X : Nat × (Nat → Int32)} {k : Nat} {g : sg} {l0 : Nat} {l1 : Int32} {Z : Int32 → sg → Prop} (h : nnMT X M_Net_isNode 0 [qi l1] g (zI fun r1 g1 => gExt g g1 → (r1 = 0 → Z (-1 : Int32) g1) ∧ (¬ r1 = 0 → gA g1 6 l0 = some 5 ∧ vp_in l1 5 ∧ ∃ a1, gR g1 6 l0 l1.toNatClampNeg = some a1 ∧ ∃ a2, gR g1 389 a1 0 = some a2 ∧ nnMT X M_Fetch_isThere 0 [qr 4 (some a2)] g1 (zI fun r2 g2 => gExt g1 g2 → (¬ r2 = 0 → ∃ a3, gR g2 6 l0 l1.toNatClampNeg = some a3 ∧ ∃ a4, gR g2 389 a3 0 = some a4 ∧ ((gI g2 258 a4 0) = 0 → nnMT X M_Fetch_countOf 0 [qr 4 (some a4), qi (2 : Int32)] g2 (zI fun r3 g3 => gExt g2 g3 → (¬ r3 = (gI g3 256 a4 0) → nnMT X M_Fetch_settle 0 [qr 4 (some a4)] g3 (zV fun g4 => gExt g3 g4 → ((gI g4 258 a4 0) = 0 → nnMT X M_Fetch_countOf 0 [qr 4 (some a4), qi (1 : Int32)] g4 (zI fun r4 g5 => gExt g4 g5 → nnWP X M_Net_pump k 91 [qr 0 (some l0), qi l1, qr 4 (gR g2 389 a3 0), qi (0 : Int32), qi ((gI g4 257 a4 0) - r4), qi (0 : Int32), none] [] g5 (zI Z))) ∧ (¬ (gI g4 258 a4 0) = 0 → nnWP X M_Net_pump k 91 [qr 0 (some l0), qi l1, qr 4 (gR g2 389 a3 0), qi (0 : Int32), qi (0 : Int32), qi (0 : Int32), none] [] g4 (zI Z)))) ∧ (r3 = (gI g3 256 a4 0) → Z (-3 : Int32) g3))) ∧ (¬ (gI g2 258 a4 0) = 0 → Z (-2 : Int32) g2)) ∧ (r2 = 0 → Z (-1 : Int32) g2))))) : nnWP X M_Net_pump k 0 [qr 0 (some l0), qi l1, none, none, none, none, none] [] g (zI Z) := by
  refine wp_iload_n (i := 1) (x := l1) (dz dl_Net_pump_0 0 0 (.iload_n 1) 1 rfl) rfl rfl ?_
  refine wp_callS 0 [qi l1] [] (dz dl_Net_pump_0 1 1 (.invokestatic 106) 3 rfl) ok_Net_isNode lm_Net_106 ws_Net_isNode ⟨Nat.le_of_ble_eq_true rfl, Nat.le_of_ble_eq_true rfl⟩ pn_Net_isNode (Nat.le_of_ble_eq_true rfl) (Nat.le_of_ble_eq_true rfl) (Or.inl rfl) (Nat.zero_le _) (mt_mono h ?_)
  rintro _ g1 ⟨r1, rfl, h⟩ y1
  replace h := h y1.1
  show nnWP _ _ _ _ _ [qi r1] _ _
  refine wp_if_eq (tgt := 22) (dz dl_Net_pump_0 2 4 (.ifCond .eq (18)) 3 rfl) (by decide) (fun hc => ?_) (fun hc => ?_)
  · replace h := h.1 hc
    refine wp_iconst (dz dl_Net_pump_0 10 22 (.iconst (-1)) 1 rfl) (v := (-1 : Int32)) (by decide) ?_
    exact wp_rt (qi _) (rt_I rfl (dz dl_Net_pump_0 11 23 (.ireturn) 1 rfl)) ⟨_, rfl, h⟩
  · replace h := h.2 hc
    refine wp_aload_n (i := 0) (v := qr 0 (some l0)) (dz dl_Net_pump_0 3 7 (.aload_n 0) 1 rfl) rfl rfl trivial ?_
    obtain ⟨n1, h⟩ := h
    refine wp_getA l0 5 (dz dl_Net_pump_0 4 8 (.getfield 26) 3 rfl) lk_Net_26 (q := 1) kd_6 rfl rfl n1 ?_
    refine wp_iload_n (i := 1) (x := l1) (dz dl_Net_pump_0 5 11 (.iload_n 1) 1 rfl) rfl rfl ?_
    obtain ⟨i1, h⟩ := h
    refine wp_aald 5 (dz dl_Net_pump_0 6 12 (.aaload) 1 rfl) kd_6 n1 i1 ?_
    obtain ⟨a1, e1, h⟩ := h
    refine wp_getR a1 (dz dl_Net_pump_0 7 13 (.getfield 196) 3 rfl) lk_Net_196 kd_389 rfl e1 ?_
    obtain ⟨a2, e2, h⟩ := h
    refine wp_callV a2 0 [] [] (dz dl_Net_pump_0 8 16 (.invokevirtual 207) 3 rfl) ok_Fetch_isThere lm_Net_207 (by decide) ws_Fetch_isThere wv_Fetch_isThere ⟨Nat.le_of_ble_eq_true rfl, Nat.le_of_ble_eq_true rfl⟩ pn_Fetch_isThere (Nat.le_of_ble_eq_true rfl) (Nat.le_of_ble_eq_true rfl) e2 (Or.inl rfl) (Nat.zero_le _) (mt_mono h ?_)
    rintro _ g2 ⟨r2, rfl, h⟩ y2
    replace h := h y2.1
    show nnWP _ _ _ _ _ [qi r2] _ _
    refine wp_if_ne (tgt := 24) (dz dl_Net_pump_0 9 19 (.ifCond .ne (5)) 3 rfl) (by decide) (fun hc => ?_) (fun hc => ?_)
    · replace h := h.1 hc
      refine wp_aload_n (i := 0) (v := qr 0 (some l0)) (dz dl_Net_pump_0 12 24 (.aload_n 0) 1 rfl) rfl rfl trivial ?_
      refine wp_getA l0 5 (dz dl_Net_pump_0 13 25 (.getfield 26) 3 rfl) lk_Net_26 (q := 1) kd_6 rfl rfl (y2.1.2 _ _ _ n1) ?_
      refine wp_iload_n (i := 1) (x := l1) (dz dl_Net_pump_0 14 28 (.iload_n 1) 1 rfl) rfl rfl ?_
      refine wp_aald 5 (dz dl_Net_pump_0 15 29 (.aaload) 1 rfl) kd_6 (y2.1.2 _ _ _ n1) i1 ?_
      obtain ⟨a3, e3, h⟩ := h
      refine wp_getR a3 (dz dl_Net_pump_0 16 30 (.getfield 196) 3 rfl) lk_Net_196 kd_389 rfl e3 ?_
      refine wp_astore_n (i := 2) (dz dl_Net_pump_0 17 33 (.astore_n 2) 1 rfl) rfl [qr 0 (some l0), qi l1, qr 4 (gR g2 389 a3 0), none, none, none, none] (by decide) trivial rfl ?_
      refine wp_aload_n (i := 2) (v := qr 4 (gR g2 389 a3 0)) (dz dl_Net_pump_0 18 34 (.aload_n 2) 1 rfl) rfl rfl trivial ?_
      obtain ⟨a4, e4, h⟩ := h
      refine wp_getI a4 (dz dl_Net_pump_0 19 35 (.getfield 210) 3 rfl) lk_Net_210 kd_258 rfl e4 ?_
      refine wp_if_eq (tgt := 44) (dz dl_Net_pump_0 20 38 (.ifCond .eq (6)) 3 rfl) (by decide) (fun hc => ?_) (fun hc => ?_)
      · replace h := h.1 hc
        refine wp_aload_n (i := 2) (v := qr 4 (gR g2 389 a3 0)) (dz dl_Net_pump_0 23 44 (.aload_n 2) 1 rfl) rfl rfl trivial ?_
        refine wp_iconst (dz dl_Net_pump_0 24 45 (.iconst (2)) 1 rfl) (v := (2 : Int32)) (by decide) ?_
        refine wp_callV a4 0 [qi (2 : Int32)] [] (dz dl_Net_pump_0 25 46 (.invokevirtual 213) 3 rfl) ok_Fetch_countOf lm_Net_213 (by decide) ws_Fetch_countOf wv_Fetch_countOf ⟨Nat.le_of_ble_eq_true rfl, Nat.le_of_ble_eq_true rfl⟩ pn_Fetch_countOf (Nat.le_of_ble_eq_true rfl) (Nat.le_of_ble_eq_true rfl) e4 (Or.inl rfl) (Nat.zero_le _) (mt_mono h ?_)
        rintro _ g3 ⟨r3, rfl, h⟩ y3
        replace h := h y3.1
        show nnWP _ _ _ _ _ [qi r3] _ _
        refine wp_aload_n (i := 2) (v := qr 4 (gR g2 389 a3 0)) (dz dl_Net_pump_0 26 49 (.aload_n 2) 1 rfl) rfl rfl trivial ?_
        refine wp_getI a4 (dz dl_Net_pump_0 27 50 (.getfield 216) 3 rfl) lk_Net_216 kd_256 rfl e4 ?_
        refine wp_icmp_ne (tgt := 59) (dz dl_Net_pump_0 28 53 (.if_icmp .ne (6)) 3 rfl) (by decide) (fun hc => ?_) (fun hc => ?_)
        · replace h := h.1 hc
          refine wp_aload_n (i := 2) (v := qr 4 (gR g2 389 a3 0)) (dz dl_Net_pump_0 31 59 (.aload_n 2) 1 rfl) rfl rfl trivial ?_
          refine wp_callV a4 0 [] [] (dz dl_Net_pump_0 32 60 (.invokevirtual 219) 3 rfl) ok_Fetch_settle lm_Net_219 (by decide) ws_Fetch_settle wv_Fetch_settle ⟨Nat.le_of_ble_eq_true rfl, Nat.le_of_ble_eq_true rfl⟩ pn_Fetch_settle (Nat.le_of_ble_eq_true rfl) (Nat.le_of_ble_eq_true rfl) e4 (Or.inl rfl) (Nat.zero_le _) (mt_mono h ?_)
          rintro _ g4 ⟨rfl, h⟩ y4
          replace h := h y4.1
          show nnWP _ _ _ _ _ [] _ _
          refine wp_iconst (dz dl_Net_pump_0 33 63 (.iconst (0)) 1 rfl) (v := (0 : Int32)) (by decide) ?_
          refine wp_istore_n (i := 3) (dz dl_Net_pump_0 34 64 (.istore_n 3) 1 rfl) rfl [qr 0 (some l0), qi l1, qr 4 (gR g2 389 a3 0), qi (0 : Int32), none, none, none] (by decide) rfl ?_
          refine wp_aload_n (i := 2) (v := qr 4 (gR g2 389 a3 0)) (dz dl_Net_pump_0 35 65 (.aload_n 2) 1 rfl) rfl rfl trivial ?_
          refine wp_getI a4 (dz dl_Net_pump_0 36 66 (.getfield 210) 3 rfl) lk_Net_210 kd_258 rfl e4 ?_
          refine wp_if_eq (tgt := 76) (dz dl_Net_pump_0 37 69 (.ifCond .eq (7)) 3 rfl) (by decide) (fun hc => ?_) (fun hc => ?_)
          · replace h := h.1 hc
            refine wp_aload_n (i := 2) (v := qr 4 (gR g2 389 a3 0)) (dz dl_Net_pump_1 0 76 (.aload_n 2) 1 rfl) rfl rfl trivial ?_
            refine wp_getI a4 (dz dl_Net_pump_1 1 77 (.getfield 222) 3 rfl) lk_Net_222 kd_257 rfl e4 ?_
            refine wp_aload_n (i := 2) (v := qr 4 (gR g2 389 a3 0)) (dz dl_Net_pump_1 2 80 (.aload_n 2) 1 rfl) rfl rfl trivial ?_
            refine wp_iconst (dz dl_Net_pump_1 3 81 (.iconst (1)) 1 rfl) (v := (1 : Int32)) (by decide) ?_
            refine wp_callV a4 0 [qi (1 : Int32)] [qi (gI g4 257 a4 0)] (dz dl_Net_pump_1 4 82 (.invokevirtual 213) 3 rfl) ok_Fetch_countOf lm_Net_213 (by decide) ws_Fetch_countOf wv_Fetch_countOf ⟨Nat.le_of_ble_eq_true rfl, Nat.le_of_ble_eq_true rfl⟩ pn_Fetch_countOf (Nat.le_of_ble_eq_true rfl) (Nat.le_of_ble_eq_true rfl) e4 (Or.inl rfl) (Nat.zero_le _) (mt_mono h ?_)
            rintro _ g5 ⟨r4, rfl, h⟩ y5
            replace h := h y5.1
            show nnWP _ _ _ _ _ [qi r4, qi (gI g4 257 a4 0)] _ _
            refine wp_isub (dz dl_Net_pump_1 5 85 (.isub) 1 rfl) ?_
            refine wp_istore (i := 4) (dz dl_Net_pump_1 6 86 (.istore 4) 2 rfl) [qr 0 (some l0), qi l1, qr 4 (gR g2 389 a3 0), qi (0 : Int32), qi ((gI g4 257 a4 0) - r4), none, none] (by decide) rfl ?_
            refine wp_iconst (dz dl_Net_pump_1 7 88 (.iconst (0)) 1 rfl) (v := (0 : Int32)) (by decide) ?_
            refine wp_istore (i := 5) (dz dl_Net_pump_1 8 89 (.istore 5) 2 rfl) [qr 0 (some l0), qi l1, qr 4 (gR g2 389 a3 0), qi (0 : Int32), qi ((gI g4 257 a4 0) - r4), qi (0 : Int32), none] (by decide) rfl ?_
            exact wp_cut h ⟨Or.inr rfl, Or.inr rfl, Or.inr rfl, Or.inr rfl, Or.inr rfl, Or.inr rfl, Or.inl rfl, trivial⟩
          · replace h := h.2 hc
            refine wp_iconst (dz dl_Net_pump_0 38 72 (.iconst (0)) 1 rfl) (v := (0 : Int32)) (by decide) ?_
            refine wp_goto (tgt := 86) (dz dl_Net_pump_0 39 73 (.goto (13)) 3 rfl) (by decide) ?_
            refine wp_istore (i := 4) (dz dl_Net_pump_1 6 86 (.istore 4) 2 rfl) [qr 0 (some l0), qi l1, qr 4 (gR g2 389 a3 0), qi (0 : Int32), qi (0 : Int32), none, none] (by decide) rfl ?_
            refine wp_iconst (dz dl_Net_pump_1 7 88 (.iconst (0)) 1 rfl) (v := (0 : Int32)) (by decide) ?_
            refine wp_istore (i := 5) (dz dl_Net_pump_1 8 89 (.istore 5) 2 rfl) [qr 0 (some l0), qi l1, qr 4 (gR g2 389 a3 0), qi (0 : Int32), qi (0 : Int32), qi (0 : Int32), none] (by decide) rfl ?_
            exact wp_cut h ⟨Or.inr rfl, Or.inr rfl, Or.inr rfl, Or.inr rfl, Or.inr rfl, Or.inr rfl, Or.inl rfl, trivial⟩
        · replace h := h.2 hc
          refine wp_bipush (dz dl_Net_pump_0 29 56 (.bipush (-3)) 2 rfl) (v := (-3 : Int32)) (by decide) ?_
          exact wp_rt (qi _) (rt_I rfl (dz dl_Net_pump_0 30 58 (.ireturn) 1 rfl)) ⟨_, rfl, h⟩
      · replace h := h.2 hc
        refine wp_bipush (dz dl_Net_pump_0 21 41 (.bipush (-2)) 2 rfl) (v := (-2 : Int32)) (by decide) ?_
        exact wp_rt (qi _) (rt_I rfl (dz dl_Net_pump_0 22 43 (.ireturn) 1 rfl)) ⟨_, rfl, h⟩
    · replace h := h.2 hc
      refine wp_iconst (dz dl_Net_pump_0 10 22 (.iconst (-1)) 1 rfl) (v := (-1 : Int32)) (by decide) ?_
      exact wp_rt (qi _) (rt_I rfl (dz dl_Net_pump_0 11 23 (.ireturn) 1 rfl)) ⟨_, rfl, h⟩
theorem t_Net_pump {X : Nat × (Nat → Int32)} {k : Nat} {g : sg} {l0 : Nat} {l1 : Int32} {Z : Int32 → sg → Prop} (h : nnMT X M_Net_isNode 0 [qi l1] g (zI fun r1 g1 => gExt g g1 → (r1 = 0 → Z (-1 : Int32) g1) ∧ (¬ r1 = 0 → gA g1 6 l0 = some 5 ∧ vp_in l1 5 ∧ ∃ a1, gR g1 6 l0 l1.toNatClampNeg = some a1 ∧ ∃ a2, gR g1 389 a1 0 = some a2 ∧ nnMT X M_Fetch_isThere 0 [qr 4 (some a2)] g1 (zI fun r2 g2 => gExt g1 g2 → (¬ r2 = 0 → ∃ a3, gR g2 6 l0 l1.toNatClampNeg = some a3 ∧ ∃ a4, gR g2 389 a3 0 = some a4 ∧ ((gI g2 258 a4 0) = 0 → nnMT X M_Fetch_countOf 0 [qr 4 (some a4), qi (2 : Int32)] g2 (zI fun r3 g3 => gExt g2 g3 → (¬ r3 = (gI g3 256 a4 0) → nnMT X M_Fetch_settle 0 [qr 4 (some a4)] g3 (zV fun g4 => gExt g3 g4 → ((gI g4 258 a4 0) = 0 → nnMT X M_Fetch_countOf 0 [qr 4 (some a4), qi (1 : Int32)] g4 (zI fun r4 g5 => gExt g4 g5 → nnWP X M_Net_pump k 91 [qr 0 (some l0), qi l1, qr 4 (gR g2 389 a3 0), qi (0 : Int32), qi ((gI g4 257 a4 0) - r4), qi (0 : Int32), none] [] g5 (zI Z))) ∧ (¬ (gI g4 258 a4 0) = 0 → nnWP X M_Net_pump k 91 [qr 0 (some l0), qi l1, qr 4 (gR g2 389 a3 0), qi (0 : Int32), qi (0 : Int32), qi (0 : Int32), none] [] g4 (zI Z)))) ∧ (r3 = (gI g3 256 a4 0) → Z (-3 : Int32) g3))) ∧ (¬ (gI g2 258 a4 0) = 0 → Z (-2 : Int32) g2)) ∧ (r2 = 0 → Z (-1 : Int32) g2))))) : nnMT X M_Net_pump k [qr 0 (some l0), qi l1] g (zI Z) := b_Net_pump_0 h

theorem b_Net_pump_91 {X : Nat × (Nat → Int32)} {k : Nat} {g : sg} {l0 : Nat} {l1 : Int32} {l2 : Option Nat} {l3 : Int32} {l4 : Int32} {l5 : Int32} {Z : Int32 → sg → Prop} (h : ∃ a1, l2 = some a1 ∧ ((gI g 256 a1 0) ≤ l5 → Z l3 g) ∧ (¬ (gI g 256 a1 0) ≤ l5 → (l4 ≤ l3 → Z l3 g) ∧ (¬ l4 ≤ l3 → gA g 260 a1 = some 10 ∧ vp_in l5 10 ∧ ((gI g 260 a1 l5.toNatClampNeg) = 0 → gA g 6 l0 = some 5 ∧ vp_in l1 5 ∧ gA g 259 a1 = some 10 ∧ 7 ≤ k ∧ nnMT X M_Net_openRequest 7 [qr 0 (some l0), qr 6 (gR g 6 l0 l1.toNatClampNeg), qi (gI g 259 a1 l5.toNatClampNeg), qi (0 : Int32), qi (9 : Int32)] g (zI fun r1 g1 => gExt g g1 → (0 ≤ r1 → gA g1 9 l0 = some 120 ∧ vp_in r1 120 ∧ nnMT X M_Fetch_markAsked 0 [qr 4 (some a1), qi l5, qr 9 (gR g1 9 l0 r1.toNatClampNeg)] g1 (zV fun g2 => gExt g1 g2 → nnWP X M_Net_pump (k - 7) 91 [qr 0 (some l0), qi l1, qr 4 l2, qi (l3 + 1), qi l4, qi (l5 + 1), none] [] g2 (zI Z))) ∧ (¬ 0 ≤ r1 → Z l3 g1))) ∧ (¬ (gI g 260 a1 l5.toNatClampNeg) = 0 → nnWP X M_Net_pump k 91 [qr 0 (some l0), qi l1, qr 4 l2, qi l3, qi l4, qi (l5 + 1), none] [] g (zI Z))))) : nnWP X M_Net_pump k 91 [qr 0 (some l0), qi l1, qr 4 l2, qi l3, qi l4, qi l5, none] [] g (zI Z) := by
  refine wp_iload (i := 5) (x := l5) (dz dl_Net_pump_1 9 91 (.iload 5) 2 rfl) rfl ?_
  refine wp_aload_n (i := 2) (v := qr 4 l2) (dz dl_Net_pump_1 10 93 (.aload_n 2) 1 rfl) rfl rfl trivial ?_
  obtain ⟨a1, e1, h⟩ := h
  refine wp_getI a1 (dz dl_Net_pump_1 11 94 (.getfield 216) 3 rfl) lk_Net_216 kd_256 rfl e1 ?_
  refine wp_icmp_ge (tgt := 171) (dz dl_Net_pump_1 12 97 (.if_icmp .ge (74)) 3 rfl) (by decide) (fun hc => ?_) (fun hc => ?_)
  · replace h := h.1 hc
    refine wp_iload_n (i := 3) (x := l3) (dz dl_Net_pump_2 8 171 (.iload_n 3) 1 rfl) rfl rfl ?_
    exact wp_rt (qi _) (rt_I rfl (dz dl_Net_pump_2 9 172 (.ireturn) 1 rfl)) ⟨_, rfl, h⟩
  · replace h := h.2 hc
    refine wp_iload_n (i := 3) (x := l3) (dz dl_Net_pump_1 13 100 (.iload_n 3) 1 rfl) rfl rfl ?_
    refine wp_iload (i := 4) (x := l4) (dz dl_Net_pump_1 14 101 (.iload 4) 2 rfl) rfl ?_
    refine wp_icmp_ge (tgt := 171) (dz dl_Net_pump_1 15 103 (.if_icmp .ge (68)) 3 rfl) (by decide) (fun hc => ?_) (fun hc => ?_)
    · replace h := h.1 hc
      refine wp_iload_n (i := 3) (x := l3) (dz dl_Net_pump_2 8 171 (.iload_n 3) 1 rfl) rfl rfl ?_
      exact wp_rt (qi _) (rt_I rfl (dz dl_Net_pump_2 9 172 (.ireturn) 1 rfl)) ⟨_, rfl, h⟩
    · replace h := h.2 hc
      refine wp_aload_n (i := 2) (v := qr 4 l2) (dz dl_Net_pump_1 16 106 (.aload_n 2) 1 rfl) rfl rfl trivial ?_
      obtain ⟨n1, h⟩ := h
      refine wp_getA a1 10 (dz dl_Net_pump_1 17 107 (.getfield 225) 3 rfl) lk_Net_225 (q := 0) kd_260 rfl e1 n1 ?_
      refine wp_iload (i := 5) (x := l5) (dz dl_Net_pump_1 18 110 (.iload 5) 2 rfl) rfl ?_
      obtain ⟨i1, h⟩ := h
      refine wp_iald 10 (dz dl_Net_pump_1 19 112 (.iaload) 1 rfl) kd_260 n1 i1 ?_
      refine wp_if_eq (tgt := 119) (dz dl_Net_pump_1 20 113 (.ifCond .eq (6)) 3 rfl) (by decide) (fun hc => ?_) (fun hc => ?_)
      · replace h := h.1 hc
        refine wp_aload_n (i := 0) (v := qr 0 (some l0)) (dz dl_Net_pump_1 22 119 (.aload_n 0) 1 rfl) rfl rfl trivial ?_
        refine wp_aload_n (i := 0) (v := qr 0 (some l0)) (dz dl_Net_pump_1 23 120 (.aload_n 0) 1 rfl) rfl rfl trivial ?_
        obtain ⟨n2, h⟩ := h
        refine wp_getA l0 5 (dz dl_Net_pump_1 24 121 (.getfield 26) 3 rfl) lk_Net_26 (q := 1) kd_6 rfl rfl n2 ?_
        refine wp_iload_n (i := 1) (x := l1) (dz dl_Net_pump_1 25 124 (.iload_n 1) 1 rfl) rfl rfl ?_
        obtain ⟨i2, h⟩ := h
        refine wp_aald 5 (dz dl_Net_pump_1 26 125 (.aaload) 1 rfl) kd_6 n2 i2 ?_
        refine wp_aload_n (i := 2) (v := qr 4 l2) (dz dl_Net_pump_1 27 126 (.aload_n 2) 1 rfl) rfl rfl trivial ?_
        obtain ⟨n3, h⟩ := h
        refine wp_getA a1 10 (dz dl_Net_pump_1 28 127 (.getfield 204) 3 rfl) lk_Net_204 (q := 0) kd_259 rfl e1 n3 ?_
        refine wp_iload (i := 5) (x := l5) (dz dl_Net_pump_1 29 130 (.iload 5) 2 rfl) rfl ?_
        refine wp_iald 10 (dz dl_Net_pump_1 30 132 (.iaload) 1 rfl) kd_259 n3 i1 ?_
        refine wp_iconst (dz dl_Net_pump_1 31 133 (.iconst (0)) 1 rfl) (v := (0 : Int32)) (by decide) ?_
        refine wp_bipush (dz dl_Net_pump_1 32 134 (.bipush (9)) 2 rfl) (v := (9 : Int32)) (by decide) ?_
        obtain ⟨u1, h⟩ := h
        refine wp_callV l0 7 [qr 6 (gR g 6 l0 l1.toNatClampNeg), qi (gI g 259 a1 l5.toNatClampNeg), qi (0 : Int32), qi (9 : Int32)] [] (dz dl_Net_pump_1 33 136 (.invokevirtual 147) 3 rfl) ok_Net_openRequest lm_Net_147 (by decide) ws_Net_openRequest wv_Net_openRequest ⟨Nat.le_of_ble_eq_true rfl, Nat.le_of_ble_eq_true rfl⟩ pn_Net_openRequest (Nat.le_of_ble_eq_true rfl) (Nat.le_of_ble_eq_true rfl) rfl (Or.inl rfl) u1 (mt_mono h ?_)
        rintro _ g1 ⟨r1, rfl, h⟩ y1
        replace h := h y1.1
        show nnWP _ _ _ _ _ [qi r1] _ _
        refine wp_istore (i := 6) (dz dl_Net_pump_1 34 139 (.istore 6) 2 rfl) [qr 0 (some l0), qi l1, qr 4 l2, qi l3, qi l4, qi l5, qi r1] (by decide) rfl ?_
        refine wp_iload (i := 6) (x := r1) (dz dl_Net_pump_1 35 141 (.iload 6) 2 rfl) rfl ?_
        refine wp_if_ge (tgt := 149) (dz dl_Net_pump_1 36 143 (.ifCond .ge (6)) 3 rfl) (by decide) (fun hc => ?_) (fun hc => ?_)
        · replace h := h.1 hc
          refine wp_aload_n (i := 2) (v := qr 4 l2) (dz dl_Net_pump_1 38 149 (.aload_n 2) 1 rfl) rfl rfl trivial ?_
          refine wp_iload (i := 5) (x := l5) (dz dl_Net_pump_1 39 150 (.iload 5) 2 rfl) rfl ?_
          refine wp_aload_n (i := 0) (v := qr 0 (some l0)) (dz dl_Net_pump_2 0 152 (.aload_n 0) 1 rfl) rfl rfl trivial ?_
          obtain ⟨n4, h⟩ := h
          refine wp_getA l0 120 (dz dl_Net_pump_2 1 153 (.getfield 41) 3 rfl) lk_Net_41 (q := 1) kd_9 rfl rfl n4 ?_
          refine wp_iload (i := 6) (x := r1) (dz dl_Net_pump_2 2 156 (.iload 6) 2 rfl) rfl ?_
          obtain ⟨i3, h⟩ := h
          refine wp_aald 120 (dz dl_Net_pump_2 3 158 (.aaload) 1 rfl) kd_9 n4 i3 ?_
          refine wp_callV a1 0 [qi l5, qr 9 (gR g1 9 l0 r1.toNatClampNeg)] [] (dz dl_Net_pump_2 4 159 (.invokevirtual 227) 3 rfl) ok_Fetch_markAsked lm_Net_227 (by decide) ws_Fetch_markAsked wv_Fetch_markAsked ⟨Nat.le_of_ble_eq_true rfl, Nat.le_of_ble_eq_true rfl⟩ pn_Fetch_markAsked (Nat.le_of_ble_eq_true rfl) (Nat.le_of_ble_eq_true rfl) e1 (Or.inl rfl) (Nat.zero_le _) (mt_mono h ?_)
          rintro _ g2 ⟨rfl, h⟩ y2
          replace h := h y2.1
          show nnWP _ _ _ _ _ [] _ _
          refine wp_iinc (i := 3) (v := l3 + 1) (dz dl_Net_pump_2 5 162 (.iinc 3 (1)) 3 rfl) rfl (congrArg (fun z => l3 + z) (by decide)) [qr 0 (some l0), qi l1, qr 4 l2, qi (l3 + 1), qi l4, qi l5, qi r1] (by decide) rfl ?_
          refine wp_iinc (i := 5) (v := l5 + 1) (dz dl_Net_pump_2 6 165 (.iinc 5 (1)) 3 rfl) rfl (congrArg (fun z => l5 + z) (by decide)) [qr 0 (some l0), qi l1, qr 4 l2, qi (l3 + 1), qi l4, qi (l5 + 1), qi r1] (by decide) rfl ?_
          refine wp_goto (tgt := 91) (dz dl_Net_pump_2 7 168 (.goto (-77)) 3 rfl) (by decide) ?_
          exact wp_cut h ⟨Or.inr rfl, Or.inr rfl, Or.inr rfl, Or.inr rfl, Or.inr rfl, Or.inr rfl, Or.inl rfl, trivial⟩
        · replace h := h.2 hc
          refine wp_goto (tgt := 171) (dz dl_Net_pump_1 37 146 (.goto (25)) 3 rfl) (by decide) ?_
          refine wp_iload_n (i := 3) (x := l3) (dz dl_Net_pump_2 8 171 (.iload_n 3) 1 rfl) rfl rfl ?_
          exact wp_rt (qi _) (rt_I rfl (dz dl_Net_pump_2 9 172 (.ireturn) 1 rfl)) ⟨_, rfl, h⟩
      · replace h := h.2 hc
        refine wp_goto (tgt := 165) (dz dl_Net_pump_1 21 116 (.goto (49)) 3 rfl) (by decide) ?_
        refine wp_iinc (i := 5) (v := l5 + 1) (dz dl_Net_pump_2 6 165 (.iinc 5 (1)) 3 rfl) rfl (congrArg (fun z => l5 + z) (by decide)) [qr 0 (some l0), qi l1, qr 4 l2, qi l3, qi l4, qi (l5 + 1), none] (by decide) rfl ?_
        refine wp_goto (tgt := 91) (dz dl_Net_pump_2 7 168 (.goto (-77)) 3 rfl) (by decide) ?_
        exact wp_cut h ⟨Or.inr rfl, Or.inr rfl, Or.inr rfl, Or.inr rfl, Or.inr rfl, Or.inr rfl, Or.inl rfl, trivial⟩

theorem b_Net_fetched_0 {X : Nat × (Nat → Int32)} {k : Nat} {g : sg} {l0 : Nat} {l1 : Int32} {l2 : Int32} {Z : Int32 → sg → Prop} (h : nnMT X M_Net_isNode 0 [qi l1] g (zI fun r1 g1 => gExt g g1 → (r1 = 0 → Z (-1 : Int32) g1) ∧ (¬ r1 = 0 → gA g1 6 l0 = some 5 ∧ vp_in l1 5 ∧ ∃ a1, gR g1 6 l0 l1.toNatClampNeg = some a1 ∧ ∃ a2, gR g1 389 a1 0 = some a2 ∧ nnMT X M_Fetch_isThere 0 [qr 4 (some a2)] g1 (zI fun r2 g2 => gExt g1 g2 → (¬ r2 = 0 → ∃ a3, gR g2 6 l0 l1.toNatClampNeg = some a3 ∧ (l2 = 0 → ∃ a4, gR g2 389 a3 0 = some a4 ∧ nnMT X M_Fetch_countOf 0 [qr 4 (some a4), qi (2 : Int32)] g2 (zI fun r3 g3 => gExt g2 g3 → Z r3 g3)) ∧ (l2 = 1 → ∃ a5, gR g2 389 a3 0 = some a5 ∧ nnMT X M_Fetch_countOf 0 [qr 4 (some a5), qi (1 : Int32)] g2 (zI fun r4 g4 => gExt g2 g4 → Z r4 g4)) ∧ (l2 = 2 → ∃ a6, gR g2 389 a3 0 = some a6 ∧ ((gI g2 258 a6 0) = 0 → Z (0 : Int32) g2) ∧ (¬ (gI g2 258 a6 0) = 0 → Z (1 : Int32) g2)) ∧ (l2 = 3 → ∃ a7, gR g2 389 a3 0 = some a7 ∧ nnMT X M_Fetch_sumOfContents 0 [qr 4 (some a7)] g2 (zI fun r5 g5 => gExt g2 g5 → Z r5 g5)) ∧ (¬ l2 = 0 ∧ ¬ l2 = 1 ∧ ¬ l2 = 2 ∧ ¬ l2 = 3 → Z (-1 : Int32) g2)) ∧ (r2 = 0 → Z (-1 : Int32) g2))))) : nnWP X M_Net_fetched k 0 [qr 0 (some l0), qi l1, qi l2, none] [] g (zI Z) := by
  refine wp_iload_n (i := 1) (x := l1) (dz dl_Net_fetched_0 0 0 (.iload_n 1) 1 rfl) rfl rfl ?_
  refine wp_callS 0 [qi l1] [] (dz dl_Net_fetched_0 1 1 (.invokestatic 106) 3 rfl) ok_Net_isNode lm_Net_106 ws_Net_isNode ⟨Nat.le_of_ble_eq_true rfl, Nat.le_of_ble_eq_true rfl⟩ pn_Net_isNode (Nat.le_of_ble_eq_true rfl) (Nat.le_of_ble_eq_true rfl) (Or.inl rfl) (Nat.zero_le _) (mt_mono h ?_)
  rintro _ g1 ⟨r1, rfl, h⟩ y1
  replace h := h y1.1
  show nnWP _ _ _ _ _ [qi r1] _ _
  refine wp_if_eq (tgt := 22) (dz dl_Net_fetched_0 2 4 (.ifCond .eq (18)) 3 rfl) (by decide) (fun hc => ?_) (fun hc => ?_)
  · replace h := h.1 hc
    refine wp_iconst (dz dl_Net_fetched_0 10 22 (.iconst (-1)) 1 rfl) (v := (-1 : Int32)) (by decide) ?_
    exact wp_rt (qi _) (rt_I rfl (dz dl_Net_fetched_0 11 23 (.ireturn) 1 rfl)) ⟨_, rfl, h⟩
  · replace h := h.2 hc
    refine wp_aload_n (i := 0) (v := qr 0 (some l0)) (dz dl_Net_fetched_0 3 7 (.aload_n 0) 1 rfl) rfl rfl trivial ?_
    obtain ⟨n1, h⟩ := h
    refine wp_getA l0 5 (dz dl_Net_fetched_0 4 8 (.getfield 26) 3 rfl) lk_Net_26 (q := 1) kd_6 rfl rfl n1 ?_
    refine wp_iload_n (i := 1) (x := l1) (dz dl_Net_fetched_0 5 11 (.iload_n 1) 1 rfl) rfl rfl ?_
    obtain ⟨i1, h⟩ := h
    refine wp_aald 5 (dz dl_Net_fetched_0 6 12 (.aaload) 1 rfl) kd_6 n1 i1 ?_
    obtain ⟨a1, e1, h⟩ := h
    refine wp_getR a1 (dz dl_Net_fetched_0 7 13 (.getfield 196) 3 rfl) lk_Net_196 kd_389 rfl e1 ?_
    obtain ⟨a2, e2, h⟩ := h
    refine wp_callV a2 0 [] [] (dz dl_Net_fetched_0 8 16 (.invokevirtual 207) 3 rfl) ok_Fetch_isThere lm_Net_207 (by decide) ws_Fetch_isThere wv_Fetch_isThere ⟨Nat.le_of_ble_eq_true rfl, Nat.le_of_ble_eq_true rfl⟩ pn_Fetch_isThere (Nat.le_of_ble_eq_true rfl) (Nat.le_of_ble_eq_true rfl) e2 (Or.inl rfl) (Nat.zero_le _) (mt_mono h ?_)
    rintro _ g2 ⟨r2, rfl, h⟩ y2
    replace h := h y2.1
    show nnWP _ _ _ _ _ [qi r2] _ _
    refine wp_if_ne (tgt := 24) (dz dl_Net_fetched_0 9 19 (.ifCond .ne (5)) 3 rfl) (by decide) (fun hc => ?_) (fun hc => ?_)
    · replace h := h.1 hc
      refine wp_aload_n (i := 0) (v := qr 0 (some l0)) (dz dl_Net_fetched_0 12 24 (.aload_n 0) 1 rfl) rfl rfl trivial ?_
      refine wp_getA l0 5 (dz dl_Net_fetched_0 13 25 (.getfield 26) 3 rfl) lk_Net_26 (q := 1) kd_6 rfl rfl (y2.1.2 _ _ _ n1) ?_
      refine wp_iload_n (i := 1) (x := l1) (dz dl_Net_fetched_0 14 28 (.iload_n 1) 1 rfl) rfl rfl ?_
      refine wp_aald 5 (dz dl_Net_fetched_0 15 29 (.aaload) 1 rfl) kd_6 (y2.1.2 _ _ _ n1) i1 ?_
      obtain ⟨a3, e3, h⟩ := h
      refine wp_getR a3 (dz dl_Net_fetched_0 16 30 (.getfield 196) 3 rfl) lk_Net_196 kd_389 rfl e3 ?_
      refine wp_astore_n (i := 3) (dz dl_Net_fetched_0 17 33 (.astore_n 3) 1 rfl) rfl [qr 0 (some l0), qi l1, qi l2, qr 4 (gR g2 389 a3 0)] (by decide) trivial rfl ?_
      refine wp_iload_n (i := 2) (x := l2) (dz dl_Net_fetched_0 18 34 (.iload_n 2) 1 rfl) rfl rfl ?_
      by_cases hc0 : l2 = 0
      · replace h := h.1 hc0
        refine wp_tableInK 0 hc0 (dz dl_Net_fetched_0 19 35 (.tableswitch (59) (0) (3) #[(29), (35), (41), (54)]) 29 rfl) (by decide) (by decide) (29) (by decide) 64 (by decide) ?_
        refine wp_aload_n (i := 3) (v := qr 4 (gR g2 389 a3 0)) (dz dl_Net_fetched_0 20 64 (.aload_n 3) 1 rfl) rfl rfl trivial ?_
        refine wp_iconst (dz dl_Net_fetched_0 21 65 (.iconst (2)) 1 rfl) (v := (2 : Int32)) (by decide) ?_
        obtain ⟨a4, e4, h⟩ := h
        refine wp_callV a4 0 [qi (2 : Int32)] [] (dz dl_Net_fetched_0 22 66 (.invokevirtual 213) 3 rfl) ok_Fetch_countOf lm_Net_213 (by decide) ws_Fetch_countOf wv_Fetch_countOf ⟨Nat.le_of_ble_eq_true rfl, Nat.le_of_ble_eq_true rfl⟩ pn_Fetch_countOf (Nat.le_of_ble_eq_true rfl) (Nat.le_of_ble_eq_true rfl) e4 (Or.inl rfl) (Nat.zero_le _) (mt_mono h ?_)
        rintro _ g3 ⟨r3, rfl, h⟩ y3
        replace h := h y3.1
        show nnWP _ _ _ _ _ [qi r3] _ _
        exact wp_rt (qi _) (rt_I rfl (dz dl_Net_fetched_0 23 69 (.ireturn) 1 rfl)) ⟨_, rfl, h⟩
      replace h := h.2
      by_cases hc1 : l2 = 1
      · replace h := h.1 hc1
        refine wp_tableInK 1 hc1 (dz dl_Net_fetched_0 19 35 (.tableswitch (59) (0) (3) #[(29), (35), (41), (54)]) 29 rfl) (by decide) (by decide) (35) (by decide) 70 (by decide) ?_
        refine wp_aload_n (i := 3) (v := qr 4 (gR g2 389 a3 0)) (dz dl_Net_fetched_0 24 70 (.aload_n 3) 1 rfl) rfl rfl trivial ?_
        refine wp_iconst (dz dl_Net_fetched_0 25 71 (.iconst (1)) 1 rfl) (v := (1 : Int32)) (by decide) ?_
        obtain ⟨a5, e5, h⟩ := h
        refine wp_callV a5 0 [qi (1 : Int32)] [] (dz dl_Net_fetched_0 26 72 (.invokevirtual 213) 3 rfl) ok_Fetch_countOf lm_Net_213 (by decide) ws_Fetch_countOf wv_Fetch_countOf ⟨Nat.le_of_ble_eq_true rfl, Nat.le_of_ble_eq_true rfl⟩ pn_Fetch_countOf (Nat.le_of_ble_eq_true rfl) (Nat.le_of_ble_eq_true rfl) e5 (Or.inl rfl) (Nat.zero_le _) (mt_mono h ?_)
        rintro _ g4 ⟨r4, rfl, h⟩ y4
        replace h := h y4.1
        show nnWP _ _ _ _ _ [qi r4] _ _
        exact wp_rt (qi _) (rt_I rfl (dz dl_Net_fetched_0 27 75 (.ireturn) 1 rfl)) ⟨_, rfl, h⟩
      replace h := h.2
      by_cases hc2 : l2 = 2
      · replace h := h.1 hc2
        refine wp_tableInK 2 hc2 (dz dl_Net_fetched_0 19 35 (.tableswitch (59) (0) (3) #[(29), (35), (41), (54)]) 29 rfl) (by decide) (by decide) (41) (by decide) 76 (by decide) ?_
        refine wp_aload_n (i := 3) (v := qr 4 (gR g2 389 a3 0)) (dz dl_Net_fetched_0 28 76 (.aload_n 3) 1 rfl) rfl rfl trivial ?_
        obtain ⟨a6, e6, h⟩ := h
        refine wp_getI a6 (dz dl_Net_fetched_0 29 77 (.getfield 210) 3 rfl) lk_Net_210 kd_258 rfl e6 ?_
        refine wp_if_eq (tgt := 87) (dz dl_Net_fetched_0 30 80 (.ifCond .eq (7)) 3 rfl) (by decide) (fun hc => ?_) (fun hc => ?_)
        · replace h := h.1 hc
          refine wp_iconst (dz dl_Net_fetched_0 33 87 (.iconst (0)) 1 rfl) (v := (0 : Int32)) (by decide) ?_
          exact wp_rt (qi _) (rt_I rfl (dz dl_Net_fetched_0 34 88 (.ireturn) 1 rfl)) ⟨_, rfl, h⟩
        · replace h := h.2 hc
          refine wp_iconst (dz dl_Net_fetched_0 31 83 (.iconst (1)) 1 rfl) (v := (1 : Int32)) (by decide) ?_
          refine wp_goto (tgt := 88) (dz dl_Net_fetched_0 32 84 (.goto (4)) 3 rfl) (by decide) ?_
          exact wp_rt (qi _) (rt_I rfl (dz dl_Net_fetched_0 34 88 (.ireturn) 1 rfl)) ⟨_, rfl, h⟩
      replace h := h.2
      by_cases hc3 : l2 = 3
      · replace h := h.1 hc3
        refine wp_tableInK 3 hc3 (dz dl_Net_fetched_0 19 35 (.tableswitch (59) (0) (3) #[(29), (35), (41), (54)]) 29 rfl) (by decide) (by decide) (54) (by decide) 89 (by decide) ?_
        refine wp_aload_n (i := 3) (v := qr 4 (gR g2 389 a3 0)) (dz dl_Net_fetched_0 35 89 (.aload_n 3) 1 rfl) rfl rfl trivial ?_
        obtain ⟨a7, e7, h⟩ := h
        refine wp_callV a7 0 [] [] (dz dl_Net_fetched_0 36 90 (.invokevirtual 231) 3 rfl) ok_Fetch_sumOfContents lm_Net_231 (by decide) ws_Fetch_sumOfContents wv_Fetch_sumOfContents ⟨Nat.le_of_ble_eq_true rfl, Nat.le_of_ble_eq_true rfl⟩ pn_Fetch_sumOfContents (Nat.le_of_ble_eq_true rfl) (Nat.le_of_ble_eq_true rfl) e7 (Or.inl rfl) (Nat.zero_le _) (mt_mono h ?_)
        rintro _ g5 ⟨r5, rfl, h⟩ y5
        replace h := h y5.1
        show nnWP _ _ _ _ _ [qi r5] _ _
        exact wp_rt (qi _) (rt_I rfl (dz dl_Net_fetched_0 37 93 (.ireturn) 1 rfl)) ⟨_, rfl, h⟩
      replace h := h.2
      replace h := h ⟨hc0, hc1, hc2, hc3⟩
      have hd0 := lv_neT (a := 0) hc0 (by decide)
      have hd1 := lv_neT (a := 1) hc1 (by decide)
      have hd2 := lv_neT (a := 2) hc2 (by decide)
      have hd3 := lv_neT (a := 3) hc3 (by decide)
      refine wp_tableOut (tgt := 94) (dz dl_Net_fetched_0 19 35 (.tableswitch (59) (0) (3) #[(29), (35), (41), (54)]) 29 rfl) (by omega) (by decide) ?_
      refine wp_iconst (dz dl_Net_fetched_0 38 94 (.iconst (-1)) 1 rfl) (v := (-1 : Int32)) (by decide) ?_
      exact wp_rt (qi _) (rt_I rfl (dz dl_Net_fetched_0 39 95 (.ireturn) 1 rfl)) ⟨_, rfl, h⟩
    · replace h := h.2 hc
      refine wp_iconst (dz dl_Net_fetched_0 10 22 (.iconst (-1)) 1 rfl) (v := (-1 : Int32)) (by decide) ?_
      exact wp_rt (qi _) (rt_I rfl (dz dl_Net_fetched_0 11 23 (.ireturn) 1 rfl)) ⟨_, rfl, h⟩
theorem t_Net_fetched {X : Nat × (Nat → Int32)} {k : Nat} {g : sg} {l0 : Nat} {l1 : Int32} {l2 : Int32} {Z : Int32 → sg → Prop} (h : nnMT X M_Net_isNode 0 [qi l1] g (zI fun r1 g1 => gExt g g1 → (r1 = 0 → Z (-1 : Int32) g1) ∧ (¬ r1 = 0 → gA g1 6 l0 = some 5 ∧ vp_in l1 5 ∧ ∃ a1, gR g1 6 l0 l1.toNatClampNeg = some a1 ∧ ∃ a2, gR g1 389 a1 0 = some a2 ∧ nnMT X M_Fetch_isThere 0 [qr 4 (some a2)] g1 (zI fun r2 g2 => gExt g1 g2 → (¬ r2 = 0 → ∃ a3, gR g2 6 l0 l1.toNatClampNeg = some a3 ∧ (l2 = 0 → ∃ a4, gR g2 389 a3 0 = some a4 ∧ nnMT X M_Fetch_countOf 0 [qr 4 (some a4), qi (2 : Int32)] g2 (zI fun r3 g3 => gExt g2 g3 → Z r3 g3)) ∧ (l2 = 1 → ∃ a5, gR g2 389 a3 0 = some a5 ∧ nnMT X M_Fetch_countOf 0 [qr 4 (some a5), qi (1 : Int32)] g2 (zI fun r4 g4 => gExt g2 g4 → Z r4 g4)) ∧ (l2 = 2 → ∃ a6, gR g2 389 a3 0 = some a6 ∧ ((gI g2 258 a6 0) = 0 → Z (0 : Int32) g2) ∧ (¬ (gI g2 258 a6 0) = 0 → Z (1 : Int32) g2)) ∧ (l2 = 3 → ∃ a7, gR g2 389 a3 0 = some a7 ∧ nnMT X M_Fetch_sumOfContents 0 [qr 4 (some a7)] g2 (zI fun r5 g5 => gExt g2 g5 → Z r5 g5)) ∧ (¬ l2 = 0 ∧ ¬ l2 = 1 ∧ ¬ l2 = 2 ∧ ¬ l2 = 3 → Z (-1 : Int32) g2)) ∧ (r2 = 0 → Z (-1 : Int32) g2))))) : nnMT X M_Net_fetched k [qr 0 (some l0), qi l1, qi l2] g (zI Z) := b_Net_fetched_0 h

theorem b_Net_cost_0 {X : Nat × (Nat → Int32)} {k : Nat} {g : sg} {l0 : Nat} {l1 : Int32} {l2 : Int32} {l3 : Int32} {Z : Int32 → sg → Prop} (h : nnMT X M_Net_isNode 0 [qi l1] g (zI fun r1 g1 => gExt g g1 → (r1 = 0 → Z (-1 : Int32) g1) ∧ (¬ r1 = 0 → ∃ a1, gR g1 5 l0 0 = some a1 ∧ nnMT X M_Names_has 0 [qr 5 (some a1), qi l2] g1 (zI fun r2 g2 => gExt g1 g2 → (r2 = 0 → Z (-1 : Int32) g2) ∧ (¬ r2 = 0 → (l3 < 0 → Z (-1 : Int32) g2) ∧ (¬ l3 < 0 → (l3 < (5 : Int32) → gA g2 6 l0 = some 5 ∧ vp_in l1 5 ∧ ∃ a2, gR g2 6 l0 l1.toNatClampNeg = some a2 ∧ ∃ a3, gR g2 386 a2 0 = some a3 ∧ nnMT X M_Routes_costOf 0 [qr 11 (some a3), qi l2, qi l3] g2 (zI fun r3 g3 => gExt g2 g3 → Z r3 g3)) ∧ (¬ l3 < (5 : Int32) → Z (-1 : Int32) g2))))))) : nnWP X M_Net_cost k 0 [qr 0 (some l0), qi l1, qi l2, qi l3] [] g (zI Z) := by
  refine wp_iload_n (i := 1) (x := l1) (dz dl_Net_cost_0 0 0 (.iload_n 1) 1 rfl) rfl rfl ?_
  refine wp_callS 0 [qi l1] [] (dz dl_Net_cost_0 1 1 (.invokestatic 106) 3 rfl) ok_Net_isNode lm_Net_106 ws_Net_isNode ⟨Nat.le_of_ble_eq_true rfl, Nat.le_of_ble_eq_true rfl⟩ pn_Net_isNode (Nat.le_of_ble_eq_true rfl) (Nat.le_of_ble_eq_true rfl) (Or.inl rfl) (Nat.zero_le _) (mt_mono h ?_)
  rintro _ g1 ⟨r1, rfl, h⟩ y1
  replace h := h y1.1
  show nnWP _ _ _ _ _ [qi r1] _ _
  refine wp_if_eq (tgt := 27) (dz dl_Net_cost_0 2 4 (.ifCond .eq (23)) 3 rfl) (by decide) (fun hc => ?_) (fun hc => ?_)
  · replace h := h.1 hc
    refine wp_iconst (dz dl_Net_cost_0 13 27 (.iconst (-1)) 1 rfl) (v := (-1 : Int32)) (by decide) ?_
    exact wp_rt (qi _) (rt_I rfl (dz dl_Net_cost_0 14 28 (.ireturn) 1 rfl)) ⟨_, rfl, h⟩
  · replace h := h.2 hc
    refine wp_aload_n (i := 0) (v := qr 0 (some l0)) (dz dl_Net_cost_0 3 7 (.aload_n 0) 1 rfl) rfl rfl trivial ?_
    refine wp_getR l0 (dz dl_Net_cost_0 4 8 (.getfield 20) 3 rfl) lk_Net_20 kd_5 rfl rfl ?_
    refine wp_iload_n (i := 2) (x := l2) (dz dl_Net_cost_0 5 11 (.iload_n 2) 1 rfl) rfl rfl ?_
    obtain ⟨a1, e1, h⟩ := h
    refine wp_callV a1 0 [qi l2] [] (dz dl_Net_cost_0 6 12 (.invokevirtual 109) 3 rfl) ok_Names_has lm_Net_109 (by decide) ws_Names_has wv_Names_has ⟨Nat.le_of_ble_eq_true rfl, Nat.le_of_ble_eq_true rfl⟩ pn_Names_has (Nat.le_of_ble_eq_true rfl) (Nat.le_of_ble_eq_true rfl) e1 (Or.inl rfl) (Nat.zero_le _) (mt_mono h ?_)
    rintro _ g2 ⟨r2, rfl, h⟩ y2
    replace h := h y2.1
    show nnWP _ _ _ _ _ [qi r2] _ _
    refine wp_if_eq (tgt := 27) (dz dl_Net_cost_0 7 15 (.ifCond .eq (12)) 3 rfl) (by decide) (fun hc => ?_) (fun hc => ?_)
    · replace h := h.1 hc
      refine wp_iconst (dz dl_Net_cost_0 13 27 (.iconst (-1)) 1 rfl) (v := (-1 : Int32)) (by decide) ?_
      exact wp_rt (qi _) (rt_I rfl (dz dl_Net_cost_0 14 28 (.ireturn) 1 rfl)) ⟨_, rfl, h⟩
    · replace h := h.2 hc
      refine wp_iload_n (i := 3) (x := l3) (dz dl_Net_cost_0 8 18 (.iload_n 3) 1 rfl) rfl rfl ?_
      refine wp_if_lt (tgt := 27) (dz dl_Net_cost_0 9 19 (.ifCond .lt (8)) 3 rfl) (by decide) (fun hc => ?_) (fun hc => ?_)
      · replace h := h.1 hc
        refine wp_iconst (dz dl_Net_cost_0 13 27 (.iconst (-1)) 1 rfl) (v := (-1 : Int32)) (by decide) ?_
        exact wp_rt (qi _) (rt_I rfl (dz dl_Net_cost_0 14 28 (.ireturn) 1 rfl)) ⟨_, rfl, h⟩
      · replace h := h.2 hc
        refine wp_iload_n (i := 3) (x := l3) (dz dl_Net_cost_0 10 22 (.iload_n 3) 1 rfl) rfl rfl ?_
        refine wp_iconst (dz dl_Net_cost_0 11 23 (.iconst (5)) 1 rfl) (v := (5 : Int32)) (by decide) ?_
        refine wp_icmp_lt (tgt := 29) (dz dl_Net_cost_0 12 24 (.if_icmp .lt (5)) 3 rfl) (by decide) (fun hc => ?_) (fun hc => ?_)
        · replace h := h.1 hc
          refine wp_aload_n (i := 0) (v := qr 0 (some l0)) (dz dl_Net_cost_0 15 29 (.aload_n 0) 1 rfl) rfl rfl trivial ?_
          obtain ⟨n1, h⟩ := h
          refine wp_getA l0 5 (dz dl_Net_cost_0 16 30 (.getfield 26) 3 rfl) lk_Net_26 (q := 1) kd_6 rfl rfl n1 ?_
          refine wp_iload_n (i := 1) (x := l1) (dz dl_Net_cost_0 17 33 (.iload_n 1) 1 rfl) rfl rfl ?_
          obtain ⟨i1, h⟩ := h
          refine wp_aald 5 (dz dl_Net_cost_0 18 34 (.aaload) 1 rfl) kd_6 n1 i1 ?_
          obtain ⟨a2, e2, h⟩ := h
          refine wp_getR a2 (dz dl_Net_cost_0 19 35 (.getfield 112) 3 rfl) lk_Net_112 kd_386 rfl e2 ?_
          refine wp_iload_n (i := 2) (x := l2) (dz dl_Net_cost_0 20 38 (.iload_n 2) 1 rfl) rfl rfl ?_
          refine wp_iload_n (i := 3) (x := l3) (dz dl_Net_cost_0 21 39 (.iload_n 3) 1 rfl) rfl rfl ?_
          obtain ⟨a3, e3, h⟩ := h
          refine wp_callV a3 0 [qi l2, qi l3] [] (dz dl_Net_cost_0 22 40 (.invokevirtual 234) 3 rfl) ok_Routes_costOf lm_Net_234 (by decide) ws_Routes_costOf wv_Routes_costOf ⟨Nat.le_of_ble_eq_true rfl, Nat.le_of_ble_eq_true rfl⟩ pn_Routes_costOf (Nat.le_of_ble_eq_true rfl) (Nat.le_of_ble_eq_true rfl) e3 (Or.inl rfl) (Nat.zero_le _) (mt_mono h ?_)
          rintro _ g3 ⟨r3, rfl, h⟩ y3
          replace h := h y3.1
          show nnWP _ _ _ _ _ [qi r3] _ _
          exact wp_rt (qi _) (rt_I rfl (dz dl_Net_cost_0 23 43 (.ireturn) 1 rfl)) ⟨_, rfl, h⟩
        · replace h := h.2 hc
          refine wp_iconst (dz dl_Net_cost_0 13 27 (.iconst (-1)) 1 rfl) (v := (-1 : Int32)) (by decide) ?_
          exact wp_rt (qi _) (rt_I rfl (dz dl_Net_cost_0 14 28 (.ireturn) 1 rfl)) ⟨_, rfl, h⟩
theorem t_Net_cost {X : Nat × (Nat → Int32)} {k : Nat} {g : sg} {l0 : Nat} {l1 : Int32} {l2 : Int32} {l3 : Int32} {Z : Int32 → sg → Prop} (h : nnMT X M_Net_isNode 0 [qi l1] g (zI fun r1 g1 => gExt g g1 → (r1 = 0 → Z (-1 : Int32) g1) ∧ (¬ r1 = 0 → ∃ a1, gR g1 5 l0 0 = some a1 ∧ nnMT X M_Names_has 0 [qr 5 (some a1), qi l2] g1 (zI fun r2 g2 => gExt g1 g2 → (r2 = 0 → Z (-1 : Int32) g2) ∧ (¬ r2 = 0 → (l3 < 0 → Z (-1 : Int32) g2) ∧ (¬ l3 < 0 → (l3 < (5 : Int32) → gA g2 6 l0 = some 5 ∧ vp_in l1 5 ∧ ∃ a2, gR g2 6 l0 l1.toNatClampNeg = some a2 ∧ ∃ a3, gR g2 386 a2 0 = some a3 ∧ nnMT X M_Routes_costOf 0 [qr 11 (some a3), qi l2, qi l3] g2 (zI fun r3 g3 => gExt g2 g3 → Z r3 g3)) ∧ (¬ l3 < (5 : Int32) → Z (-1 : Int32) g2))))))) : nnMT X M_Net_cost k [qr 0 (some l0), qi l1, qi l2, qi l3] g (zI Z) := b_Net_cost_0 h

theorem b_Net_waiting_0 {X : Nat × (Nat → Int32)} {k : Nat} {g : sg} {l0 : Nat} {l1 : Int32} {l2 : Int32} {Z : Int32 → sg → Prop} (h : nnMT X M_Net_isNode 0 [qi l1] g (zI fun r1 g1 => gExt g g1 → (¬ r1 = 0 → (¬ l2 = 0 → (¬ l2 = (1 : Int32) → (l2 < (2 : Int32) → Z (-1 : Int32) g1) ∧ (¬ l2 < (2 : Int32) → (l2 ≤ (5 : Int32) → gA g1 6 l0 = some 5 ∧ vp_in l1 5 ∧ ∃ a1, gR g1 6 l0 l1.toNatClampNeg = some a1 ∧ gA g1 385 a1 = some 4 ∧ vp_in (l2 - (2 : Int32)) 4 ∧ ∃ a2, gR g1 385 a1 (l2 - (2 : Int32)).toNatClampNeg = some a2 ∧ Z (gI g1 196 a2 0) g1) ∧ (¬ l2 ≤ (5 : Int32) → Z (-1 : Int32) g1))) ∧ (l2 = (1 : Int32) → gA g1 6 l0 = some 5 ∧ vp_in l1 5 ∧ ∃ a3, gR g1 6 l0 l1.toNatClampNeg = some a3 ∧ ∃ a4, gR g1 387 a3 0 = some a4 ∧ Z (gI g1 770 a4 0) g1)) ∧ (l2 = 0 → gA g1 6 l0 = some 5 ∧ vp_in l1 5 ∧ ∃ a5, gR g1 6 l0 l1.toNatClampNeg = some a5 ∧ ∃ a6, gR g1 388 a5 0 = some a6 ∧ Z (gI g1 513 a6 0) g1)) ∧ (r1 = 0 → Z (-1 : Int32) g1))) : nnWP X M_Net_waiting k 0 [qr 0 (some l0), qi l1, qi l2] [] g (zI Z) := by
  refine wp_iload_n (i := 1) (x := l1) (dz dl_Net_waiting_0 0 0 (.iload_n 1) 1 rfl) rfl rfl ?_
  refine wp_callS 0 [qi l1] [] (dz dl_Net_waiting_0 1 1 (.invokestatic 106) 3 rfl) ok_Net_isNode lm_Net_106 ws_Net_isNode ⟨Nat.le_of_ble_eq_true rfl, Nat.le_of_ble_eq_true rfl⟩ pn_Net_isNode (Nat.le_of_ble_eq_true rfl) (Nat.le_of_ble_eq_true rfl) (Or.inl rfl) (Nat.zero_le _) (mt_mono h ?_)
  rintro _ g1 ⟨r1, rfl, h⟩ y1
  replace h := h y1.1
  show nnWP _ _ _ _ _ [qi r1] _ _
  refine wp_if_ne (tgt := 9) (dz dl_Net_waiting_0 2 4 (.ifCond .ne (5)) 3 rfl) (by decide) (fun hc => ?_) (fun hc => ?_)
  · replace h := h.1 hc
    refine wp_iload_n (i := 2) (x := l2) (dz dl_Net_waiting_0 5 9 (.iload_n 2) 1 rfl) rfl rfl ?_
    refine wp_if_ne (tgt := 26) (dz dl_Net_waiting_0 6 10 (.ifCond .ne (16)) 3 rfl) (by decide) (fun hc => ?_) (fun hc => ?_)
    · replace h := h.1 hc
      refine wp_iload_n (i := 2) (x := l2) (dz dl_Net_waiting_0 14 26 (.iload_n 2) 1 rfl) rfl rfl ?_
      refine wp_iconst (dz dl_Net_waiting_0 15 27 (.iconst (1)) 1 rfl) (v := (1 : Int32)) (by decide) ?_
      refine wp_icmp_ne (tgt := 44) (dz dl_Net_waiting_0 16 28 (.if_icmp .ne (16)) 3 rfl) (by decide) (fun hc => ?_) (fun hc => ?_)
      · replace h := h.1 hc
        refine wp_iload_n (i := 2) (x := l2) (dz dl_Net_waiting_0 24 44 (.iload_n 2) 1 rfl) rfl rfl ?_
        refine wp_iconst (dz dl_Net_waiting_0 25 45 (.iconst (2)) 1 rfl) (v := (2 : Int32)) (by decide) ?_
        refine wp_icmp_lt (tgt := 54) (dz dl_Net_waiting_0 26 46 (.if_icmp .lt (8)) 3 rfl) (by decide) (fun hc => ?_) (fun hc => ?_)
        · replace h := h.1 hc
          refine wp_iconst (dz dl_Net_waiting_0 30 54 (.iconst (-1)) 1 rfl) (v := (-1 : Int32)) (by decide) ?_
          exact wp_rt (qi _) (rt_I rfl (dz dl_Net_waiting_0 31 55 (.ireturn) 1 rfl)) ⟨_, rfl, h⟩
        · replace h := h.2 hc
          refine wp_iload_n (i := 2) (x := l2) (dz dl_Net_waiting_0 27 49 (.iload_n 2) 1 rfl) rfl rfl ?_
          refine wp_iconst (dz dl_Net_waiting_0 28 50 (.iconst (5)) 1 rfl) (v := (5 : Int32)) (by decide) ?_
          refine wp_icmp_le (tgt := 56) (dz dl_Net_waiting_0 29 51 (.if_icmp .le (5)) 3 rfl) (by decide) (fun hc => ?_) (fun hc => ?_)
          · replace h := h.1 hc
            refine wp_aload_n (i := 0) (v := qr 0 (some l0)) (dz dl_Net_waiting_0 32 56 (.aload_n 0) 1 rfl) rfl rfl trivial ?_
            obtain ⟨n1, h⟩ := h
            refine wp_getA l0 5 (dz dl_Net_waiting_0 33 57 (.getfield 26) 3 rfl) lk_Net_26 (q := 1) kd_6 rfl rfl n1 ?_
            refine wp_iload_n (i := 1) (x := l1) (dz dl_Net_waiting_0 34 60 (.iload_n 1) 1 rfl) rfl rfl ?_
            obtain ⟨i1, h⟩ := h
            refine wp_aald 5 (dz dl_Net_waiting_0 35 61 (.aaload) 1 rfl) kd_6 n1 i1 ?_
            obtain ⟨a1, e1, h⟩ := h
            obtain ⟨n2, h⟩ := h
            refine wp_getA a1 4 (dz dl_Net_waiting_0 36 62 (.getfield 245) 3 rfl) lk_Net_245 (q := 1) kd_385 rfl e1 n2 ?_
            refine wp_iload_n (i := 2) (x := l2) (dz dl_Net_waiting_0 37 65 (.iload_n 2) 1 rfl) rfl rfl ?_
            refine wp_iconst (dz dl_Net_waiting_0 38 66 (.iconst (2)) 1 rfl) (v := (2 : Int32)) (by decide) ?_
            refine wp_isub (dz dl_Net_waiting_0 39 67 (.isub) 1 rfl) ?_
            obtain ⟨i2, h⟩ := h
            refine wp_aald 4 (dz dl_Net_waiting_1 0 68 (.aaload) 1 rfl) kd_385 n2 i2 ?_
            obtain ⟨a2, e2, h⟩ := h
            refine wp_getI a2 (dz dl_Net_waiting_1 1 69 (.getfield 249) 3 rfl) lk_Net_249 kd_196 rfl e2 ?_
            exact wp_rt (qi _) (rt_I rfl (dz dl_Net_waiting_1 2 72 (.ireturn) 1 rfl)) ⟨_, rfl, h⟩
          · replace h := h.2 hc
            refine wp_iconst (dz dl_Net_waiting_0 30 54 (.iconst (-1)) 1 rfl) (v := (-1 : Int32)) (by decide) ?_
            exact wp_rt (qi _) (rt_I rfl (dz dl_Net_waiting_0 31 55 (.ireturn) 1 rfl)) ⟨_, rfl, h⟩
      · replace h := h.2 hc
        refine wp_aload_n (i := 0) (v := qr 0 (some l0)) (dz dl_Net_waiting_0 17 31 (.aload_n 0) 1 rfl) rfl rfl trivial ?_
        obtain ⟨n3, h⟩ := h
        refine wp_getA l0 5 (dz dl_Net_waiting_0 18 32 (.getfield 26) 3 rfl) lk_Net_26 (q := 1) kd_6 rfl rfl n3 ?_
        refine wp_iload_n (i := 1) (x := l1) (dz dl_Net_waiting_0 19 35 (.iload_n 1) 1 rfl) rfl rfl ?_
        obtain ⟨i3, h⟩ := h
        refine wp_aald 5 (dz dl_Net_waiting_0 20 36 (.aaload) 1 rfl) kd_6 n3 i3 ?_
        obtain ⟨a3, e3, h⟩ := h
        refine wp_getR a3 (dz dl_Net_waiting_0 21 37 (.getfield 238) 3 rfl) lk_Net_238 kd_387 rfl e3 ?_
        obtain ⟨a4, e4, h⟩ := h
        refine wp_getI a4 (dz dl_Net_waiting_0 22 40 (.getfield 242) 3 rfl) lk_Net_242 kd_770 rfl e4 ?_
        exact wp_rt (qi _) (rt_I rfl (dz dl_Net_waiting_0 23 43 (.ireturn) 1 rfl)) ⟨_, rfl, h⟩
    · replace h := h.2 hc
      refine wp_aload_n (i := 0) (v := qr 0 (some l0)) (dz dl_Net_waiting_0 7 13 (.aload_n 0) 1 rfl) rfl rfl trivial ?_
      obtain ⟨n4, h⟩ := h
      refine wp_getA l0 5 (dz dl_Net_waiting_0 8 14 (.getfield 26) 3 rfl) lk_Net_26 (q := 1) kd_6 rfl rfl n4 ?_
      refine wp_iload_n (i := 1) (x := l1) (dz dl_Net_waiting_0 9 17 (.iload_n 1) 1 rfl) rfl rfl ?_
      obtain ⟨i4, h⟩ := h
      refine wp_aald 5 (dz dl_Net_waiting_0 10 18 (.aaload) 1 rfl) kd_6 n4 i4 ?_
      obtain ⟨a5, e5, h⟩ := h
      refine wp_getR a5 (dz dl_Net_waiting_0 11 19 (.getfield 172) 3 rfl) lk_Net_172 kd_388 rfl e5 ?_
      obtain ⟨a6, e6, h⟩ := h
      refine wp_getI a6 (dz dl_Net_waiting_0 12 22 (.getfield 237) 3 rfl) lk_Net_237 kd_513 rfl e6 ?_
      exact wp_rt (qi _) (rt_I rfl (dz dl_Net_waiting_0 13 25 (.ireturn) 1 rfl)) ⟨_, rfl, h⟩
  · replace h := h.2 hc
    refine wp_iconst (dz dl_Net_waiting_0 3 7 (.iconst (-1)) 1 rfl) (v := (-1 : Int32)) (by decide) ?_
    exact wp_rt (qi _) (rt_I rfl (dz dl_Net_waiting_0 4 8 (.ireturn) 1 rfl)) ⟨_, rfl, h⟩
theorem t_Net_waiting {X : Nat × (Nat → Int32)} {k : Nat} {g : sg} {l0 : Nat} {l1 : Int32} {l2 : Int32} {Z : Int32 → sg → Prop} (h : nnMT X M_Net_isNode 0 [qi l1] g (zI fun r1 g1 => gExt g g1 → (¬ r1 = 0 → (¬ l2 = 0 → (¬ l2 = (1 : Int32) → (l2 < (2 : Int32) → Z (-1 : Int32) g1) ∧ (¬ l2 < (2 : Int32) → (l2 ≤ (5 : Int32) → gA g1 6 l0 = some 5 ∧ vp_in l1 5 ∧ ∃ a1, gR g1 6 l0 l1.toNatClampNeg = some a1 ∧ gA g1 385 a1 = some 4 ∧ vp_in (l2 - (2 : Int32)) 4 ∧ ∃ a2, gR g1 385 a1 (l2 - (2 : Int32)).toNatClampNeg = some a2 ∧ Z (gI g1 196 a2 0) g1) ∧ (¬ l2 ≤ (5 : Int32) → Z (-1 : Int32) g1))) ∧ (l2 = (1 : Int32) → gA g1 6 l0 = some 5 ∧ vp_in l1 5 ∧ ∃ a3, gR g1 6 l0 l1.toNatClampNeg = some a3 ∧ ∃ a4, gR g1 387 a3 0 = some a4 ∧ Z (gI g1 770 a4 0) g1)) ∧ (l2 = 0 → gA g1 6 l0 = some 5 ∧ vp_in l1 5 ∧ ∃ a5, gR g1 6 l0 l1.toNatClampNeg = some a5 ∧ ∃ a6, gR g1 388 a5 0 = some a6 ∧ Z (gI g1 513 a6 0) g1)) ∧ (r1 = 0 → Z (-1 : Int32) g1))) : nnMT X M_Net_waiting k [qr 0 (some l0), qi l1, qi l2] g (zI Z) := b_Net_waiting_0 h

theorem b_Net_stored_0 {X : Nat × (Nat → Int32)} {k : Nat} {g : sg} {l0 : Nat} {l1 : Int32} {l2 : Int32} {Z : Int32 → sg → Prop} (h : nnMT X M_Net_isNode 0 [qi l1] g (zI fun r1 g1 => gExt g g1 → (r1 = 0 → Z (-1 : Int32) g1) ∧ (¬ r1 = 0 → gA g1 6 l0 = some 5 ∧ vp_in l1 5 ∧ ∃ a1, gR g1 6 l0 l1.toNatClampNeg = some a1 ∧ ∃ a2, gR g1 387 a1 0 = some a2 ∧ nnMT X M_Store_placeOf 0 [qr 12 (some a2), qi l2] g1 (zI fun r2 g2 => gExt g1 g2 → Z r2 g2)))) : nnWP X M_Net_stored k 0 [qr 0 (some l0), qi l1, qi l2] [] g (zI Z) := by
  refine wp_iload_n (i := 1) (x := l1) (dz dl_Net_stored_0 0 0 (.iload_n 1) 1 rfl) rfl rfl ?_
  refine wp_callS 0 [qi l1] [] (dz dl_Net_stored_0 1 1 (.invokestatic 106) 3 rfl) ok_Net_isNode lm_Net_106 ws_Net_isNode ⟨Nat.le_of_ble_eq_true rfl, Nat.le_of_ble_eq_true rfl⟩ pn_Net_isNode (Nat.le_of_ble_eq_true rfl) (Nat.le_of_ble_eq_true rfl) (Or.inl rfl) (Nat.zero_le _) (mt_mono h ?_)
  rintro _ g1 ⟨r1, rfl, h⟩ y1
  replace h := h y1.1
  show nnWP _ _ _ _ _ [qi r1] _ _
  refine wp_if_eq (tgt := 23) (dz dl_Net_stored_0 2 4 (.ifCond .eq (19)) 3 rfl) (by decide) (fun hc => ?_) (fun hc => ?_)
  · replace h := h.1 hc
    refine wp_iconst (dz dl_Net_stored_0 11 23 (.iconst (-1)) 1 rfl) (v := (-1 : Int32)) (by decide) ?_
    exact wp_rt (qi _) (rt_I rfl (dz dl_Net_stored_0 12 24 (.ireturn) 1 rfl)) ⟨_, rfl, h⟩
  · replace h := h.2 hc
    refine wp_aload_n (i := 0) (v := qr 0 (some l0)) (dz dl_Net_stored_0 3 7 (.aload_n 0) 1 rfl) rfl rfl trivial ?_
    obtain ⟨n1, h⟩ := h
    refine wp_getA l0 5 (dz dl_Net_stored_0 4 8 (.getfield 26) 3 rfl) lk_Net_26 (q := 1) kd_6 rfl rfl n1 ?_
    refine wp_iload_n (i := 1) (x := l1) (dz dl_Net_stored_0 5 11 (.iload_n 1) 1 rfl) rfl rfl ?_
    obtain ⟨i1, h⟩ := h
    refine wp_aald 5 (dz dl_Net_stored_0 6 12 (.aaload) 1 rfl) kd_6 n1 i1 ?_
    obtain ⟨a1, e1, h⟩ := h
    refine wp_getR a1 (dz dl_Net_stored_0 7 13 (.getfield 238) 3 rfl) lk_Net_238 kd_387 rfl e1 ?_
    refine wp_iload_n (i := 2) (x := l2) (dz dl_Net_stored_0 8 16 (.iload_n 2) 1 rfl) rfl rfl ?_
    obtain ⟨a2, e2, h⟩ := h
    refine wp_callV a2 0 [qi l2] [] (dz dl_Net_stored_0 9 17 (.invokevirtual 252) 3 rfl) ok_Store_placeOf lm_Net_252 (by decide) ws_Store_placeOf wv_Store_placeOf ⟨Nat.le_of_ble_eq_true rfl, Nat.le_of_ble_eq_true rfl⟩ pn_Store_placeOf (Nat.le_of_ble_eq_true rfl) (Nat.le_of_ble_eq_true rfl) e2 (Or.inl rfl) (Nat.zero_le _) (mt_mono h ?_)
    rintro _ g2 ⟨r2, rfl, h⟩ y2
    replace h := h y2.1
    show nnWP _ _ _ _ _ [qi r2] _ _
    refine wp_goto (tgt := 24) (dz dl_Net_stored_0 10 20 (.goto (4)) 3 rfl) (by decide) ?_
    exact wp_rt (qi _) (rt_I rfl (dz dl_Net_stored_0 12 24 (.ireturn) 1 rfl)) ⟨_, rfl, h⟩
theorem t_Net_stored {X : Nat × (Nat → Int32)} {k : Nat} {g : sg} {l0 : Nat} {l1 : Int32} {l2 : Int32} {Z : Int32 → sg → Prop} (h : nnMT X M_Net_isNode 0 [qi l1] g (zI fun r1 g1 => gExt g g1 → (r1 = 0 → Z (-1 : Int32) g1) ∧ (¬ r1 = 0 → gA g1 6 l0 = some 5 ∧ vp_in l1 5 ∧ ∃ a1, gR g1 6 l0 l1.toNatClampNeg = some a1 ∧ ∃ a2, gR g1 387 a1 0 = some a2 ∧ nnMT X M_Store_placeOf 0 [qr 12 (some a2), qi l2] g1 (zI fun r2 g2 => gExt g1 g2 → Z r2 g2)))) : nnMT X M_Net_stored k [qr 0 (some l0), qi l1, qi l2] g (zI Z) := b_Net_stored_0 h

theorem b_Net_request_0 {X : Nat × (Nat → Int32)} {k : Nat} {g : sg} {l0 : Nat} {l1 : Int32} {l2 : Int32} {Z : Int32 → sg → Prop} (h : (l1 < 0 → Z (-1 : Int32) g) ∧ (¬ l1 < 0 → (l1 < (gI g 10 l0 0) → gA g 9 l0 = some 120 ∧ vp_in l1 120 ∧ (l2 = 0 → ∃ a1, gR g 9 l0 l1.toNatClampNeg = some a1 ∧ Z (gI g 580 a1 0) g) ∧ (l2 = 1 → ∃ a2, gR g 9 l0 l1.toNatClampNeg = some a2 ∧ (gR g 581 a2 0 = none → Z (-1 : Int32) g) ∧ (∀ a3, gR g 581 a2 0 = some a3 → Z (gI g 449 a3 0) g)) ∧ (l2 = 2 → ∃ a4, gR g 9 l0 l1.toNatClampNeg = some a4 ∧ (gR g 581 a4 0 = none → Z (0 : Int32) g) ∧ (∀ a5, gR g 581 a4 0 = some a5 → Z (gI g 453 a5 0) g)) ∧ (¬ l2 = 0 ∧ ¬ l2 = 1 ∧ ¬ l2 = 2 → Z (-1 : Int32) g)) ∧ (¬ l1 < (gI g 10 l0 0) → Z (-1 : Int32) g))) : nnWP X M_Net_request k 0 [qr 0 (some l0), qi l1, qi l2, none] [] g (zI Z) := by
  refine wp_iload_n (i := 1) (x := l1) (dz dl_Net_request_0 0 0 (.iload_n 1) 1 rfl) rfl rfl ?_
  refine wp_if_lt (tgt := 12) (dz dl_Net_request_0 1 1 (.ifCond .lt (11)) 3 rfl) (by decide) (fun hc => ?_) (fun hc => ?_)
  · replace h := h.1 hc
    refine wp_iconst (dz dl_Net_request_0 6 12 (.iconst (-1)) 1 rfl) (v := (-1 : Int32)) (by decide) ?_
    exact wp_rt (qi _) (rt_I rfl (dz dl_Net_request_0 7 13 (.ireturn) 1 rfl)) ⟨_, rfl, h⟩
  · replace h := h.2 hc
    refine wp_iload_n (i := 1) (x := l1) (dz dl_Net_request_0 2 4 (.iload_n 1) 1 rfl) rfl rfl ?_
    refine wp_aload_n (i := 0) (v := qr 0 (some l0)) (dz dl_Net_request_0 3 5 (.aload_n 0) 1 rfl) rfl rfl trivial ?_
    refine wp_getI l0 (dz dl_Net_request_0 4 6 (.getfield 181) 3 rfl) lk_Net_181 kd_10 rfl rfl ?_
    refine wp_icmp_lt (tgt := 14) (dz dl_Net_request_0 5 9 (.if_icmp .lt (5)) 3 rfl) (by decide) (fun hc => ?_) (fun hc => ?_)
    · replace h := h.1 hc
      refine wp_aload_n (i := 0) (v := qr 0 (some l0)) (dz dl_Net_request_0 8 14 (.aload_n 0) 1 rfl) rfl rfl trivial ?_
      obtain ⟨n1, h⟩ := h
      refine wp_getA l0 120 (dz dl_Net_request_0 9 15 (.getfield 41) 3 rfl) lk_Net_41 (q := 1) kd_9 rfl rfl n1 ?_
      refine wp_iload_n (i := 1) (x := l1) (dz dl_Net_request_0 10 18 (.iload_n 1) 1 rfl) rfl rfl ?_
      obtain ⟨i1, h⟩ := h
      refine wp_aald 120 (dz dl_Net_request_0 11 19 (.aaload) 1 rfl) kd_9 n1 i1 ?_
      refine wp_astore_n (i := 3) (dz dl_Net_request_0 12 20 (.astore_n 3) 1 rfl) rfl [qr 0 (some l0), qi l1, qi l2, qr 9 (gR g 9 l0 l1.toNatClampNeg)] (by decide) trivial rfl ?_
      refine wp_iload_n (i := 2) (x := l2) (dz dl_Net_request_0 13 21 (.iload_n 2) 1 rfl) rfl rfl ?_
      by_cases hc0 : l2 = 0
      · replace h := h.1 hc0
        refine wp_tableInK 0 hc0 (dz dl_Net_request_0 14 22 (.tableswitch (69) (0) (2) #[(26), (31), (50)]) 26 rfl) (by decide) (by decide) (26) (by decide) 48 (by decide) ?_
        refine wp_aload_n (i := 3) (v := qr 9 (gR g 9 l0 l1.toNatClampNeg)) (dz dl_Net_request_0 15 48 (.aload_n 3) 1 rfl) rfl rfl trivial ?_
        obtain ⟨a1, e1, h⟩ := h
        refine wp_getI a1 (dz dl_Net_request_0 16 49 (.getfield 184) 3 rfl) lk_Net_184 kd_580 rfl e1 ?_
        exact wp_rt (qi _) (rt_I rfl (dz dl_Net_request_0 17 52 (.ireturn) 1 rfl)) ⟨_, rfl, h⟩
      replace h := h.2
      by_cases hc1 : l2 = 1
      · replace h := h.1 hc1
        refine wp_tableInK 1 hc1 (dz dl_Net_request_0 14 22 (.tableswitch (69) (0) (2) #[(26), (31), (50)]) 26 rfl) (by decide) (by decide) (31) (by decide) 53 (by decide) ?_
        refine wp_aload_n (i := 3) (v := qr 9 (gR g 9 l0 l1.toNatClampNeg)) (dz dl_Net_request_0 18 53 (.aload_n 3) 1 rfl) rfl rfl trivial ?_
        obtain ⟨a2, e2, h⟩ := h
        refine wp_getR a2 (dz dl_Net_request_0 19 54 (.getfield 255) 3 rfl) lk_Net_255 kd_581 rfl e2 ?_
        refine wp_ifnonnull (tgt := 64) (dz dl_Net_request_0 20 57 (.ifnonnull (7)) 3 rfl) (by decide) (fun a3 e3 => ?_) (fun hc => ?_)
        · replace h := h.2 a3 e3
          refine wp_aload_n (i := 3) (v := qr 9 (gR g 9 l0 l1.toNatClampNeg)) (dz dl_Net_request_0 23 64 (.aload_n 3) 1 rfl) rfl rfl trivial ?_
          refine wp_getR a2 (dz dl_Net_request_0 24 65 (.getfield 255) 3 rfl) lk_Net_255 kd_581 rfl e2 ?_
          refine wp_getI a3 (dz dl_Net_request_0 25 68 (.getfield 259) 3 rfl) lk_Net_259 kd_449 rfl e3 ?_
          exact wp_rt (qi _) (rt_I rfl (dz dl_Net_request_0 26 71 (.ireturn) 1 rfl)) ⟨_, rfl, h⟩
        · replace h := h.1 hc
          refine wp_iconst (dz dl_Net_request_0 21 60 (.iconst (-1)) 1 rfl) (v := (-1 : Int32)) (by decide) ?_
          refine wp_goto (tgt := 71) (dz dl_Net_request_0 22 61 (.goto (10)) 3 rfl) (by decide) ?_
          exact wp_rt (qi _) (rt_I rfl (dz dl_Net_request_0 26 71 (.ireturn) 1 rfl)) ⟨_, rfl, h⟩
      replace h := h.2
      by_cases hc2 : l2 = 2
      · replace h := h.1 hc2
        refine wp_tableInK 2 hc2 (dz dl_Net_request_0 14 22 (.tableswitch (69) (0) (2) #[(26), (31), (50)]) 26 rfl) (by decide) (by decide) (50) (by decide) 72 (by decide) ?_
        refine wp_aload_n (i := 3) (v := qr 9 (gR g 9 l0 l1.toNatClampNeg)) (dz dl_Net_request_0 27 72 (.aload_n 3) 1 rfl) rfl rfl trivial ?_
        obtain ⟨a4, e4, h⟩ := h
        refine wp_getR a4 (dz dl_Net_request_0 28 73 (.getfield 255) 3 rfl) lk_Net_255 kd_581 rfl e4 ?_
        refine wp_ifnonnull (tgt := 83) (dz dl_Net_request_0 29 76 (.ifnonnull (7)) 3 rfl) (by decide) (fun a5 e5 => ?_) (fun hc => ?_)
        · replace h := h.2 a5 e5
          refine wp_aload_n (i := 3) (v := qr 9 (gR g 9 l0 l1.toNatClampNeg)) (dz dl_Net_request_0 32 83 (.aload_n 3) 1 rfl) rfl rfl trivial ?_
          refine wp_getR a4 (dz dl_Net_request_0 33 84 (.getfield 255) 3 rfl) lk_Net_255 kd_581 rfl e4 ?_
          refine wp_getI a5 (dz dl_Net_request_0 34 87 (.getfield 262) 3 rfl) lk_Net_262 kd_453 rfl e5 ?_
          exact wp_rt (qi _) (rt_I rfl (dz dl_Net_request_0 35 90 (.ireturn) 1 rfl)) ⟨_, rfl, h⟩
        · replace h := h.1 hc
          refine wp_iconst (dz dl_Net_request_0 30 79 (.iconst (0)) 1 rfl) (v := (0 : Int32)) (by decide) ?_
          refine wp_goto (tgt := 90) (dz dl_Net_request_0 31 80 (.goto (10)) 3 rfl) (by decide) ?_
          exact wp_rt (qi _) (rt_I rfl (dz dl_Net_request_0 35 90 (.ireturn) 1 rfl)) ⟨_, rfl, h⟩
      replace h := h.2
      replace h := h ⟨hc0, hc1, hc2⟩
      have hd0 := lv_neT (a := 0) hc0 (by decide)
      have hd1 := lv_neT (a := 1) hc1 (by decide)
      have hd2 := lv_neT (a := 2) hc2 (by decide)
      refine wp_tableOut (tgt := 91) (dz dl_Net_request_0 14 22 (.tableswitch (69) (0) (2) #[(26), (31), (50)]) 26 rfl) (by omega) (by decide) ?_
      refine wp_iconst (dz dl_Net_request_0 36 91 (.iconst (-1)) 1 rfl) (v := (-1 : Int32)) (by decide) ?_
      exact wp_rt (qi _) (rt_I rfl (dz dl_Net_request_0 37 92 (.ireturn) 1 rfl)) ⟨_, rfl, h⟩
    · replace h := h.2 hc
      refine wp_iconst (dz dl_Net_request_0 6 12 (.iconst (-1)) 1 rfl) (v := (-1 : Int32)) (by decide) ?_
      exact wp_rt (qi _) (rt_I rfl (dz dl_Net_request_0 7 13 (.ireturn) 1 rfl)) ⟨_, rfl, h⟩
theorem t_Net_request {X : Nat × (Nat → Int32)} {k : Nat} {g : sg} {l0 : Nat} {l1 : Int32} {l2 : Int32} {Z : Int32 → sg → Prop} (h : (l1 < 0 → Z (-1 : Int32) g) ∧ (¬ l1 < 0 → (l1 < (gI g 10 l0 0) → gA g 9 l0 = some 120 ∧ vp_in l1 120 ∧ (l2 = 0 → ∃ a1, gR g 9 l0 l1.toNatClampNeg = some a1 ∧ Z (gI g 580 a1 0) g) ∧ (l2 = 1 → ∃ a2, gR g 9 l0 l1.toNatClampNeg = some a2 ∧ (gR g 581 a2 0 = none → Z (-1 : Int32) g) ∧ (∀ a3, gR g 581 a2 0 = some a3 → Z (gI g 449 a3 0) g)) ∧ (l2 = 2 → ∃ a4, gR g 9 l0 l1.toNatClampNeg = some a4 ∧ (gR g 581 a4 0 = none → Z (0 : Int32) g) ∧ (∀ a5, gR g 581 a4 0 = some a5 → Z (gI g 453 a5 0) g)) ∧ (¬ l2 = 0 ∧ ¬ l2 = 1 ∧ ¬ l2 = 2 → Z (-1 : Int32) g)) ∧ (¬ l1 < (gI g 10 l0 0) → Z (-1 : Int32) g))) : nnMT X M_Net_request k [qr 0 (some l0), qi l1, qi l2] g (zI Z) := b_Net_request_0 h

theorem b_Net_within_0 {X : Nat × (Nat → Int32)} {k : Nat} {g : sg} {l0 : Int32} {l1 : Int32} {l2 : Int32} {Z : Int32 → sg → Prop} (h : Z (if l1 < (if l0 < l2 then l0 else l2) then (if l0 < l2 then l0 else l2) else l1) g) : nnWP X M_Net_within k 0 [qi l0, qi l1, qi l2] [] g (zI Z) := by
  refine wp_iload_n (i := 1) (x := l1) (dz dl_Net_within_0 0 0 (.iload_n 1) 1 rfl) rfl rfl ?_
  refine wp_iload_n (i := 2) (x := l2) (dz dl_Net_within_0 1 1 (.iload_n 2) 1 rfl) rfl rfl ?_
  refine wp_iload_n (i := 0) (x := l0) (dz dl_Net_within_0 2 2 (.iload_n 0) 1 rfl) rfl rfl ?_
  refine wp_mmin (dz dl_Net_within_0 3 3 (.invokestatic 265) 3 rfl) wm_Net_265 w_ms_min w_mi w_mc_min (by decide) (by decide) (Nat.le_of_ble_eq_true rfl) ?_
  refine wp_mmax (dz dl_Net_within_0 4 6 (.invokestatic 270) 3 rfl) wm_Net_270 w_ms_max w_mi w_mc_max (by decide) (by decide) (Nat.le_of_ble_eq_true rfl) ?_
  exact wp_rt (qi _) (rt_I rfl (dz dl_Net_within_0 5 9 (.ireturn) 1 rfl)) ⟨_, rfl, h⟩
theorem t_Net_within {X : Nat × (Nat → Int32)} {k : Nat} {g : sg} {l0 : Int32} {l1 : Int32} {l2 : Int32} {Z : Int32 → sg → Prop} (h : Z (if l1 < (if l0 < l2 then l0 else l2) then (if l0 < l2 then l0 else l2) else l1) g) : nnMT X M_Net_within k [qi l0, qi l1, qi l2] g (zI Z) := b_Net_within_0 h

theorem b_Net_isNode_0 {X : Nat × (Nat → Int32)} {k : Nat} {g : sg} {l0 : Int32} {Z : Int32 → sg → Prop} (h : (l0 < 0 → Z (0 : Int32) g) ∧ (¬ l0 < 0 → ((5 : Int32) ≤ l0 → Z (0 : Int32) g) ∧ (¬ (5 : Int32) ≤ l0 → Z (1 : Int32) g))) : nnWP X M_Net_isNode k 0 [qi l0] [] g (zI Z) := by
  refine wp_iload_n (i := 0) (x := l0) (dz dl_Net_isNode_0 0 0 (.iload_n 0) 1 rfl) rfl rfl ?_
  refine wp_if_lt (tgt := 13) (dz dl_Net_isNode_0 1 1 (.ifCond .lt (12)) 3 rfl) (by decide) (fun hc => ?_) (fun hc => ?_)
  · replace h := h.1 hc
    refine wp_iconst (dz dl_Net_isNode_0 7 13 (.iconst (0)) 1 rfl) (v := (0 : Int32)) (by decide) ?_
    exact wp_rt (qi _) (rt_Z rfl (Or.inl rfl) (dz dl_Net_isNode_0 8 14 (.ireturn) 1 rfl)) ⟨_, rfl, h⟩
  · replace h := h.2 hc
    refine wp_iload_n (i := 0) (x := l0) (dz dl_Net_isNode_0 2 4 (.iload_n 0) 1 rfl) rfl rfl ?_
    refine wp_iconst (dz dl_Net_isNode_0 3 5 (.iconst (5)) 1 rfl) (v := (5 : Int32)) (by decide) ?_
    refine wp_icmp_ge (tgt := 13) (dz dl_Net_isNode_0 4 6 (.if_icmp .ge (7)) 3 rfl) (by decide) (fun hc => ?_) (fun hc => ?_)
    · replace h := h.1 hc
      refine wp_iconst (dz dl_Net_isNode_0 7 13 (.iconst (0)) 1 rfl) (v := (0 : Int32)) (by decide) ?_
      exact wp_rt (qi _) (rt_Z rfl (Or.inl rfl) (dz dl_Net_isNode_0 8 14 (.ireturn) 1 rfl)) ⟨_, rfl, h⟩
    · replace h := h.2 hc
      refine wp_iconst (dz dl_Net_isNode_0 5 9 (.iconst (1)) 1 rfl) (v := (1 : Int32)) (by decide) ?_
      refine wp_goto (tgt := 14) (dz dl_Net_isNode_0 6 10 (.goto (4)) 3 rfl) (by decide) ?_
      exact wp_rt (qi _) (rt_Z rfl (Or.inr rfl) (dz dl_Net_isNode_0 8 14 (.ireturn) 1 rfl)) ⟨_, rfl, h⟩
theorem t_Net_isNode {X : Nat × (Nat → Int32)} {k : Nat} {g : sg} {l0 : Int32} {Z : Int32 → sg → Prop} (h : (l0 < 0 → Z (0 : Int32) g) ∧ (¬ l0 < 0 → ((5 : Int32) ≤ l0 → Z (0 : Int32) g) ∧ (¬ (5 : Int32) ≤ l0 → Z (1 : Int32) g))) : nnMT X M_Net_isNode k [qi l0] g (zI Z) := b_Net_isNode_0 h

theorem b_Net_linkFace_0 {X : Nat × (Nat → Int32)} {k : Nat} {g : sg} {l0 : Nat} {l1 : Int32} {l2 : Int32} {Z : Option Nat → sg → Prop} (h : nnMT X M_Net_isNode 0 [qi l1] g (zI fun r1 g1 => gExt g g1 → (r1 = 0 → Z none g1) ∧ (¬ r1 = 0 → (l2 < 0 → Z none g1) ∧ (¬ l2 < 0 → ((4 : Int32) ≤ l2 → Z none g1) ∧ (¬ (4 : Int32) ≤ l2 → gA g1 6 l0 = some 5 ∧ vp_in l1 5 ∧ ∃ a1, gR g1 6 l0 l1.toNatClampNeg = some a1 ∧ gA g1 385 a1 = some 4 ∧ vp_in l2 4 ∧ Z (gR g1 385 a1 l2.toNatClampNeg) g1))))) : nnWP X M_Net_linkFace k 0 [qr 0 (some l0), qi l1, qi l2] [] g (zR 3 Z) := by
  refine wp_iload_n (i := 1) (x := l1) (dz dl_Net_linkFace_0 0 0 (.iload_n 1) 1 rfl) rfl rfl ?_
  refine wp_callS 0 [qi l1] [] (dz dl_Net_linkFace_0 1 1 (.invokestatic 106) 3 rfl) ok_Net_isNode lm_Net_106 ws_Net_isNode ⟨Nat.le_of_ble_eq_true rfl, Nat.le_of_ble_eq_true rfl⟩ pn_Net_isNode (Nat.le_of_ble_eq_true rfl) (Nat.le_of_ble_eq_true rfl) (Or.inl rfl) (Nat.zero_le _) (mt_mono h ?_)
  rintro _ g1 ⟨r1, rfl, h⟩ y1
  replace h := h y1.1
  show nnWP _ _ _ _ _ [qi r1] _ _
  refine wp_if_eq (tgt := 30) (dz dl_Net_linkFace_0 2 4 (.ifCond .eq (26)) 3 rfl) (by decide) (fun hc => ?_) (fun hc => ?_)
  · replace h := h.1 hc
    refine wp_null 3 (dz dl_Net_linkFace_0 16 30 (.aconst_null) 1 rfl) ?_
    exact wp_rt (qr 3 _) (rt_R rfl (dz dl_Net_linkFace_0 17 31 (.areturn) 1 rfl)) ⟨_, rfl, h⟩
  · replace h := h.2 hc
    refine wp_iload_n (i := 2) (x := l2) (dz dl_Net_linkFace_0 3 7 (.iload_n 2) 1 rfl) rfl rfl ?_
    refine wp_if_lt (tgt := 30) (dz dl_Net_linkFace_0 4 8 (.ifCond .lt (22)) 3 rfl) (by decide) (fun hc => ?_) (fun hc => ?_)
    · replace h := h.1 hc
      refine wp_null 3 (dz dl_Net_linkFace_0 16 30 (.aconst_null) 1 rfl) ?_
      exact wp_rt (qr 3 _) (rt_R rfl (dz dl_Net_linkFace_0 17 31 (.areturn) 1 rfl)) ⟨_, rfl, h⟩
    · replace h := h.2 hc
      refine wp_iload_n (i := 2) (x := l2) (dz dl_Net_linkFace_0 5 11 (.iload_n 2) 1 rfl) rfl rfl ?_
      refine wp_iconst (dz dl_Net_linkFace_0 6 12 (.iconst (4)) 1 rfl) (v := (4 : Int32)) (by decide) ?_
      refine wp_icmp_ge (tgt := 30) (dz dl_Net_linkFace_0 7 13 (.if_icmp .ge (17)) 3 rfl) (by decide) (fun hc => ?_) (fun hc => ?_)
      · replace h := h.1 hc
        refine wp_null 3 (dz dl_Net_linkFace_0 16 30 (.aconst_null) 1 rfl) ?_
        exact wp_rt (qr 3 _) (rt_R rfl (dz dl_Net_linkFace_0 17 31 (.areturn) 1 rfl)) ⟨_, rfl, h⟩
      · replace h := h.2 hc
        refine wp_aload_n (i := 0) (v := qr 0 (some l0)) (dz dl_Net_linkFace_0 8 16 (.aload_n 0) 1 rfl) rfl rfl trivial ?_
        obtain ⟨n1, h⟩ := h
        refine wp_getA l0 5 (dz dl_Net_linkFace_0 9 17 (.getfield 26) 3 rfl) lk_Net_26 (q := 1) kd_6 rfl rfl n1 ?_
        refine wp_iload_n (i := 1) (x := l1) (dz dl_Net_linkFace_0 10 20 (.iload_n 1) 1 rfl) rfl rfl ?_
        obtain ⟨i1, h⟩ := h
        refine wp_aald 5 (dz dl_Net_linkFace_0 11 21 (.aaload) 1 rfl) kd_6 n1 i1 ?_
        obtain ⟨a1, e1, h⟩ := h
        obtain ⟨n2, h⟩ := h
        refine wp_getA a1 4 (dz dl_Net_linkFace_0 12 22 (.getfield 245) 3 rfl) lk_Net_245 (q := 1) kd_385 rfl e1 n2 ?_
        refine wp_iload_n (i := 2) (x := l2) (dz dl_Net_linkFace_0 13 25 (.iload_n 2) 1 rfl) rfl rfl ?_
        obtain ⟨i2, h⟩ := h
        refine wp_aald 4 (dz dl_Net_linkFace_0 14 26 (.aaload) 1 rfl) kd_385 n2 i2 ?_
        refine wp_goto (tgt := 31) (dz dl_Net_linkFace_0 15 27 (.goto (4)) 3 rfl) (by decide) ?_
        exact wp_rt (qr 3 _) (rt_R rfl (dz dl_Net_linkFace_0 17 31 (.areturn) 1 rfl)) ⟨_, rfl, h⟩
theorem t_Net_linkFace {X : Nat × (Nat → Int32)} {k : Nat} {g : sg} {l0 : Nat} {l1 : Int32} {l2 : Int32} {Z : Option Nat → sg → Prop} (h : nnMT X M_Net_isNode 0 [qi l1] g (zI fun r1 g1 => gExt g g1 → (r1 = 0 → Z none g1) ∧ (¬ r1 = 0 → (l2 < 0 → Z none g1) ∧ (¬ l2 < 0 → ((4 : Int32) ≤ l2 → Z none g1) ∧ (¬ (4 : Int32) ≤ l2 → gA g1 6 l0 = some 5 ∧ vp_in l1 5 ∧ ∃ a1, gR g1 6 l0 l1.toNatClampNeg = some a1 ∧ gA g1 385 a1 = some 4 ∧ vp_in l2 4 ∧ Z (gR g1 385 a1 l2.toNatClampNeg) g1))))) : nnMT X M_Net_linkFace k [qr 0 (some l0), qi l1, qi l2] g (zR 3 Z) := b_Net_linkFace_0 h

theorem b_Net_segmentComponent_0 {X : Nat × (Nat → Int32)} {k : Nat} {g : sg} {l0 : Int32} {Z : Int32 → sg → Prop} (h : Z ((48 : Int32) + l0) g) : nnWP X M_Net_segmentComponent k 0 [qi l0] [] g (zI Z) := by
  refine wp_bipush (dz dl_Net_segmentComponent_0 0 0 (.bipush (48)) 2 rfl) (v := (48 : Int32)) (by decide) ?_
  refine wp_iload_n (i := 0) (x := l0) (dz dl_Net_segmentComponent_0 1 2 (.iload_n 0) 1 rfl) rfl rfl ?_
  refine wp_iadd (dz dl_Net_segmentComponent_0 2 3 (.iadd) 1 rfl) ?_
  exact wp_rt (qi _) (rt_I rfl (dz dl_Net_segmentComponent_0 3 4 (.ireturn) 1 rfl)) ⟨_, rfl, h⟩
theorem t_Net_segmentComponent {X : Nat × (Nat → Int32)} {k : Nat} {g : sg} {l0 : Int32} {Z : Int32 → sg → Prop} (h : Z ((48 : Int32) + l0) g) : nnMT X M_Net_segmentComponent k [qi l0] g (zI Z) := b_Net_segmentComponent_0 h

theorem b_Net_isComponentLetter_0 {X : Nat × (Nat → Int32)} {k : Nat} {g : sg} {l0 : Int32} {Z : Int32 → sg → Prop} (h : (l0 < (97 : Int32) → (l0 < (48 : Int32) → Z (0 : Int32) g) ∧ (¬ l0 < (48 : Int32) → ((57 : Int32) < l0 → Z (0 : Int32) g) ∧ (¬ (57 : Int32) < l0 → Z (1 : Int32) g))) ∧ (¬ l0 < (97 : Int32) → (l0 ≤ (122 : Int32) → Z (1 : Int32) g) ∧ (¬ l0 ≤ (122 : Int32) → (l0 < (48 : Int32) → Z (0 : Int32) g) ∧ (¬ l0 < (48 : Int32) → ((57 : Int32) < l0 → Z (0 : Int32) g) ∧ (¬ (57 : Int32) < l0 → Z (1 : Int32) g))))) : nnWP X M_Net_isComponentLetter k 0 [qi l0] [] g (zI Z) := by
  refine wp_iload_n (i := 0) (x := l0) (dz dl_Net_isComponentLetter_0 0 0 (.iload_n 0) 1 rfl) rfl rfl ?_
  refine wp_bipush (dz dl_Net_isComponentLetter_0 1 1 (.bipush (97)) 2 rfl) (v := (97 : Int32)) (by decide) ?_
  refine wp_icmp_lt (tgt := 12) (dz dl_Net_isComponentLetter_0 2 3 (.if_icmp .lt (9)) 3 rfl) (by decide) (fun hc => ?_) (fun hc => ?_)
  · replace h := h.1 hc
    refine wp_iload_n (i := 0) (x := l0) (dz dl_Net_isComponentLetter_0 6 12 (.iload_n 0) 1 rfl) rfl rfl ?_
    refine wp_bipush (dz dl_Net_isComponentLetter_0 7 13 (.bipush (48)) 2 rfl) (v := (48 : Int32)) (by decide) ?_
    refine wp_icmp_lt (tgt := 28) (dz dl_Net_isComponentLetter_0 8 15 (.if_icmp .lt (13)) 3 rfl) (by decide) (fun hc => ?_) (fun hc => ?_)
    · replace h := h.1 hc
      refine wp_iconst (dz dl_Net_isComponentLetter_0 14 28 (.iconst (0)) 1 rfl) (v := (0 : Int32)) (by decide) ?_
      exact wp_rt (qi _) (rt_Z rfl (Or.inl rfl) (dz dl_Net_isComponentLetter_0 15 29 (.ireturn) 1 rfl)) ⟨_, rfl, h⟩
    · replace h := h.2 hc
      refine wp_iload_n (i := 0) (x := l0) (dz dl_Net_isComponentLetter_0 9 18 (.iload_n 0) 1 rfl) rfl rfl ?_
      refine wp_bipush (dz dl_Net_isComponentLetter_0 10 19 (.bipush (57)) 2 rfl) (v := (57 : Int32)) (by decide) ?_
      refine wp_icmp_gt (tgt := 28) (dz dl_Net_isComponentLetter_0 11 21 (.if_icmp .gt (7)) 3 rfl) (by decide) (fun hc => ?_) (fun hc => ?_)
      · replace h := h.1 hc
        refine wp_iconst (dz dl_Net_isComponentLetter_0 14 28 (.iconst (0)) 1 rfl) (v := (0 : Int32)) (by decide) ?_
        exact wp_rt (qi _) (rt_Z rfl (Or.inl rfl) (dz dl_Net_isComponentLetter_0 15 29 (.ireturn) 1 rfl)) ⟨_, rfl, h⟩
      · replace h := h.2 hc
        refine wp_iconst (dz dl_Net_isComponentLetter_0 12 24 (.iconst (1)) 1 rfl) (v := (1 : Int32)) (by decide) ?_
        refine wp_goto (tgt := 29) (dz dl_Net_isComponentLetter_0 13 25 (.goto (4)) 3 rfl) (by decide) ?_
        exact wp_rt (qi _) (rt_Z rfl (Or.inr rfl) (dz dl_Net_isComponentLetter_0 15 29 (.ireturn) 1 rfl)) ⟨_, rfl, h⟩
  · replace h := h.2 hc
    refine wp_iload_n (i := 0) (x := l0) (dz dl_Net_isComponentLetter_0 3 6 (.iload_n 0) 1 rfl) rfl rfl ?_
    refine wp_bipush (dz dl_Net_isComponentLetter_0 4 7 (.bipush (122)) 2 rfl) (v := (122 : Int32)) (by decide) ?_
    refine wp_icmp_le (tgt := 24) (dz dl_Net_isComponentLetter_0 5 9 (.if_icmp .le (15)) 3 rfl) (by decide) (fun hc => ?_) (fun hc => ?_)
    · replace h := h.1 hc
      refine wp_iconst (dz dl_Net_isComponentLetter_0 12 24 (.iconst (1)) 1 rfl) (v := (1 : Int32)) (by decide) ?_
      refine wp_goto (tgt := 29) (dz dl_Net_isComponentLetter_0 13 25 (.goto (4)) 3 rfl) (by decide) ?_
      exact wp_rt (qi _) (rt_Z rfl (Or.inr rfl) (dz dl_Net_isComponentLetter_0 15 29 (.ireturn) 1 rfl)) ⟨_, rfl, h⟩
    · replace h := h.2 hc
      refine wp_iload_n (i := 0) (x := l0) (dz dl_Net_isComponentLetter_0 6 12 (.iload_n 0) 1 rfl) rfl rfl ?_
      refine wp_bipush (dz dl_Net_isComponentLetter_0 7 13 (.bipush (48)) 2 rfl) (v := (48 : Int32)) (by decide) ?_
      refine wp_icmp_lt (tgt := 28) (dz dl_Net_isComponentLetter_0 8 15 (.if_icmp .lt (13)) 3 rfl) (by decide) (fun hc => ?_) (fun hc => ?_)
      · replace h := h.1 hc
        refine wp_iconst (dz dl_Net_isComponentLetter_0 14 28 (.iconst (0)) 1 rfl) (v := (0 : Int32)) (by decide) ?_
        exact wp_rt (qi _) (rt_Z rfl (Or.inl rfl) (dz dl_Net_isComponentLetter_0 15 29 (.ireturn) 1 rfl)) ⟨_, rfl, h⟩
      · replace h := h.2 hc
        refine wp_iload_n (i := 0) (x := l0) (dz dl_Net_isComponentLetter_0 9 18 (.iload_n 0) 1 rfl) rfl rfl ?_
        refine wp_bipush (dz dl_Net_isComponentLetter_0 10 19 (.bipush (57)) 2 rfl) (v := (57 : Int32)) (by decide) ?_
        refine wp_icmp_gt (tgt := 28) (dz dl_Net_isComponentLetter_0 11 21 (.if_icmp .gt (7)) 3 rfl) (by decide) (fun hc => ?_) (fun hc => ?_)
        · replace h := h.1 hc
          refine wp_iconst (dz dl_Net_isComponentLetter_0 14 28 (.iconst (0)) 1 rfl) (v := (0 : Int32)) (by decide) ?_
          exact wp_rt (qi _) (rt_Z rfl (Or.inl rfl) (dz dl_Net_isComponentLetter_0 15 29 (.ireturn) 1 rfl)) ⟨_, rfl, h⟩
        · replace h := h.2 hc
          refine wp_iconst (dz dl_Net_isComponentLetter_0 12 24 (.iconst (1)) 1 rfl) (v := (1 : Int32)) (by decide) ?_
          refine wp_goto (tgt := 29) (dz dl_Net_isComponentLetter_0 13 25 (.goto (4)) 3 rfl) (by decide) ?_
          exact wp_rt (qi _) (rt_Z rfl (Or.inr rfl) (dz dl_Net_isComponentLetter_0 15 29 (.ireturn) 1 rfl)) ⟨_, rfl, h⟩
theorem t_Net_isComponentLetter {X : Nat × (Nat → Int32)} {k : Nat} {g : sg} {l0 : Int32} {Z : Int32 → sg → Prop} (h : (l0 < (97 : Int32) → (l0 < (48 : Int32) → Z (0 : Int32) g) ∧ (¬ l0 < (48 : Int32) → ((57 : Int32) < l0 → Z (0 : Int32) g) ∧ (¬ (57 : Int32) < l0 → Z (1 : Int32) g))) ∧ (¬ l0 < (97 : Int32) → (l0 ≤ (122 : Int32) → Z (1 : Int32) g) ∧ (¬ l0 ≤ (122 : Int32) → (l0 < (48 : Int32) → Z (0 : Int32) g) ∧ (¬ l0 < (48 : Int32) → ((57 : Int32) < l0 → Z (0 : Int32) g) ∧ (¬ (57 : Int32) < l0 → Z (1 : Int32) g))))) : nnMT X M_Net_isComponentLetter k [qi l0] g (zI Z) := b_Net_isComponentLetter_0 h

theorem b_Net_readText_0 {X : Nat × (Nat → Int32)} {k : Nat} {g : sg} {l0 : Nat} {Z : Int32 → sg → Prop} (h : ((gI g 3 l0 0) = 0 → Z (-1 : Int32) g) ∧ (¬ (gI g 3 l0 0) = 0 → gA g 2 l0 = some 24 ∧ ((gI g 2 l0 (0 : Int32).toNatClampNeg) = (47 : Int32) → (¬ (gI g 3 l0 0) = (1 : Int32) → nnWP X M_Net_readText k 39 [qr 0 (some l0), qi (0 : Int32), qi (0 : Int32), qi (0 : Int32), qi (1 : Int32)] [] g (zI Z)) ∧ ((gI g 3 l0 0) = (1 : Int32) → Z (0 : Int32) g)) ∧ (¬ (gI g 2 l0 (0 : Int32).toNatClampNeg) = (47 : Int32) → Z (-1 : Int32) g))) : nnWP X M_Net_readText k 0 [qr 0 (some l0), none, none, none, none] [] g (zI Z) := by
  refine wp_aload_n (i := 0) (v := qr 0 (some l0)) (dz dl_Net_readText_0 0 0 (.aload_n 0) 1 rfl) rfl rfl trivial ?_
  refine wp_getI l0 (dz dl_Net_readText_0 1 1 (.getfield 56) 3 rfl) lk_Net_56 kd_3 rfl rfl ?_
  refine wp_if_eq (tgt := 18) (dz dl_Net_readText_0 2 4 (.ifCond .eq (14)) 3 rfl) (by decide) (fun hc => ?_) (fun hc => ?_)
  · replace h := h.1 hc
    refine wp_iconst (dz dl_Net_readText_0 9 18 (.iconst (-1)) 1 rfl) (v := (-1 : Int32)) (by decide) ?_
    exact wp_rt (qi _) (rt_I rfl (dz dl_Net_readText_0 10 19 (.ireturn) 1 rfl)) ⟨_, rfl, h⟩
  · replace h := h.2 hc
    refine wp_aload_n (i := 0) (v := qr 0 (some l0)) (dz dl_Net_readText_0 3 7 (.aload_n 0) 1 rfl) rfl rfl trivial ?_
    obtain ⟨n1, h⟩ := h
    refine wp_getA l0 24 (dz dl_Net_readText_0 4 8 (.getfield 9) 3 rfl) lk_Net_9 (q := 0) kd_2 rfl rfl n1 ?_
    refine wp_iconst (dz dl_Net_readText_0 5 11 (.iconst (0)) 1 rfl) (v := (0 : Int32)) (by decide) ?_
    refine wp_cald 24 (dz dl_Net_readText_0 6 12 (.caload) 1 rfl) kd_2 n1 (show ¬ ((0 : Int32) < 0 ∨ 24 ≤ (0 : Int32).toNatClampNeg) by decide) ?_
    refine wp_bipush (dz dl_Net_readText_0 7 13 (.bipush (47)) 2 rfl) (v := (47 : Int32)) (by decide) ?_
    refine wp_icmp_eq (tgt := 20) (dz dl_Net_readText_0 8 15 (.if_icmp .eq (5)) 3 rfl) (by decide) (fun hc => ?_) (fun hc => ?_)
    · replace h := h.1 hc
      refine wp_aload_n (i := 0) (v := qr 0 (some l0)) (dz dl_Net_readText_0 11 20 (.aload_n 0) 1 rfl) rfl rfl trivial ?_
      refine wp_getI l0 (dz dl_Net_readText_0 12 21 (.getfield 56) 3 rfl) lk_Net_56 kd_3 rfl rfl ?_
      refine wp_iconst (dz dl_Net_readText_0 13 24 (.iconst (1)) 1 rfl) (v := (1 : Int32)) (by decide) ?_
      refine wp_icmp_ne (tgt := 30) (dz dl_Net_readText_0 14 25 (.if_icmp .ne (5)) 3 rfl) (by decide) (fun hc => ?_) (fun hc => ?_)
      · replace h := h.1 hc
        refine wp_iconst (dz dl_Net_readText_0 17 30 (.iconst (0)) 1 rfl) (v := (0 : Int32)) (by decide) ?_
        refine wp_istore_n (i := 1) (dz dl_Net_readText_0 18 31 (.istore_n 1) 1 rfl) rfl [qr 0 (some l0), qi (0 : Int32), none, none, none] (by decide) rfl ?_
        refine wp_iconst (dz dl_Net_readText_0 19 32 (.iconst (0)) 1 rfl) (v := (0 : Int32)) (by decide) ?_
        refine wp_istore_n (i := 2) (dz dl_Net_readText_0 20 33 (.istore_n 2) 1 rfl) rfl [qr 0 (some l0), qi (0 : Int32), qi (0 : Int32), none, none] (by decide) rfl ?_
        refine wp_iconst (dz dl_Net_readText_0 21 34 (.iconst (0)) 1 rfl) (v := (0 : Int32)) (by decide) ?_
        refine wp_istore_n (i := 3) (dz dl_Net_readText_0 22 35 (.istore_n 3) 1 rfl) rfl [qr 0 (some l0), qi (0 : Int32), qi (0 : Int32), qi (0 : Int32), none] (by decide) rfl ?_
        refine wp_iconst (dz dl_Net_readText_0 23 36 (.iconst (1)) 1 rfl) (v := (1 : Int32)) (by decide) ?_
        refine wp_istore (i := 4) (dz dl_Net_readText_0 24 37 (.istore 4) 2 rfl) [qr 0 (some l0), qi (0 : Int32), qi (0 : Int32), qi (0 : Int32), qi (1 : Int32)] (by decide) rfl ?_
        exact wp_cut h ⟨Or.inr rfl, Or.inr rfl, Or.inr rfl, Or.inr rfl, Or.inr rfl, trivial⟩
      · replace h := h.2 hc
        refine wp_iconst (dz dl_Net_readText_0 15 28 (.iconst (0)) 1 rfl) (v := (0 : Int32)) (by decide) ?_
        exact wp_rt (qi _) (rt_I rfl (dz dl_Net_readText_0 16 29 (.ireturn) 1 rfl)) ⟨_, rfl, h⟩
    · replace h := h.2 hc
      refine wp_iconst (dz dl_Net_readText_0 9 18 (.iconst (-1)) 1 rfl) (v := (-1 : Int32)) (by decide) ?_
      exact wp_rt (qi _) (rt_I rfl (dz dl_Net_readText_0 10 19 (.ireturn) 1 rfl)) ⟨_, rfl, h⟩
theorem t_Net_readText {X : Nat × (Nat → Int32)} {k : Nat} {g : sg} {l0 : Nat} {Z : Int32 → sg → Prop} (h : ((gI g 3 l0 0) = 0 → Z (-1 : Int32) g) ∧ (¬ (gI g 3 l0 0) = 0 → gA g 2 l0 = some 24 ∧ ((gI g 2 l0 (0 : Int32).toNatClampNeg) = (47 : Int32) → (¬ (gI g 3 l0 0) = (1 : Int32) → nnWP X M_Net_readText k 39 [qr 0 (some l0), qi (0 : Int32), qi (0 : Int32), qi (0 : Int32), qi (1 : Int32)] [] g (zI Z)) ∧ ((gI g 3 l0 0) = (1 : Int32) → Z (0 : Int32) g)) ∧ (¬ (gI g 2 l0 (0 : Int32).toNatClampNeg) = (47 : Int32) → Z (-1 : Int32) g))) : nnMT X M_Net_readText k [qr 0 (some l0)] g (zI Z) := b_Net_readText_0 h

theorem b_Net_readText_39 {X : Nat × (Nat → Int32)} {k : Nat} {g : sg} {l0 : Nat} {l1 : Int32} {l2 : Int32} {l3 : Int32} {l4 : Int32} {Z : Int32 → sg → Prop} (h : ((gI g 3 l0 0) < l4 → Z l1 g) ∧ (¬ (gI g 3 l0 0) < l4 → (l4 = (gI g 3 l0 0) → (l2 = 0 → Z (-1 : Int32) g) ∧ (¬ l2 = 0 → (¬ l1 = (4 : Int32) → gA g 4 l0 = some 4 ∧ vp_in l1 4 ∧ ∀ g1, g1 = pI g 4 l0 l1.toNatClampNeg l3 → nnWP X M_Net_readText k 39 [qr 0 (some l0), qi (l1 + 1), qi (0 : Int32), qi (0 : Int32), qi (l4 + 1)] [] g1 (zI Z)) ∧ (l1 = (4 : Int32) → Z (-1 : Int32) g))) ∧ (¬ l4 = (gI g 3 l0 0) → gA g 2 l0 = some 24 ∧ vp_in l4 24 ∧ (¬ (gI g 2 l0 l4.toNatClampNeg) = (47 : Int32) → (l2 = (3 : Int32) → Z (-1 : Int32) g) ∧ (¬ l2 = (3 : Int32) → nnMT X M_Net_isComponentLetter 0 [qi (gI g 2 l0 l4.toNatClampNeg)] g (zI fun r1 g2 => gExt g g2 → (¬ r1 = 0 → nnWP X M_Net_readText k 39 [qr 0 (some l0), qi l1, qi (l2 + 1), qi ((l3 * (128 : Int32)) + (gI g2 2 l0 l4.toNatClampNeg)), qi (l4 + 1)] [] g2 (zI Z)) ∧ (r1 = 0 → Z (-1 : Int32) g2)))) ∧ ((gI g 2 l0 l4.toNatClampNeg) = (47 : Int32) → (l2 = 0 → Z (-1 : Int32) g) ∧ (¬ l2 = 0 → (¬ l1 = (4 : Int32) → gA g 4 l0 = some 4 ∧ vp_in l1 4 ∧ ∀ g3, g3 = pI g 4 l0 l1.toNatClampNeg l3 → nnWP X M_Net_readText k 39 [qr 0 (some l0), qi (l1 + 1), qi (0 : Int32), qi (0 : Int32), qi (l4 + 1)] [] g3 (zI Z)) ∧ (l1 = (4 : Int32) → Z (-1 : Int32) g)))))) : nnWP X M_Net_readText k 39 [qr 0 (some l0), qi l1, qi l2, qi l3, qi l4] [] g (zI Z) := by
  refine wp_iload (i := 4) (x := l4) (dz dl_Net_readText_0 25 39 (.iload 4) 2 rfl) rfl ?_
  refine wp_aload_n (i := 0) (v := qr 0 (some l0)) (dz dl_Net_readText_0 26 41 (.aload_n 0) 1 rfl) rfl rfl trivial ?_
  refine wp_getI l0 (dz dl_Net_readText_0 27 42 (.getfield 56) 3 rfl) lk_Net_56 kd_3 rfl rfl ?_
  refine wp_icmp_gt (tgt := 140) (dz dl_Net_readText_0 28 45 (.if_icmp .gt (95)) 3 rfl) (by decide) (fun hc => ?_) (fun hc => ?_)
  · replace h := h.1 hc
    refine wp_iload_n (i := 1) (x := l1) (dz dl_Net_readText_2 0 140 (.iload_n 1) 1 rfl) rfl rfl ?_
    exact wp_rt (qi _) (rt_I rfl (dz dl_Net_readText_2 1 141 (.ireturn) 1 rfl)) ⟨_, rfl, h⟩
  · replace h := h.2 hc
    refine wp_iload (i := 4) (x := l4) (dz dl_Net_readText_0 29 48 (.iload 4) 2 rfl) rfl ?_
    refine wp_aload_n (i := 0) (v := qr 0 (some l0)) (dz dl_Net_readText_0 30 50 (.aload_n 0) 1 rfl) rfl rfl trivial ?_
    refine wp_getI l0 (dz dl_Net_readText_0 31 51 (.getfield 56) 3 rfl) lk_Net_56 kd_3 rfl rfl ?_
    refine wp_icmp_eq (tgt := 69) (dz dl_Net_readText_0 32 54 (.if_icmp .eq (15)) 3 rfl) (by decide) (fun hc => ?_) (fun hc => ?_)
    · replace h := h.1 hc
      refine wp_iload_n (i := 2) (x := l2) (dz dl_Net_readText_0 39 69 (.iload_n 2) 1 rfl) rfl rfl ?_
      refine wp_if_eq (tgt := 78) (dz dl_Net_readText_1 0 70 (.ifCond .eq (8)) 3 rfl) (by decide) (fun hc => ?_) (fun hc => ?_)
      · replace h := h.1 hc
        refine wp_iconst (dz dl_Net_readText_1 4 78 (.iconst (-1)) 1 rfl) (v := (-1 : Int32)) (by decide) ?_
        exact wp_rt (qi _) (rt_I rfl (dz dl_Net_readText_1 5 79 (.ireturn) 1 rfl)) ⟨_, rfl, h⟩
      · replace h := h.2 hc
        refine wp_iload_n (i := 1) (x := l1) (dz dl_Net_readText_1 1 73 (.iload_n 1) 1 rfl) rfl rfl ?_
        refine wp_iconst (dz dl_Net_readText_1 2 74 (.iconst (4)) 1 rfl) (v := (4 : Int32)) (by decide) ?_
        refine wp_icmp_ne (tgt := 80) (dz dl_Net_readText_1 3 75 (.if_icmp .ne (5)) 3 rfl) (by decide) (fun hc => ?_) (fun hc => ?_)
        · replace h := h.1 hc
          refine wp_aload_n (i := 0) (v := qr 0 (some l0)) (dz dl_Net_readText_1 6 80 (.aload_n 0) 1 rfl) rfl rfl trivial ?_
          obtain ⟨n1, h⟩ := h
          refine wp_getA l0 4 (dz dl_Net_readText_1 7 81 (.getfield 13) 3 rfl) lk_Net_13 (q := 0) kd_4 rfl rfl n1 ?_
          refine wp_iload_n (i := 1) (x := l1) (dz dl_Net_readText_1 8 84 (.iload_n 1) 1 rfl) rfl rfl ?_
          refine wp_iload_n (i := 3) (x := l3) (dz dl_Net_readText_1 9 85 (.iload_n 3) 1 rfl) rfl rfl ?_
          obtain ⟨i1, h⟩ := h
          have h := h _ rfl
          refine wp_iast 4 (dz dl_Net_readText_1 10 86 (.iastore) 1 rfl) kd_4 n1 i1 rfl ?_
          refine wp_iinc (i := 1) (v := l1 + 1) (dz dl_Net_readText_1 11 87 (.iinc 1 (1)) 3 rfl) rfl (congrArg (fun z => l1 + z) (by decide)) [qr 0 (some l0), qi (l1 + 1), qi l2, qi l3, qi l4] (by decide) rfl ?_
          refine wp_iconst (dz dl_Net_readText_1 12 90 (.iconst (0)) 1 rfl) (v := (0 : Int32)) (by decide) ?_
          refine wp_istore_n (i := 2) (dz dl_Net_readText_1 13 91 (.istore_n 2) 1 rfl) rfl [qr 0 (some l0), qi (l1 + 1), qi (0 : Int32), qi l3, qi l4] (by decide) rfl ?_
          refine wp_iconst (dz dl_Net_readText_1 14 92 (.iconst (0)) 1 rfl) (v := (0 : Int32)) (by decide) ?_
          refine wp_istore_n (i := 3) (dz dl_Net_readText_1 15 93 (.istore_n 3) 1 rfl) rfl [qr 0 (some l0), qi (l1 + 1), qi (0 : Int32), qi (0 : Int32), qi l4] (by decide) rfl ?_
          refine wp_goto (tgt := 134) (dz dl_Net_readText_1 16 94 (.goto (40)) 3 rfl) (by decide) ?_
          refine wp_iinc (i := 4) (v := l4 + 1) (dz dl_Net_readText_1 38 134 (.iinc 4 (1)) 3 rfl) rfl (congrArg (fun z => l4 + z) (by decide)) [qr 0 (some l0), qi (l1 + 1), qi (0 : Int32), qi (0 : Int32), qi (l4 + 1)] (by decide) rfl ?_
          refine wp_goto (tgt := 39) (dz dl_Net_readText_1 39 137 (.goto (-98)) 3 rfl) (by decide) ?_
          exact wp_cut h ⟨Or.inr rfl, Or.inr rfl, Or.inr rfl, Or.inr rfl, Or.inr rfl, trivial⟩
        · replace h := h.2 hc
          refine wp_iconst (dz dl_Net_readText_1 4 78 (.iconst (-1)) 1 rfl) (v := (-1 : Int32)) (by decide) ?_
          exact wp_rt (qi _) (rt_I rfl (dz dl_Net_readText_1 5 79 (.ireturn) 1 rfl)) ⟨_, rfl, h⟩
    · replace h := h.2 hc
      refine wp_aload_n (i := 0) (v := qr 0 (some l0)) (dz dl_Net_readText_0 33 57 (.aload_n 0) 1 rfl) rfl rfl trivial ?_
      obtain ⟨n2, h⟩ := h
      refine wp_getA l0 24 (dz dl_Net_readText_0 34 58 (.getfield 9) 3 rfl) lk_Net_9 (q := 0) kd_2 rfl rfl n2 ?_
      refine wp_iload (i := 4) (x := l4) (dz dl_Net_readText_0 35 61 (.iload 4) 2 rfl) rfl ?_
      obtain ⟨i2, h⟩ := h
      refine wp_cald 24 (dz dl_Net_readText_0 36 63 (.caload) 1 rfl) kd_2 n2 i2 ?_
      refine wp_bipush (dz dl_Net_readText_0 37 64 (.bipush (47)) 2 rfl) (v := (47 : Int32)) (by decide) ?_
      refine wp_icmp_ne (tgt := 97) (dz dl_Net_readText_0 38 66 (.if_icmp .ne (31)) 3 rfl) (by decide) (fun hc => ?_) (fun hc => ?_)
      · replace h := h.1 hc
        refine wp_iload_n (i := 2) (x := l2) (dz dl_Net_readText_1 17 97 (.iload_n 2) 1 rfl) rfl rfl ?_
        refine wp_iconst (dz dl_Net_readText_1 18 98 (.iconst (3)) 1 rfl) (v := (3 : Int32)) (by decide) ?_
        refine wp_icmp_eq (tgt := 115) (dz dl_Net_readText_1 19 99 (.if_icmp .eq (16)) 3 rfl) (by decide) (fun hc => ?_) (fun hc => ?_)
        · replace h := h.1 hc
          refine wp_iconst (dz dl_Net_readText_1 26 115 (.iconst (-1)) 1 rfl) (v := (-1 : Int32)) (by decide) ?_
          exact wp_rt (qi _) (rt_I rfl (dz dl_Net_readText_1 27 116 (.ireturn) 1 rfl)) ⟨_, rfl, h⟩
        · replace h := h.2 hc
          refine wp_aload_n (i := 0) (v := qr 0 (some l0)) (dz dl_Net_readText_1 20 102 (.aload_n 0) 1 rfl) rfl rfl trivial ?_
          refine wp_getA l0 24 (dz dl_Net_readText_1 21 103 (.getfield 9) 3 rfl) lk_Net_9 (q := 0) kd_2 rfl rfl n2 ?_
          refine wp_iload (i := 4) (x := l4) (dz dl_Net_readText_1 22 106 (.iload 4) 2 rfl) rfl ?_
          refine wp_cald 24 (dz dl_Net_readText_1 23 108 (.caload) 1 rfl) kd_2 n2 i2 ?_
          refine wp_callS 0 [qi (gI g 2 l0 l4.toNatClampNeg)] [] (dz dl_Net_readText_1 24 109 (.invokestatic 273) 3 rfl) ok_Net_isComponentLetter lm_Net_273 ws_Net_isComponentLetter ⟨Nat.le_of_ble_eq_true rfl, Nat.le_of_ble_eq_true rfl⟩ pn_Net_isComponentLetter (Nat.le_of_ble_eq_true rfl) (Nat.le_of_ble_eq_true rfl) (Or.inl rfl) (Nat.zero_le _) (mt_mono h ?_)
          rintro _ g2 ⟨r1, rfl, h⟩ y1
          replace h := h y1.1
          show nnWP _ _ _ _ _ [qi r1] _ _
          refine wp_if_ne (tgt := 117) (dz dl_Net_readText_1 25 112 (.ifCond .ne (5)) 3 rfl) (by decide) (fun hc => ?_) (fun hc => ?_)
          · replace h := h.1 hc
            refine wp_iload_n (i := 3) (x := l3) (dz dl_Net_readText_1 28 117 (.iload_n 3) 1 rfl) rfl rfl ?_
            refine wp_sipush (dz dl_Net_readText_1 29 118 (.sipush (128)) 3 rfl) (v := (128 : Int32)) (by decide) ?_
            refine wp_imul (dz dl_Net_readText_1 30 121 (.imul) 1 rfl) ?_
            refine wp_aload_n (i := 0) (v := qr 0 (some l0)) (dz dl_Net_readText_1 31 122 (.aload_n 0) 1 rfl) rfl rfl trivial ?_
            refine wp_getA l0 24 (dz dl_Net_readText_1 32 123 (.getfield 9) 3 rfl) lk_Net_9 (q := 0) kd_2 rfl rfl (y1.1.2 _ _ _ n2) ?_
            refine wp_iload (i := 4) (x := l4) (dz dl_Net_readText_1 33 126 (.iload 4) 2 rfl) rfl ?_
            refine wp_cald 24 (dz dl_Net_readText_1 34 128 (.caload) 1 rfl) kd_2 (y1.1.2 _ _ _ n2) i2 ?_
            refine wp_iadd (dz dl_Net_readText_1 35 129 (.iadd) 1 rfl) ?_
            refine wp_istore_n (i := 3) (dz dl_Net_readText_1 36 130 (.istore_n 3) 1 rfl) rfl [qr 0 (some l0), qi l1, qi l2, qi ((l3 * (128 : Int32)) + (gI g2 2 l0 l4.toNatClampNeg)), qi l4] (by decide) rfl ?_
            refine wp_iinc (i := 2) (v := l2 + 1) (dz dl_Net_readText_1 37 131 (.iinc 2 (1)) 3 rfl) rfl (congrArg (fun z => l2 + z) (by decide)) [qr 0 (some l0), qi l1, qi (l2 + 1), qi ((l3 * (128 : Int32)) + (gI g2 2 l0 l4.toNatClampNeg)), qi l4] (by decide) rfl ?_
            refine wp_iinc (i := 4) (v := l4 + 1) (dz dl_Net_readText_1 38 134 (.iinc 4 (1)) 3 rfl) rfl (congrArg (fun z => l4 + z) (by decide)) [qr 0 (some l0), qi l1, qi (l2 + 1), qi ((l3 * (128 : Int32)) + (gI g2 2 l0 l4.toNatClampNeg)), qi (l4 + 1)] (by decide) rfl ?_
            refine wp_goto (tgt := 39) (dz dl_Net_readText_1 39 137 (.goto (-98)) 3 rfl) (by decide) ?_
            exact wp_cut h ⟨Or.inr rfl, Or.inr rfl, Or.inr rfl, Or.inr rfl, Or.inr rfl, trivial⟩
          · replace h := h.2 hc
            refine wp_iconst (dz dl_Net_readText_1 26 115 (.iconst (-1)) 1 rfl) (v := (-1 : Int32)) (by decide) ?_
            exact wp_rt (qi _) (rt_I rfl (dz dl_Net_readText_1 27 116 (.ireturn) 1 rfl)) ⟨_, rfl, h⟩
      · replace h := h.2 hc
        refine wp_iload_n (i := 2) (x := l2) (dz dl_Net_readText_0 39 69 (.iload_n 2) 1 rfl) rfl rfl ?_
        refine wp_if_eq (tgt := 78) (dz dl_Net_readText_1 0 70 (.ifCond .eq (8)) 3 rfl) (by decide) (fun hc => ?_) (fun hc => ?_)
        · replace h := h.1 hc
          refine wp_iconst (dz dl_Net_readText_1 4 78 (.iconst (-1)) 1 rfl) (v := (-1 : Int32)) (by decide) ?_
          exact wp_rt (qi _) (rt_I rfl (dz dl_Net_readText_1 5 79 (.ireturn) 1 rfl)) ⟨_, rfl, h⟩
        · replace h := h.2 hc
          refine wp_iload_n (i := 1) (x := l1) (dz dl_Net_readText_1 1 73 (.iload_n 1) 1 rfl) rfl rfl ?_
          refine wp_iconst (dz dl_Net_readText_1 2 74 (.iconst (4)) 1 rfl) (v := (4 : Int32)) (by decide) ?_
          refine wp_icmp_ne (tgt := 80) (dz dl_Net_readText_1 3 75 (.if_icmp .ne (5)) 3 rfl) (by decide) (fun hc => ?_) (fun hc => ?_)
          · replace h := h.1 hc
            refine wp_aload_n (i := 0) (v := qr 0 (some l0)) (dz dl_Net_readText_1 6 80 (.aload_n 0) 1 rfl) rfl rfl trivial ?_
            obtain ⟨n3, h⟩ := h
            refine wp_getA l0 4 (dz dl_Net_readText_1 7 81 (.getfield 13) 3 rfl) lk_Net_13 (q := 0) kd_4 rfl rfl n3 ?_
            refine wp_iload_n (i := 1) (x := l1) (dz dl_Net_readText_1 8 84 (.iload_n 1) 1 rfl) rfl rfl ?_
            refine wp_iload_n (i := 3) (x := l3) (dz dl_Net_readText_1 9 85 (.iload_n 3) 1 rfl) rfl rfl ?_
            obtain ⟨i3, h⟩ := h
            have h := h _ rfl
            refine wp_iast 4 (dz dl_Net_readText_1 10 86 (.iastore) 1 rfl) kd_4 n3 i3 rfl ?_
            refine wp_iinc (i := 1) (v := l1 + 1) (dz dl_Net_readText_1 11 87 (.iinc 1 (1)) 3 rfl) rfl (congrArg (fun z => l1 + z) (by decide)) [qr 0 (some l0), qi (l1 + 1), qi l2, qi l3, qi l4] (by decide) rfl ?_
            refine wp_iconst (dz dl_Net_readText_1 12 90 (.iconst (0)) 1 rfl) (v := (0 : Int32)) (by decide) ?_
            refine wp_istore_n (i := 2) (dz dl_Net_readText_1 13 91 (.istore_n 2) 1 rfl) rfl [qr 0 (some l0), qi (l1 + 1), qi (0 : Int32), qi l3, qi l4] (by decide) rfl ?_
            refine wp_iconst (dz dl_Net_readText_1 14 92 (.iconst (0)) 1 rfl) (v := (0 : Int32)) (by decide) ?_
            refine wp_istore_n (i := 3) (dz dl_Net_readText_1 15 93 (.istore_n 3) 1 rfl) rfl [qr 0 (some l0), qi (l1 + 1), qi (0 : Int32), qi (0 : Int32), qi l4] (by decide) rfl ?_
            refine wp_goto (tgt := 134) (dz dl_Net_readText_1 16 94 (.goto (40)) 3 rfl) (by decide) ?_
            refine wp_iinc (i := 4) (v := l4 + 1) (dz dl_Net_readText_1 38 134 (.iinc 4 (1)) 3 rfl) rfl (congrArg (fun z => l4 + z) (by decide)) [qr 0 (some l0), qi (l1 + 1), qi (0 : Int32), qi (0 : Int32), qi (l4 + 1)] (by decide) rfl ?_
            refine wp_goto (tgt := 39) (dz dl_Net_readText_1 39 137 (.goto (-98)) 3 rfl) (by decide) ?_
            exact wp_cut h ⟨Or.inr rfl, Or.inr rfl, Or.inr rfl, Or.inr rfl, Or.inr rfl, trivial⟩
          · replace h := h.2 hc
            refine wp_iconst (dz dl_Net_readText_1 4 78 (.iconst (-1)) 1 rfl) (v := (-1 : Int32)) (by decide) ?_
            exact wp_rt (qi _) (rt_I rfl (dz dl_Net_readText_1 5 79 (.ireturn) 1 rfl)) ⟨_, rfl, h⟩

theorem b_Net_openRequest_0 {X : Nat × (Nat → Int32)} {k : Nat} {g : sg} {l0 : Nat} {l1 : Option Nat} {l2 : Int32} {l3 : Int32} {l4 : Int32} {Z : Int32 → sg → Prop} (h : ((gI g 10 l0 0) < (120 : Int32) → gA g 9 l0 = some 120 ∧ 1 ≤ k ∧ ∀ g1, g1 = pN g 9 → ∃ a1, l1 = some a1 ∧ nnMT X M_Request_init 0 [qr 9 (some (gC g 9)), qi (gI g1 384 a1 0), qi l2, qi l3, qi (gI g1 1 l0 0)] g1 (zV fun g2 => gExt g1 g2 → vp_in (gI g 10 l0 0) 120 ∧ ∀ g3, g3 = pR g2 9 l0 (gI g 10 l0 0).toNatClampNeg (some (gC g 9)) → ∀ g4, g4 = pI g3 10 l0 0 ((gI g3 10 l0 0) + (1 : Int32)) → 1 ≤ (k - 1) ∧ nnMT X M_Packet_interest 1 [qi l2, qi l3, qi ((1000 : Int32) + (gI g 10 l0 0)), qi l4] g4 (zR 7 fun r1 g5 => gExt g4 g5 → 5 ≤ (k - 1 - 1) ∧ nnMT X M_Net_interestComes 5 [qr 0 (some l0), qr 6 l1, qi (4 : Int32), qr 7 r1] g5 (zV fun g6 => gExt g5 g6 → Z (gI g 10 l0 0) g6)))) ∧ (¬ (gI g 10 l0 0) < (120 : Int32) → Z (-2 : Int32) g)) : nnWP X M_Net_openRequest k 0 [qr 0 (some l0), qr 6 l1, qi l2, qi l3, qi l4, none] [] g (zI Z) := by
  refine wp_aload_n (i := 0) (v := qr 0 (some l0)) (dz dl_Net_openRequest_0 0 0 (.aload_n 0) 1 rfl) rfl rfl trivial ?_
  refine wp_getI l0 (dz dl_Net_openRequest_0 1 1 (.getfield 181) 3 rfl) lk_Net_181 kd_10 rfl rfl ?_
  refine wp_bipush (dz dl_Net_openRequest_0 2 4 (.bipush (120)) 2 rfl) (v := (120 : Int32)) (by decide) ?_
  refine wp_icmp_lt (tgt := 12) (dz dl_Net_openRequest_0 3 6 (.if_icmp .lt (6)) 3 rfl) (by decide) (fun hc => ?_) (fun hc => ?_)
  · replace h := h.1 hc
    refine wp_aload_n (i := 0) (v := qr 0 (some l0)) (dz dl_Net_openRequest_0 6 12 (.aload_n 0) 1 rfl) rfl rfl trivial ?_
    refine wp_getI l0 (dz dl_Net_openRequest_0 7 13 (.getfield 181) 3 rfl) lk_Net_181 kd_10 rfl rfl ?_
    refine wp_istore (i := 5) (dz dl_Net_openRequest_0 8 16 (.istore 5) 2 rfl) [qr 0 (some l0), qr 6 l1, qi l2, qi l3, qi l4, qi (gI g 10 l0 0)] (by decide) rfl ?_
    refine wp_aload_n (i := 0) (v := qr 0 (some l0)) (dz dl_Net_openRequest_0 9 18 (.aload_n 0) 1 rfl) rfl rfl trivial ?_
    obtain ⟨n1, h⟩ := h
    refine wp_getA l0 120 (dz dl_Net_openRequest_0 10 19 (.getfield 41) 3 rfl) lk_Net_41 (q := 1) kd_9 rfl rfl n1 ?_
    refine wp_iload (i := 5) (x := gI g 10 l0 0) (dz dl_Net_openRequest_0 11 22 (.iload 5) 2 rfl) rfl ?_
    obtain ⟨u1, h⟩ := h
    have h := h _ rfl
    refine wp_new 1 (dz dl_Net_openRequest_0 12 24 (.new 39) 3 rfl) (by decide) wc_Net_39 wi_9 wn_9 ⟨by decide, by decide⟩ rfl u1 ?_
    refine wp_dup (dz dl_Net_openRequest_0 13 27 (.dup) 1 rfl) ?_
    refine wp_aload_n (i := 1) (v := qr 6 l1) (dz dl_Net_openRequest_0 14 28 (.aload_n 1) 1 rfl) rfl rfl trivial ?_
    obtain ⟨a1, e1, h⟩ := h
    refine wp_getI a1 (dz dl_Net_openRequest_0 15 29 (.getfield 277) 3 rfl) lk_Net_277 kd_384 rfl e1 ?_
    refine wp_iload_n (i := 2) (x := l2) (dz dl_Net_openRequest_0 16 32 (.iload_n 2) 1 rfl) rfl rfl ?_
    refine wp_iload_n (i := 3) (x := l3) (dz dl_Net_openRequest_0 17 33 (.iload_n 3) 1 rfl) rfl rfl ?_
    refine wp_aload_n (i := 0) (v := qr 0 (some l0)) (dz dl_Net_openRequest_0 18 34 (.aload_n 0) 1 rfl) rfl rfl trivial ?_
    refine wp_getI l0 (dz dl_Net_openRequest_0 19 35 (.getfield 169) 3 rfl) lk_Net_169 kd_1 rfl rfl ?_
    refine wp_callI (gC g 9) 0 [qi (gI (pN g 9) 384 a1 0), qi l2, qi l3, qi (gI (pN g 9) 1 l0 0)] [qr 9 (some (gC g 9)), qi (gI g 10 l0 0), qa 9 l0] (dz dl_Net_openRequest_0 20 38 (.invokespecial 280) 3 rfl) ok_Request_init rfl rfl lm_Net_280 ws_Request_init ⟨Nat.le_of_ble_eq_true rfl, Nat.le_of_ble_eq_true rfl⟩ pn_Request_init (Nat.le_of_ble_eq_true rfl) (Nat.le_of_ble_eq_true rfl) rfl (Or.inl rfl) (Nat.zero_le _) (mt_mono h ?_)
    rintro _ g2 ⟨rfl, h⟩ y1
    replace h := h y1.1
    show nnWP _ _ _ _ _ [qr 9 (some (gC g 9)), qi (gI g 10 l0 0), qa 9 l0] _ _
    obtain ⟨i1, h⟩ := h
    have h := h _ rfl
    refine wp_aast 120 (dz dl_Net_openRequest_0 21 41 (.aastore) 1 rfl) kd_9 (by decide) (y1.1.2 _ _ _ (gA_pN_ne (by decide) n1)) i1 rfl ?_
    refine wp_aload_n (i := 0) (v := qr 0 (some l0)) (dz dl_Net_openRequest_0 22 42 (.aload_n 0) 1 rfl) rfl rfl trivial ?_
    refine wp_dup (dz dl_Net_openRequest_0 23 43 (.dup) 1 rfl) ?_
    refine wp_getI l0 (dz dl_Net_openRequest_0 24 44 (.getfield 181) 3 rfl) lk_Net_181 kd_10 rfl rfl ?_
    refine wp_iconst (dz dl_Net_openRequest_0 25 47 (.iconst (1)) 1 rfl) (v := (1 : Int32)) (by decide) ?_
    refine wp_iadd (dz dl_Net_openRequest_0 26 48 (.iadd) 1 rfl) ?_
    have h := h _ rfl
    refine wp_putI l0 (dz dl_Net_openRequest_0 27 49 (.putfield 181) 3 rfl) lk_Net_181 kd_10 rfl rfl rfl (okI_0 _) rfl ?_
    refine wp_aload_n (i := 0) (v := qr 0 (some l0)) (dz dl_Net_openRequest_0 28 52 (.aload_n 0) 1 rfl) rfl rfl trivial ?_
    refine wp_aload_n (i := 1) (v := qr 6 l1) (dz dl_Net_openRequest_0 29 53 (.aload_n 1) 1 rfl) rfl rfl trivial ?_
    refine wp_iconst (dz dl_Net_openRequest_0 30 54 (.iconst (4)) 1 rfl) (v := (4 : Int32)) (by decide) ?_
    refine wp_iload_n (i := 2) (x := l2) (dz dl_Net_openRequest_0 31 55 (.iload_n 2) 1 rfl) rfl rfl ?_
    refine wp_iload_n (i := 3) (x := l3) (dz dl_Net_openRequest_0 32 56 (.iload_n 3) 1 rfl) rfl rfl ?_
    refine wp_sipush (dz dl_Net_openRequest_0 33 57 (.sipush (1000)) 3 rfl) (v := (1000 : Int32)) (by decide) ?_
    refine wp_iload (i := 5) (x := gI g 10 l0 0) (dz dl_Net_openRequest_0 34 60 (.iload 5) 2 rfl) rfl ?_
    refine wp_iadd (dz dl_Net_openRequest_0 35 62 (.iadd) 1 rfl) ?_
    refine wp_iload (i := 4) (x := l4) (dz dl_Net_openRequest_0 36 63 (.iload 4) 2 rfl) rfl ?_
    obtain ⟨u2, h⟩ := h
    refine wp_callS 1 [qi l2, qi l3, qi ((1000 : Int32) + (gI g 10 l0 0)), qi l4] [qi (4 : Int32), qr 6 l1, qr 0 (some l0)] (dz dl_Net_openRequest_0 37 65 (.invokestatic 283) 3 rfl) ok_Packet_interest lm_Net_283 ws_Packet_interest ⟨Nat.le_of_ble_eq_true rfl, Nat.le_of_ble_eq_true rfl⟩ pn_Packet_interest (Nat.le_of_ble_eq_true rfl) (Nat.le_of_ble_eq_true rfl) (Or.inl rfl) u2 (mt_mono h ?_)
    rintro _ g5 ⟨r1, rfl, h⟩ y2
    replace h := h y2.1
    show nnWP _ _ _ _ _ [qr 7 r1, qi (4 : Int32), qr 6 l1, qr 0 (some l0)] _ _
    obtain ⟨u3, h⟩ := h
    refine wp_callV l0 5 [qr 6 l1, qi (4 : Int32), qr 7 r1] [] (dz dl_Net_openRequest_0 38 68 (.invokevirtual 286) 3 rfl) ok_Net_interestComes lm_Net_286 (by decide) ws_Net_interestComes wv_Net_interestComes ⟨Nat.le_of_ble_eq_true rfl, Nat.le_of_ble_eq_true rfl⟩ pn_Net_interestComes (Nat.le_of_ble_eq_true rfl) (Nat.le_of_ble_eq_true rfl) rfl (Or.inl rfl) u3 (mt_mono h ?_)
    rintro _ g6 ⟨rfl, h⟩ y3
    replace h := h y3.1
    show nnWP _ _ _ _ _ [] _ _
    refine wp_iload (i := 5) (x := gI g 10 l0 0) (dz dl_Net_openRequest_0 39 71 (.iload 5) 2 rfl) rfl ?_
    exact wp_rt (qi _) (rt_I rfl (dz dl_Net_openRequest_1 0 73 (.ireturn) 1 rfl)) ⟨_, rfl, h⟩
  · replace h := h.2 hc
    refine wp_bipush (dz dl_Net_openRequest_0 4 9 (.bipush (-2)) 2 rfl) (v := (-2 : Int32)) (by decide) ?_
    exact wp_rt (qi _) (rt_I rfl (dz dl_Net_openRequest_0 5 11 (.ireturn) 1 rfl)) ⟨_, rfl, h⟩
theorem t_Net_openRequest {X : Nat × (Nat → Int32)} {k : Nat} {g : sg} {l0 : Nat} {l1 : Option Nat} {l2 : Int32} {l3 : Int32} {l4 : Int32} {Z : Int32 → sg → Prop} (h : ((gI g 10 l0 0) < (120 : Int32) → gA g 9 l0 = some 120 ∧ 1 ≤ k ∧ ∀ g1, g1 = pN g 9 → ∃ a1, l1 = some a1 ∧ nnMT X M_Request_init 0 [qr 9 (some (gC g 9)), qi (gI g1 384 a1 0), qi l2, qi l3, qi (gI g1 1 l0 0)] g1 (zV fun g2 => gExt g1 g2 → vp_in (gI g 10 l0 0) 120 ∧ ∀ g3, g3 = pR g2 9 l0 (gI g 10 l0 0).toNatClampNeg (some (gC g 9)) → ∀ g4, g4 = pI g3 10 l0 0 ((gI g3 10 l0 0) + (1 : Int32)) → 1 ≤ (k - 1) ∧ nnMT X M_Packet_interest 1 [qi l2, qi l3, qi ((1000 : Int32) + (gI g 10 l0 0)), qi l4] g4 (zR 7 fun r1 g5 => gExt g4 g5 → 5 ≤ (k - 1 - 1) ∧ nnMT X M_Net_interestComes 5 [qr 0 (some l0), qr 6 l1, qi (4 : Int32), qr 7 r1] g5 (zV fun g6 => gExt g5 g6 → Z (gI g 10 l0 0) g6)))) ∧ (¬ (gI g 10 l0 0) < (120 : Int32) → Z (-2 : Int32) g)) : nnMT X M_Net_openRequest k [qr 0 (some l0), qr 6 l1, qi l2, qi l3, qi l4] g (zI Z) := b_Net_openRequest_0 h

theorem b_Net_arrive_0 {X : Nat × (Nat → Int32)} {k : Nat} {g : sg} {l0 : Nat} {l1 : Option Nat} {l2 : Int32} {l3 : Option Nat} {Z : sg → Prop} (h : ∃ a1, l3 = some a1 ∧ ((gI g 448 a1 0) = 0 → 5 ≤ k ∧ nnMT X M_Net_interestComes 5 [qr 0 (some l0), qr 6 l1, qi l2, qr 7 l3] g (zV fun g1 => gExt g g1 → Z g1)) ∧ ((gI g 448 a1 0) = 1 → nnMT X M_Net_dataComes 0 [qr 0 (some l0), qr 6 l1, qi l2, qr 7 l3] g (zV fun g2 => gExt g g2 → Z g2)) ∧ ((gI g 448 a1 0) = 2 → 5 ≤ k ∧ nnMT X M_Net_nackComes 5 [qr 0 (some l0), qr 6 l1, qi l2, qr 7 l3] g (zV fun g3 => gExt g g3 → Z g3)) ∧ (¬ (gI g 448 a1 0) = 0 ∧ ¬ (gI g 448 a1 0) = 1 ∧ ¬ (gI g 448 a1 0) = 2 → 3 ≤ k ∧ ∃ a2, l1 = some a2 ∧ nnMT X M_Node_hear 3 [qr 6 (some a2), qi l2, qr 7 l3] g (zV fun g4 => gExt g g4 → Z g4))) : nnWP X M_Net_arrive k 0 [qr 0 (some l0), qr 6 l1, qi l2, qr 7 l3] [] g (zV Z) := by
  refine wp_aload_n (i := 3) (v := qr 7 l3) (dz dl_Net_arrive_0 0 0 (.aload_n 3) 1 rfl) rfl rfl trivial ?_
  obtain ⟨a1, e1, h⟩ := h
  refine wp_getI a1 (dz dl_Net_arrive_0 1 1 (.getfield 162) 3 rfl) lk_Net_162 kd_448 rfl e1 ?_
  by_cases hc0 : (gI g 448 a1 0) = 0
  · replace h := h.1 hc0
    refine wp_tableInK 0 hc0 (dz dl_Net_arrive_0 2 4 (.tableswitch (58) (0) (2) #[(28), (38), (48)]) 28 rfl) (by decide) (by decide) (28) (by decide) 32 (by decide) ?_
    refine wp_aload_n (i := 0) (v := qr 0 (some l0)) (dz dl_Net_arrive_0 3 32 (.aload_n 0) 1 rfl) rfl rfl trivial ?_
    refine wp_aload_n (i := 1) (v := qr 6 l1) (dz dl_Net_arrive_0 4 33 (.aload_n 1) 1 rfl) rfl rfl trivial ?_
    refine wp_iload_n (i := 2) (x := l2) (dz dl_Net_arrive_0 5 34 (.iload_n 2) 1 rfl) rfl rfl ?_
    refine wp_aload_n (i := 3) (v := qr 7 l3) (dz dl_Net_arrive_0 6 35 (.aload_n 3) 1 rfl) rfl rfl trivial ?_
    obtain ⟨u1, h⟩ := h
    refine wp_callV l0 5 [qr 6 l1, qi l2, qr 7 l3] [] (dz dl_Net_arrive_0 7 36 (.invokevirtual 286) 3 rfl) ok_Net_interestComes lm_Net_286 (by decide) ws_Net_interestComes wv_Net_interestComes ⟨Nat.le_of_ble_eq_true rfl, Nat.le_of_ble_eq_true rfl⟩ pn_Net_interestComes (Nat.le_of_ble_eq_true rfl) (Nat.le_of_ble_eq_true rfl) rfl (Or.inl rfl) u1 (mt_mono h ?_)
    rintro _ g1 ⟨rfl, h⟩ y1
    replace h := h y1.1
    show nnWP _ _ _ _ _ [] _ _
    refine wp_goto (tgt := 68) (dz dl_Net_arrive_0 8 39 (.goto (29)) 3 rfl) (by decide) ?_
    exact wp_rt none (rt_V rfl (dz dl_Net_arrive_0 25 68 (.return_) 1 rfl)) ⟨rfl, h⟩
  replace h := h.2
  by_cases hc1 : (gI g 448 a1 0) = 1
  · replace h := h.1 hc1
    refine wp_tableInK 1 hc1 (dz dl_Net_arrive_0 2 4 (.tableswitch (58) (0) (2) #[(28), (38), (48)]) 28 rfl) (by decide) (by decide) (38) (by decide) 42 (by decide) ?_
    refine wp_aload_n (i := 0) (v := qr 0 (some l0)) (dz dl_Net_arrive_0 9 42 (.aload_n 0) 1 rfl) rfl rfl trivial ?_
    refine wp_aload_n (i := 1) (v := qr 6 l1) (dz dl_Net_arrive_0 10 43 (.aload_n 1) 1 rfl) rfl rfl trivial ?_
    refine wp_iload_n (i := 2) (x := l2) (dz dl_Net_arrive_0 11 44 (.iload_n 2) 1 rfl) rfl rfl ?_
    refine wp_aload_n (i := 3) (v := qr 7 l3) (dz dl_Net_arrive_0 12 45 (.aload_n 3) 1 rfl) rfl rfl trivial ?_
    refine wp_callV l0 0 [qr 6 l1, qi l2, qr 7 l3] [] (dz dl_Net_arrive_0 13 46 (.invokevirtual 289) 3 rfl) ok_Net_dataComes lm_Net_289 (by decide) ws_Net_dataComes wv_Net_dataComes ⟨Nat.le_of_ble_eq_true rfl, Nat.le_of_ble_eq_true rfl⟩ pn_Net_dataComes (Nat.le_of_ble_eq_true rfl) (Nat.le_of_ble_eq_true rfl) rfl (Or.inl rfl) (Nat.zero_le _) (mt_mono h ?_)
    rintro _ g2 ⟨rfl, h⟩ y2
    replace h := h y2.1
    show nnWP _ _ _ _ _ [] _ _
    refine wp_goto (tgt := 68) (dz dl_Net_arrive_0 14 49 (.goto (19)) 3 rfl) (by decide) ?_
    exact wp_rt none (rt_V rfl (dz dl_Net_arrive_0 25 68 (.return_) 1 rfl)) ⟨rfl, h⟩
  replace h := h.2
  by_cases hc2 : (gI g 448 a1 0) = 2
  · replace h := h.1 hc2
    refine wp_tableInK 2 hc2 (dz dl_Net_arrive_0 2 4 (.tableswitch (58) (0) (2) #[(28), (38), (48)]) 28 rfl) (by decide) (by decide) (48) (by decide) 52 (by decide) ?_
    refine wp_aload_n (i := 0) (v := qr 0 (some l0)) (dz dl_Net_arrive_0 15 52 (.aload_n 0) 1 rfl) rfl rfl trivial ?_
    refine wp_aload_n (i := 1) (v := qr 6 l1) (dz dl_Net_arrive_0 16 53 (.aload_n 1) 1 rfl) rfl rfl trivial ?_
    refine wp_iload_n (i := 2) (x := l2) (dz dl_Net_arrive_0 17 54 (.iload_n 2) 1 rfl) rfl rfl ?_
    refine wp_aload_n (i := 3) (v := qr 7 l3) (dz dl_Net_arrive_0 18 55 (.aload_n 3) 1 rfl) rfl rfl trivial ?_
    obtain ⟨u2, h⟩ := h
    refine wp_callV l0 5 [qr 6 l1, qi l2, qr 7 l3] [] (dz dl_Net_arrive_0 19 56 (.invokevirtual 292) 3 rfl) ok_Net_nackComes lm_Net_292 (by decide) ws_Net_nackComes wv_Net_nackComes ⟨Nat.le_of_ble_eq_true rfl, Nat.le_of_ble_eq_true rfl⟩ pn_Net_nackComes (Nat.le_of_ble_eq_true rfl) (Nat.le_of_ble_eq_true rfl) rfl (Or.inl rfl) u2 (mt_mono h ?_)
    rintro _ g3 ⟨rfl, h⟩ y3
    replace h := h y3.1
    show nnWP _ _ _ _ _ [] _ _
    refine wp_goto (tgt := 68) (dz dl_Net_arrive_0 20 59 (.goto (9)) 3 rfl) (by decide) ?_
    exact wp_rt none (rt_V rfl (dz dl_Net_arrive_0 25 68 (.return_) 1 rfl)) ⟨rfl, h⟩
  replace h := h.2
  replace h := h ⟨hc0, hc1, hc2⟩
  have hd0 := lv_neT (a := 0) hc0 (by decide)
  have hd1 := lv_neT (a := 1) hc1 (by decide)
  have hd2 := lv_neT (a := 2) hc2 (by decide)
  refine wp_tableOut (tgt := 62) (dz dl_Net_arrive_0 2 4 (.tableswitch (58) (0) (2) #[(28), (38), (48)]) 28 rfl) (by omega) (by decide) ?_
  refine wp_aload_n (i := 1) (v := qr 6 l1) (dz dl_Net_arrive_0 21 62 (.aload_n 1) 1 rfl) rfl rfl trivial ?_
  refine wp_iload_n (i := 2) (x := l2) (dz dl_Net_arrive_0 22 63 (.iload_n 2) 1 rfl) rfl rfl ?_
  refine wp_aload_n (i := 3) (v := qr 7 l3) (dz dl_Net_arrive_0 23 64 (.aload_n 3) 1 rfl) rfl rfl trivial ?_
  obtain ⟨u3, h⟩ := h
  obtain ⟨a2, e2, h⟩ := h
  refine wp_callV a2 3 [qi l2, qr 7 l3] [] (dz dl_Net_arrive_0 24 65 (.invokevirtual 295) 3 rfl) ok_Node_hear lm_Net_295 (by decide) ws_Node_hear wv_Node_hear ⟨Nat.le_of_ble_eq_true rfl, Nat.le_of_ble_eq_true rfl⟩ pn_Node_hear (Nat.le_of_ble_eq_true rfl) (Nat.le_of_ble_eq_true rfl) e2 (Or.inl rfl) u3 (mt_mono h ?_)
  rintro _ g4 ⟨rfl, h⟩ y4
  replace h := h y4.1
  show nnWP _ _ _ _ _ [] _ _
  exact wp_rt none (rt_V rfl (dz dl_Net_arrive_0 25 68 (.return_) 1 rfl)) ⟨rfl, h⟩
theorem t_Net_arrive {X : Nat × (Nat → Int32)} {k : Nat} {g : sg} {l0 : Nat} {l1 : Option Nat} {l2 : Int32} {l3 : Option Nat} {Z : sg → Prop} (h : ∃ a1, l3 = some a1 ∧ ((gI g 448 a1 0) = 0 → 5 ≤ k ∧ nnMT X M_Net_interestComes 5 [qr 0 (some l0), qr 6 l1, qi l2, qr 7 l3] g (zV fun g1 => gExt g g1 → Z g1)) ∧ ((gI g 448 a1 0) = 1 → nnMT X M_Net_dataComes 0 [qr 0 (some l0), qr 6 l1, qi l2, qr 7 l3] g (zV fun g2 => gExt g g2 → Z g2)) ∧ ((gI g 448 a1 0) = 2 → 5 ≤ k ∧ nnMT X M_Net_nackComes 5 [qr 0 (some l0), qr 6 l1, qi l2, qr 7 l3] g (zV fun g3 => gExt g g3 → Z g3)) ∧ (¬ (gI g 448 a1 0) = 0 ∧ ¬ (gI g 448 a1 0) = 1 ∧ ¬ (gI g 448 a1 0) = 2 → 3 ≤ k ∧ ∃ a2, l1 = some a2 ∧ nnMT X M_Node_hear 3 [qr 6 (some a2), qi l2, qr 7 l3] g (zV fun g4 => gExt g g4 → Z g4))) : nnMT X M_Net_arrive k [qr 0 (some l0), qr 6 l1, qi l2, qr 7 l3] g (zV Z) := b_Net_arrive_0 h

theorem b_Net_interestComes_0 {X : Nat × (Nat → Int32)} {k : Nat} {g : sg} {l0 : Nat} {l1 : Option Nat} {l2 : Int32} {l3 : Option Nat} {Z : sg → Prop} (h : ∃ a1, l1 = some a1 ∧ ∃ a2, l3 = some a2 ∧ ∃ a3, gR g 388 a1 0 = some a3 ∧ nnMT X M_Pending_find 0 [qr 8 (some a3), qi (gI g 449 a2 0), qi (gI g 450 a2 0)] g (zR 2 fun r1 g1 => gExt g g1 → (r1 = none → nnWP X M_Net_interestComes k 57 [qr 0 (some l0), qr 6 l1, qi l2, qr 7 l3, qr 2 r1, none, none, none] [] g1 (zV Z)) ∧ (∀ a4, r1 = some a4 → nnMT X M_Entry_hasSeen 0 [qr 2 (some a4), qi (gI g1 451 a2 0), qi l2] g1 (zI fun r2 g2 => gExt g1 g2 → (r2 = 0 → nnWP X M_Net_interestComes k 57 [qr 0 (some l0), qr 6 l1, qi l2, qr 7 l3, qr 2 r1, none, none, none] [] g2 (zV Z)) ∧ (¬ r2 = 0 → 1 ≤ k ∧ nnMT X M_Packet_nack 1 [qi (gI g2 449 a2 0), qi (gI g2 450 a2 0), qi (gI g2 451 a2 0)] g2 (zR 7 fun r3 g3 => gExt g2 g3 → nnMT X M_Net_sendNack 0 [qr 0 (some l0), qr 6 l1, qi l2, qr 7 r3] g3 (zV fun g4 => gExt g3 g4 → Z g4))))))) : nnWP X M_Net_interestComes k 0 [qr 0 (some l0), qr 6 l1, qi l2, qr 7 l3, none, none, none, none] [] g (zV Z) := by
  refine wp_aload_n (i := 1) (v := qr 6 l1) (dz dl_Net_interestComes_0 0 0 (.aload_n 1) 1 rfl) rfl rfl trivial ?_
  obtain ⟨a1, e1, h⟩ := h
  refine wp_getR a1 (dz dl_Net_interestComes_0 1 1 (.getfield 172) 3 rfl) lk_Net_172 kd_388 rfl e1 ?_
  refine wp_aload_n (i := 3) (v := qr 7 l3) (dz dl_Net_interestComes_0 2 4 (.aload_n 3) 1 rfl) rfl rfl trivial ?_
  obtain ⟨a2, e2, h⟩ := h
  refine wp_getI a2 (dz dl_Net_interestComes_0 3 5 (.getfield 259) 3 rfl) lk_Net_259 kd_449 rfl e2 ?_
  refine wp_aload_n (i := 3) (v := qr 7 l3) (dz dl_Net_interestComes_0 4 8 (.aload_n 3) 1 rfl) rfl rfl trivial ?_
  refine wp_getI a2 (dz dl_Net_interestComes_0 5 9 (.getfield 299) 3 rfl) lk_Net_299 kd_450 rfl e2 ?_
  obtain ⟨a3, e3, h⟩ := h
  refine wp_callV a3 0 [qi (gI g 449 a2 0), qi (gI g 450 a2 0)] [] (dz dl_Net_interestComes_0 6 12 (.invokevirtual 302) 3 rfl) ok_Pending_find lm_Net_302 (by decide) ws_Pending_find wv_Pending_find ⟨Nat.le_of_ble_eq_true rfl, Nat.le_of_ble_eq_true rfl⟩ pn_Pending_find (Nat.le_of_ble_eq_true rfl) (Nat.le_of_ble_eq_true rfl) e3 (Or.inl rfl) (Nat.zero_le _) (mt_mono h ?_)
  rintro _ g1 ⟨r1, rfl, h⟩ y1
  replace h := h y1.1
  show nnWP _ _ _ _ _ [qr 2 r1] _ _
  refine wp_astore (i := 4) (dz dl_Net_interestComes_0 7 15 (.astore 4) 2 rfl) [qr 0 (some l0), qr 6 l1, qi l2, qr 7 l3, qr 2 r1, none, none, none] (by decide) trivial rfl ?_
  refine wp_aload (i := 4) (v := qr 2 r1) (dz dl_Net_interestComes_0 8 17 (.aload 4) 2 rfl) rfl trivial ?_
  refine wp_ifnull (tgt := 57) (dz dl_Net_interestComes_0 9 19 (.ifnull (38)) 3 rfl) (by decide) (fun hc => ?_) (fun a4 e4 => ?_)
  · replace h := h.1 hc
    exact wp_cut h ⟨Or.inr rfl, Or.inr rfl, Or.inr rfl, Or.inr rfl, Or.inr rfl, Or.inl rfl, Or.inl rfl, Or.inl rfl, trivial⟩
  · replace h := h.2 a4 e4
    refine wp_aload (i := 4) (v := qr 2 r1) (dz dl_Net_interestComes_0 10 22 (.aload 4) 2 rfl) rfl trivial ?_
    refine wp_aload_n (i := 3) (v := qr 7 l3) (dz dl_Net_interestComes_0 11 24 (.aload_n 3) 1 rfl) rfl rfl trivial ?_
    refine wp_getI a2 (dz dl_Net_interestComes_0 12 25 (.getfield 305) 3 rfl) lk_Net_305 kd_451 rfl e2 ?_
    refine wp_iload_n (i := 2) (x := l2) (dz dl_Net_interestComes_0 13 28 (.iload_n 2) 1 rfl) rfl rfl ?_
    refine wp_callV a4 0 [qi (gI g1 451 a2 0), qi l2] [] (dz dl_Net_interestComes_0 14 29 (.invokevirtual 308) 3 rfl) ok_Entry_hasSeen lm_Net_308 (by decide) ws_Entry_hasSeen wv_Entry_hasSeen ⟨Nat.le_of_ble_eq_true rfl, Nat.le_of_ble_eq_true rfl⟩ pn_Entry_hasSeen (Nat.le_of_ble_eq_true rfl) (Nat.le_of_ble_eq_true rfl) e4 (Or.inl rfl) (Nat.zero_le _) (mt_mono h ?_)
    rintro _ g2 ⟨r2, rfl, h⟩ y2
    replace h := h y2.1
    show nnWP _ _ _ _ _ [qi r2] _ _
    refine wp_if_eq (tgt := 57) (dz dl_Net_interestComes_0 15 32 (.ifCond .eq (25)) 3 rfl) (by decide) (fun hc => ?_) (fun hc => ?_)
    · replace h := h.1 hc
      exact wp_cut h ⟨Or.inr rfl, Or.inr rfl, Or.inr rfl, Or.inr rfl, Or.inr rfl, Or.inl rfl, Or.inl rfl, Or.inl rfl, trivial⟩
    · replace h := h.2 hc
      refine wp_aload_n (i := 0) (v := qr 0 (some l0)) (dz dl_Net_interestComes_0 16 35 (.aload_n 0) 1 rfl) rfl rfl trivial ?_
      refine wp_aload_n (i := 1) (v := qr 6 l1) (dz dl_Net_interestComes_0 17 36 (.aload_n 1) 1 rfl) rfl rfl trivial ?_
      refine wp_iload_n (i := 2) (x := l2) (dz dl_Net_interestComes_0 18 37 (.iload_n 2) 1 rfl) rfl rfl ?_
      refine wp_aload_n (i := 3) (v := qr 7 l3) (dz dl_Net_interestComes_0 19 38 (.aload_n 3) 1 rfl) rfl rfl trivial ?_
      refine wp_getI a2 (dz dl_Net_interestComes_0 20 39 (.getfield 259) 3 rfl) lk_Net_259 kd_449 rfl e2 ?_
      refine wp_aload_n (i := 3) (v := qr 7 l3) (dz dl_Net_interestComes_0 21 42 (.aload_n 3) 1 rfl) rfl rfl trivial ?_
      refine wp_getI a2 (dz dl_Net_interestComes_0 22 43 (.getfield 299) 3 rfl) lk_Net_299 kd_450 rfl e2 ?_
      refine wp_aload_n (i := 3) (v := qr 7 l3) (dz dl_Net_interestComes_0 23 46 (.aload_n 3) 1 rfl) rfl rfl trivial ?_
      refine wp_getI a2 (dz dl_Net_interestComes_0 24 47 (.getfield 305) 3 rfl) lk_Net_305 kd_451 rfl e2 ?_
      obtain ⟨u1, h⟩ := h
      refine wp_callS 1 [qi (gI g2 449 a2 0), qi (gI g2 450 a2 0), qi (gI g2 451 a2 0)] [qi l2, qr 6 l1, qr 0 (some l0)] (dz dl_Net_interestComes_0 25 50 (.invokestatic 314) 3 rfl) ok_Packet_nack lm_Net_314 ws_Packet_nack ⟨Nat.le_of_ble_eq_true rfl, Nat.le_of_ble_eq_true rfl⟩ pn_Packet_nack (Nat.le_of_ble_eq_true rfl) (Nat.le_of_ble_eq_true rfl) (Or.inl rfl) u1 (mt_mono h ?_)
      rintro _ g3 ⟨r3, rfl, h⟩ y3
      replace h := h y3.1
      show nnWP _ _ _ _ _ [qr 7 r3, qi l2, qr 6 l1, qr 0 (some l0)] _ _
      refine wp_callV l0 0 [qr 6 l1, qi l2, qr 7 r3] [] (dz dl_Net_interestComes_0 26 53 (.invokevirtual 317) 3 rfl) ok_Net_sendNack lm_Net_317 (by decide) ws_Net_sendNack wv_Net_sendNack ⟨Nat.le_of_ble_eq_true rfl, Nat.le_of_ble_eq_true rfl⟩ pn_Net_sendNack (Nat.le_of_ble_eq_true rfl) (Nat.le_of_ble_eq_true rfl) rfl (Or.inl rfl) (Nat.zero_le _) (mt_mono h ?_)
      rintro _ g4 ⟨rfl, h⟩ y4
      replace h := h y4.1
      show nnWP _ _ _ _ _ [] _ _
      exact wp_rt none (rt_V rfl (dz dl_Net_interestComes_0 27 56 (.return_) 1 rfl)) ⟨rfl, h⟩
theorem t_Net_interestComes {X : Nat × (Nat → Int32)} {k : Nat} {g : sg} {l0 : Nat} {l1 : Option Nat} {l2 : Int32} {l3 : Option Nat} {Z : sg → Prop} (h : ∃ a1, l1 = some a1 ∧ ∃ a2, l3 = some a2 ∧ ∃ a3, gR g 388 a1 0 = some a3 ∧ nnMT X M_Pending_find 0 [qr 8 (some a3), qi (gI g 449 a2 0), qi (gI g 450 a2 0)] g (zR 2 fun r1 g1 => gExt g g1 → (r1 = none → nnWP X M_Net_interestComes k 57 [qr 0 (some l0), qr 6 l1, qi l2, qr 7 l3, qr 2 r1, none, none, none] [] g1 (zV Z)) ∧ (∀ a4, r1 = some a4 → nnMT X M_Entry_hasSeen 0 [qr 2 (some a4), qi (gI g1 451 a2 0), qi l2] g1 (zI fun r2 g2 => gExt g1 g2 → (r2 = 0 → nnWP X M_Net_interestComes k 57 [qr 0 (some l0), qr 6 l1, qi l2, qr 7 l3, qr 2 r1, none, none, none] [] g2 (zV Z)) ∧ (¬ r2 = 0 → 1 ≤ k ∧ nnMT X M_Packet_nack 1 [qi (gI g2 449 a2 0), qi (gI g2 450 a2 0), qi (gI g2 451 a2 0)] g2 (zR 7 fun r3 g3 => gExt g2 g3 → nnMT X M_Net_sendNack 0 [qr 0 (some l0), qr 6 l1, qi l2, qr 7 r3] g3 (zV fun g4 => gExt g3 g4 → Z g4))))))) : nnMT X M_Net_interestComes k [qr 0 (some l0), qr 6 l1, qi l2, qr 7 l3] g (zV Z) := b_Net_interestComes_0 h

theorem b_Net_interestComes_57 {X : Nat × (Nat → Int32)} {k : Nat} {g : sg} {l0 : Nat} {l1 : Option Nat} {l2 : Int32} {l3 : Option Nat} {l4 : Option Nat} {Z : sg → Prop} (h : ∃ a1, l1 = some a1 ∧ ∃ a2, gR g 387 a1 0 = some a2 ∧ nnMT X M_Store_serve 0 [qr 12 (some a2), qr 7 l3, qr 5 (gR g 5 l0 0), qi (gI g 1 l0 0)] g (zR 7 fun r1 g1 => gExt g g1 → (r1 = none → (l4 = none → ((1 : Int32) = 0 → nnWP X M_Net_interestComes k 131 [qr 0 (some l0), qr 6 l1, qi l2, qr 7 l3, qr 2 l4, none, qi (1 : Int32), none] [] g1 (zV Z)) ∧ (¬ (1 : Int32) = 0 → ∃ a7, l3 = some a7 ∧ ∃ a8, gR g1 388 a1 0 = some a8 ∧ nnMT X M_Pending_make 0 [qr 8 (some a8), qi (gI g1 449 a7 0), qi (gI g1 450 a7 0)] g1 (zR 2 fun r3 g3 => gExt g1 g3 → nnWP X M_Net_interestComes k 131 [qr 0 (some l0), qr 6 l1, qi l2, qr 7 l3, qr 2 r3, none, qi (1 : Int32), none] [] g3 (zV Z)))) ∧ (∀ a4, l4 = some a4 → ((0 : Int32) = 0 → nnWP X M_Net_interestComes k 131 [qr 0 (some l0), qr 6 l1, qi l2, qr 7 l3, qr 2 l4, none, qi (0 : Int32), none] [] g1 (zV Z)) ∧ (¬ (0 : Int32) = 0 → ∃ a5, l3 = some a5 ∧ ∃ a6, gR g1 388 a1 0 = some a6 ∧ nnMT X M_Pending_make 0 [qr 8 (some a6), qi (gI g1 449 a5 0), qi (gI g1 450 a5 0)] g1 (zR 2 fun r2 g2 => gExt g1 g2 → nnWP X M_Net_interestComes k 131 [qr 0 (some l0), qr 6 l1, qi l2, qr 7 l3, qr 2 r2, none, qi (0 : Int32), none] [] g2 (zV Z))))) ∧ (∀ a3, r1 = some a3 → ∃ a9, l3 = some a9 ∧ nnMT X M_Net_sendData 0 [qr 0 (some l0), qr 6 l1, qi l2, qr 7 r1, qi (gI g1 449 a9 0), qi (gI g1 450 a9 0)] g1 (zV fun g4 => gExt g1 g4 → Z g4)))) : nnWP X M_Net_interestComes k 57 [qr 0 (some l0), qr 6 l1, qi l2, qr 7 l3, qr 2 l4, none, none, none] [] g (zV Z) := by
  refine wp_aload_n (i := 1) (v := qr 6 l1) (dz dl_Net_interestComes_0 28 57 (.aload_n 1) 1 rfl) rfl rfl trivial ?_
  obtain ⟨a1, e1, h⟩ := h
  refine wp_getR a1 (dz dl_Net_interestComes_0 29 58 (.getfield 238) 3 rfl) lk_Net_238 kd_387 rfl e1 ?_
  refine wp_aload_n (i := 3) (v := qr 7 l3) (dz dl_Net_interestComes_0 30 61 (.aload_n 3) 1 rfl) rfl rfl trivial ?_
  refine wp_aload_n (i := 0) (v := qr 0 (some l0)) (dz dl_Net_interestComes_0 31 62 (.aload_n 0) 1 rfl) rfl rfl trivial ?_
  refine wp_getR l0 (dz dl_Net_interestComes_0 32 63 (.getfield 20) 3 rfl) lk_Net_20 kd_5 rfl rfl ?_
  refine wp_aload_n (i := 0) (v := qr 0 (some l0)) (dz dl_Net_interestComes_0 33 66 (.aload_n 0) 1 rfl) rfl rfl trivial ?_
  refine wp_getI l0 (dz dl_Net_interestComes_0 34 67 (.getfield 169) 3 rfl) lk_Net_169 kd_1 rfl rfl ?_
  obtain ⟨a2, e2, h⟩ := h
  refine wp_callV a2 0 [qr 7 l3, qr 5 (gR g 5 l0 0), qi (gI g 1 l0 0)] [] (dz dl_Net_interestComes_0 35 70 (.invokevirtual 320) 3 rfl) ok_Store_serve lm_Net_320 (by decide) ws_Store_serve wv_Store_serve ⟨Nat.le_of_ble_eq_true rfl, Nat.le_of_ble_eq_true rfl⟩ pn_Store_serve (Nat.le_of_ble_eq_true rfl) (Nat.le_of_ble_eq_true rfl) e2 (Or.inl rfl) (Nat.zero_le _) (mt_mono h ?_)
  rintro _ g1 ⟨r1, rfl, h⟩ y1
  replace h := h y1.1
  show nnWP _ _ _ _ _ [qr 7 r1] _ _
  refine wp_astore (i := 5) (dz dl_Net_interestComes_0 36 73 (.astore 5) 2 rfl) [qr 0 (some l0), qr 6 l1, qi l2, qr 7 l3, qr 2 l4, qr 7 r1, none, none] (by decide) trivial rfl ?_
  refine wp_aload (i := 5) (v := qr 7 r1) (dz dl_Net_interestComes_0 37 75 (.aload 5) 2 rfl) rfl trivial ?_
  refine wp_ifnull (tgt := 97) (dz dl_Net_interestComes_0 38 77 (.ifnull (20)) 3 rfl) (by decide) (fun hc => ?_) (fun a3 e3 => ?_)
  · replace h := h.1 hc
    refine wp_aload (i := 4) (v := qr 2 l4) (dz dl_Net_interestComes_1 9 97 (.aload 4) 2 rfl) rfl trivial ?_
    refine wp_ifnonnull (tgt := 106) (dz dl_Net_interestComes_1 10 99 (.ifnonnull (7)) 3 rfl) (by decide) (fun a4 e4 => ?_) (fun hc => ?_)
    · replace h := h.2 a4 e4
      refine wp_iconst (dz dl_Net_interestComes_1 13 106 (.iconst (0)) 1 rfl) (v := (0 : Int32)) (by decide) ?_
      refine wp_istore (i := 6) (dz dl_Net_interestComes_1 14 107 (.istore 6) 2 rfl) [qr 0 (some l0), qr 6 l1, qi l2, qr 7 l3, qr 2 l4, qr 7 r1, qi (0 : Int32), none] (by decide) rfl ?_
      refine wp_iload (i := 6) (x := (0 : Int32)) (dz dl_Net_interestComes_1 15 109 (.iload 6) 2 rfl) rfl ?_
      refine wp_if_eq (tgt := 131) (dz dl_Net_interestComes_1 16 111 (.ifCond .eq (20)) 3 rfl) (by decide) (fun hc => ?_) (fun hc => ?_)
      · replace h := h.1 hc
        exact wp_cut h ⟨Or.inr rfl, Or.inr rfl, Or.inr rfl, Or.inr rfl, Or.inr rfl, Or.inl rfl, Or.inr rfl, Or.inl rfl, trivial⟩
      · replace h := h.2 hc
        refine wp_aload_n (i := 1) (v := qr 6 l1) (dz dl_Net_interestComes_1 17 114 (.aload_n 1) 1 rfl) rfl rfl trivial ?_
        refine wp_getR a1 (dz dl_Net_interestComes_1 18 115 (.getfield 172) 3 rfl) lk_Net_172 kd_388 rfl e1 ?_
        refine wp_aload_n (i := 3) (v := qr 7 l3) (dz dl_Net_interestComes_1 19 118 (.aload_n 3) 1 rfl) rfl rfl trivial ?_
        obtain ⟨a5, e5, h⟩ := h
        refine wp_getI a5 (dz dl_Net_interestComes_1 20 119 (.getfield 259) 3 rfl) lk_Net_259 kd_449 rfl e5 ?_
        refine wp_aload_n (i := 3) (v := qr 7 l3) (dz dl_Net_interestComes_1 21 122 (.aload_n 3) 1 rfl) rfl rfl trivial ?_
        refine wp_getI a5 (dz dl_Net_interestComes_1 22 123 (.getfield 299) 3 rfl) lk_Net_299 kd_450 rfl e5 ?_
        obtain ⟨a6, e6, h⟩ := h
        refine wp_callV a6 0 [qi (gI g1 449 a5 0), qi (gI g1 450 a5 0)] [] (dz dl_Net_interestComes_1 23 126 (.invokevirtual 328) 3 rfl) ok_Pending_make lm_Net_328 (by decide) ws_Pending_make wv_Pending_make ⟨Nat.le_of_ble_eq_true rfl, Nat.le_of_ble_eq_true rfl⟩ pn_Pending_make (Nat.le_of_ble_eq_true rfl) (Nat.le_of_ble_eq_true rfl) e6 (Or.inl rfl) (Nat.zero_le _) (mt_mono h ?_)
        rintro _ g2 ⟨r2, rfl, h⟩ y2
        replace h := h y2.1
        show nnWP _ _ _ _ _ [qr 2 r2] _ _
        refine wp_astore (i := 4) (dz dl_Net_interestComes_1 24 129 (.astore 4) 2 rfl) [qr 0 (some l0), qr 6 l1, qi l2, qr 7 l3, qr 2 r2, qr 7 r1, qi (0 : Int32), none] (by decide) trivial rfl ?_
        exact wp_cut h ⟨Or.inr rfl, Or.inr rfl, Or.inr rfl, Or.inr rfl, Or.inr rfl, Or.inl rfl, Or.inr rfl, Or.inl rfl, trivial⟩
    · replace h := h.1 hc
      refine wp_iconst (dz dl_Net_interestComes_1 11 102 (.iconst (1)) 1 rfl) (v := (1 : Int32)) (by decide) ?_
      refine wp_goto (tgt := 107) (dz dl_Net_interestComes_1 12 103 (.goto (4)) 3 rfl) (by decide) ?_
      refine wp_istore (i := 6) (dz dl_Net_interestComes_1 14 107 (.istore 6) 2 rfl) [qr 0 (some l0), qr 6 l1, qi l2, qr 7 l3, qr 2 l4, qr 7 r1, qi (1 : Int32), none] (by decide) rfl ?_
      refine wp_iload (i := 6) (x := (1 : Int32)) (dz dl_Net_interestComes_1 15 109 (.iload 6) 2 rfl) rfl ?_
      refine wp_if_eq (tgt := 131) (dz dl_Net_interestComes_1 16 111 (.ifCond .eq (20)) 3 rfl) (by decide) (fun hc => ?_) (fun hc => ?_)
      · replace h := h.1 hc
        exact wp_cut h ⟨Or.inr rfl, Or.inr rfl, Or.inr rfl, Or.inr rfl, Or.inr rfl, Or.inl rfl, Or.inr rfl, Or.inl rfl, trivial⟩
      · replace h := h.2 hc
        refine wp_aload_n (i := 1) (v := qr 6 l1) (dz dl_Net_interestComes_1 17 114 (.aload_n 1) 1 rfl) rfl rfl trivial ?_
        refine wp_getR a1 (dz dl_Net_interestComes_1 18 115 (.getfield 172) 3 rfl) lk_Net_172 kd_388 rfl e1 ?_
        refine wp_aload_n (i := 3) (v := qr 7 l3) (dz dl_Net_interestComes_1 19 118 (.aload_n 3) 1 rfl) rfl rfl trivial ?_
        obtain ⟨a7, e7, h⟩ := h
        refine wp_getI a7 (dz dl_Net_interestComes_1 20 119 (.getfield 259) 3 rfl) lk_Net_259 kd_449 rfl e7 ?_
        refine wp_aload_n (i := 3) (v := qr 7 l3) (dz dl_Net_interestComes_1 21 122 (.aload_n 3) 1 rfl) rfl rfl trivial ?_
        refine wp_getI a7 (dz dl_Net_interestComes_1 22 123 (.getfield 299) 3 rfl) lk_Net_299 kd_450 rfl e7 ?_
        obtain ⟨a8, e8, h⟩ := h
        refine wp_callV a8 0 [qi (gI g1 449 a7 0), qi (gI g1 450 a7 0)] [] (dz dl_Net_interestComes_1 23 126 (.invokevirtual 328) 3 rfl) ok_Pending_make lm_Net_328 (by decide) ws_Pending_make wv_Pending_make ⟨Nat.le_of_ble_eq_true rfl, Nat.le_of_ble_eq_true rfl⟩ pn_Pending_make (Nat.le_of_ble_eq_true rfl) (Nat.le_of_ble_eq_true rfl) e8 (Or.inl rfl) (Nat.zero_le _) (mt_mono h ?_)
        rintro _ g3 ⟨r3, rfl, h⟩ y3
        replace h := h y3.1
        show nnWP _ _ _ _ _ [qr 2 r3] _ _
        refine wp_astore (i := 4) (dz dl_Net_interestComes_1 24 129 (.astore 4) 2 rfl) [qr 0 (some l0), qr 6 l1, qi l2, qr 7 l3, qr 2 r3, qr 7 r1, qi (1 : Int32), none] (by decide) trivial rfl ?_
        exact wp_cut h ⟨Or.inr rfl, Or.inr rfl, Or.inr rfl, Or.inr rfl, Or.inr rfl, Or.inl rfl, Or.inr rfl, Or.inl rfl, trivial⟩
  · replace h := h.2 a3 e3
    refine wp_aload_n (i := 0) (v := qr 0 (some l0)) (dz dl_Net_interestComes_0 39 80 (.aload_n 0) 1 rfl) rfl rfl trivial ?_
    refine wp_aload_n (i := 1) (v := qr 6 l1) (dz dl_Net_interestComes_1 0 81 (.aload_n 1) 1 rfl) rfl rfl trivial ?_
    refine wp_iload_n (i := 2) (x := l2) (dz dl_Net_interestComes_1 1 82 (.iload_n 2) 1 rfl) rfl rfl ?_
    refine wp_aload (i := 5) (v := qr 7 r1) (dz dl_Net_interestComes_1 2 83 (.aload 5) 2 rfl) rfl trivial ?_
    refine wp_aload_n (i := 3) (v := qr 7 l3) (dz dl_Net_interestComes_1 3 85 (.aload_n 3) 1 rfl) rfl rfl trivial ?_
    obtain ⟨a9, e9, h⟩ := h
    refine wp_getI a9 (dz dl_Net_interestComes_1 4 86 (.getfield 259) 3 rfl) lk_Net_259 kd_449 rfl e9 ?_
    refine wp_aload_n (i := 3) (v := qr 7 l3) (dz dl_Net_interestComes_1 5 89 (.aload_n 3) 1 rfl) rfl rfl trivial ?_
    refine wp_getI a9 (dz dl_Net_interestComes_1 6 90 (.getfield 299) 3 rfl) lk_Net_299 kd_450 rfl e9 ?_
    refine wp_callV l0 0 [qr 6 l1, qi l2, qr 7 r1, qi (gI g1 449 a9 0), qi (gI g1 450 a9 0)] [] (dz dl_Net_interestComes_1 7 93 (.invokevirtual 324) 3 rfl) ok_Net_sendData lm_Net_324 (by decide) ws_Net_sendData wv_Net_sendData ⟨Nat.le_of_ble_eq_true rfl, Nat.le_of_ble_eq_true rfl⟩ pn_Net_sendData (Nat.le_of_ble_eq_true rfl) (Nat.le_of_ble_eq_true rfl) rfl (Or.inl rfl) (Nat.zero_le _) (mt_mono h ?_)
    rintro _ g4 ⟨rfl, h⟩ y4
    replace h := h y4.1
    show nnWP _ _ _ _ _ [] _ _
    exact wp_rt none (rt_V rfl (dz dl_Net_interestComes_1 8 96 (.return_) 1 rfl)) ⟨rfl, h⟩

theorem b_Net_interestComes_131 {X : Nat × (Nat → Int32)} {k : Nat} {g : sg} {l0 : Nat} {l1 : Option Nat} {l2 : Int32} {l3 : Option Nat} {l4 : Option Nat} {l6 : Int32} {Z : sg → Prop} (h : (l4 = none → ∃ a3, l3 = some a3 ∧ 1 ≤ k ∧ nnMT X M_Packet_nack 1 [qi (gI g 449 a3 0), qi (gI g 450 a3 0), qi (gI g 451 a3 0)] g (zR 7 fun r2 g6 => gExt g g6 → nnMT X M_Net_sendNack 0 [qr 0 (some l0), qr 6 l1, qi l2, qr 7 r2] g6 (zV fun g7 => gExt g6 g7 → Z g7))) ∧ (∀ a1, l4 = some a1 → nnMT X M_Entry_hasAsk 0 [qr 2 (some a1), qi l2] g (zI fun r1 g1 => gExt g g1 → ∃ a2, l3 = some a2 ∧ nnMT X M_Entry_putAsk 0 [qr 2 (some a1), qi l2, qi (gI g1 451 a2 0), qi ((gI g1 1 l0 0) + (gI g1 0 l0 0))] g1 (zV fun g2 => gExt g1 g2 → ∀ g3, g3 = pI g2 130 a1 0 (gI g2 452 a2 0) → (¬ l6 = 0 → 5 ≤ k ∧ nnMT X M_Net_passOn 5 [qr 0 (some l0), qr 6 l1, qr 2 l4, qi (gI g3 451 a2 0)] g3 (zV fun g4 => gExt g3 g4 → Z g4)) ∧ (l6 = 0 → (r1 = 0 → Z g3) ∧ (¬ r1 = 0 → 5 ≤ k ∧ nnMT X M_Net_passOn 5 [qr 0 (some l0), qr 6 l1, qr 2 l4, qi (gI g3 451 a2 0)] g3 (zV fun g5 => gExt g3 g5 → Z g5))))))) : nnWP X M_Net_interestComes k 131 [qr 0 (some l0), qr 6 l1, qi l2, qr 7 l3, qr 2 l4, none, qi l6, none] [] g (zV Z) := by
  refine wp_aload (i := 4) (v := qr 2 l4) (dz dl_Net_interestComes_1 25 131 (.aload 4) 2 rfl) rfl trivial ?_
  refine wp_ifnonnull (tgt := 158) (dz dl_Net_interestComes_1 26 133 (.ifnonnull (25)) 3 rfl) (by decide) (fun a1 e1 => ?_) (fun hc => ?_)
  · replace h := h.2 a1 e1
    refine wp_aload (i := 4) (v := qr 2 l4) (dz dl_Net_interestComes_1 39 158 (.aload 4) 2 rfl) rfl trivial ?_
    refine wp_iload_n (i := 2) (x := l2) (dz dl_Net_interestComes_2 0 160 (.iload_n 2) 1 rfl) rfl rfl ?_
    refine wp_callV a1 0 [qi l2] [] (dz dl_Net_interestComes_2 1 161 (.invokevirtual 330) 3 rfl) ok_Entry_hasAsk lm_Net_330 (by decide) ws_Entry_hasAsk wv_Entry_hasAsk ⟨Nat.le_of_ble_eq_true rfl, Nat.le_of_ble_eq_true rfl⟩ pn_Entry_hasAsk (Nat.le_of_ble_eq_true rfl) (Nat.le_of_ble_eq_true rfl) e1 (Or.inl rfl) (Nat.zero_le _) (mt_mono h ?_)
    rintro _ g1 ⟨r1, rfl, h⟩ y1
    replace h := h y1.1
    show nnWP _ _ _ _ _ [qi r1] _ _
    refine wp_istore (i := 7) (dz dl_Net_interestComes_2 2 164 (.istore 7) 2 rfl) [qr 0 (some l0), qr 6 l1, qi l2, qr 7 l3, qr 2 l4, none, qi l6, qi r1] (by decide) rfl ?_
    refine wp_aload (i := 4) (v := qr 2 l4) (dz dl_Net_interestComes_2 3 166 (.aload 4) 2 rfl) rfl trivial ?_
    refine wp_iload_n (i := 2) (x := l2) (dz dl_Net_interestComes_2 4 168 (.iload_n 2) 1 rfl) rfl rfl ?_
    refine wp_aload_n (i := 3) (v := qr 7 l3) (dz dl_Net_interestComes_2 5 169 (.aload_n 3) 1 rfl) rfl rfl trivial ?_
    obtain ⟨a2, e2, h⟩ := h
    refine wp_getI a2 (dz dl_Net_interestComes_2 6 170 (.getfield 305) 3 rfl) lk_Net_305 kd_451 rfl e2 ?_
    refine wp_aload_n (i := 0) (v := qr 0 (some l0)) (dz dl_Net_interestComes_2 7 173 (.aload_n 0) 1 rfl) rfl rfl trivial ?_
    refine wp_getI l0 (dz dl_Net_interestComes_2 8 174 (.getfield 169) 3 rfl) lk_Net_169 kd_1 rfl rfl ?_
    refine wp_aload_n (i := 0) (v := qr 0 (some l0)) (dz dl_Net_interestComes_2 9 177 (.aload_n 0) 1 rfl) rfl rfl trivial ?_
    refine wp_getI l0 (dz dl_Net_interestComes_2 10 178 (.getfield 49) 3 rfl) lk_Net_49 kd_0 rfl rfl ?_
    refine wp_iadd (dz dl_Net_interestComes_2 11 181 (.iadd) 1 rfl) ?_
    refine wp_callV a1 0 [qi l2, qi (gI g1 451 a2 0), qi ((gI g1 1 l0 0) + (gI g1 0 l0 0))] [] (dz dl_Net_interestComes_2 12 182 (.invokevirtual 333) 3 rfl) ok_Entry_putAsk lm_Net_333 (by decide) ws_Entry_putAsk wv_Entry_putAsk ⟨Nat.le_of_ble_eq_true rfl, Nat.le_of_ble_eq_true rfl⟩ pn_Entry_putAsk (Nat.le_of_ble_eq_true rfl) (Nat.le_of_ble_eq_true rfl) e1 (Or.inl rfl) (Nat.zero_le _) (mt_mono h ?_)
    rintro _ g2 ⟨rfl, h⟩ y2
    replace h := h y2.1
    show nnWP _ _ _ _ _ [] _ _
    refine wp_aload (i := 4) (v := qr 2 l4) (dz dl_Net_interestComes_2 13 185 (.aload 4) 2 rfl) rfl trivial ?_
    refine wp_aload_n (i := 3) (v := qr 7 l3) (dz dl_Net_interestComes_2 14 187 (.aload_n 3) 1 rfl) rfl rfl trivial ?_
    refine wp_getI a2 (dz dl_Net_interestComes_2 15 188 (.getfield 336) 3 rfl) lk_Net_336 kd_452 rfl e2 ?_
    have h := h _ rfl
    refine wp_putI a1 (dz dl_Net_interestComes_2 16 191 (.putfield 339) 3 rfl) lk_Net_339 kd_130 rfl rfl e1 (okI_0 _) rfl ?_
    refine wp_iload (i := 6) (x := l6) (dz dl_Net_interestComes_2 17 194 (.iload 6) 2 rfl) rfl ?_
    refine wp_if_ne (tgt := 204) (dz dl_Net_interestComes_2 18 196 (.ifCond .ne (8)) 3 rfl) (by decide) (fun hc => ?_) (fun hc => ?_)
    · replace h := h.1 hc
      refine wp_aload_n (i := 0) (v := qr 0 (some l0)) (dz dl_Net_interestComes_2 21 204 (.aload_n 0) 1 rfl) rfl rfl trivial ?_
      refine wp_aload_n (i := 1) (v := qr 6 l1) (dz dl_Net_interestComes_2 22 205 (.aload_n 1) 1 rfl) rfl rfl trivial ?_
      refine wp_aload (i := 4) (v := qr 2 l4) (dz dl_Net_interestComes_2 23 206 (.aload 4) 2 rfl) rfl trivial ?_
      refine wp_aload_n (i := 3) (v := qr 7 l3) (dz dl_Net_interestComes_2 24 208 (.aload_n 3) 1 rfl) rfl rfl trivial ?_
      refine wp_getI a2 (dz dl_Net_interestComes_2 25 209 (.getfield 305) 3 rfl) lk_Net_305 kd_451 rfl e2 ?_
      obtain ⟨u1, h⟩ := h
      refine wp_callV l0 5 [qr 6 l1, qr 2 l4, qi (gI (pI g2 130 a1 0 (gI g2 452 a2 0)) 451 a2 0)] [] (dz dl_Net_interestComes_2 26 212 (.invokevirtual 340) 3 rfl) ok_Net_passOn lm_Net_340 (by decide) ws_Net_passOn wv_Net_passOn ⟨Nat.le_of_ble_eq_true rfl, Nat.le_of_ble_eq_true rfl⟩ pn_Net_passOn (Nat.le_of_ble_eq_true rfl) (Nat.le_of_ble_eq_true rfl) rfl (Or.inl rfl) u1 (mt_mono h ?_)
      rintro _ g4 ⟨rfl, h⟩ y3
      replace h := h y3.1
      show nnWP _ _ _ _ _ [] _ _
      exact wp_rt none (rt_V rfl (dz dl_Net_interestComes_2 27 215 (.return_) 1 rfl)) ⟨rfl, h⟩
    · replace h := h.2 hc
      refine wp_iload (i := 7) (x := r1) (dz dl_Net_interestComes_2 19 199 (.iload 7) 2 rfl) rfl ?_
      refine wp_if_eq (tgt := 215) (dz dl_Net_interestComes_2 20 201 (.ifCond .eq (14)) 3 rfl) (by decide) (fun hc => ?_) (fun hc => ?_)
      · replace h := h.1 hc
        exact wp_rt none (rt_V rfl (dz dl_Net_interestComes_2 27 215 (.return_) 1 rfl)) ⟨rfl, h⟩
      · replace h := h.2 hc
        refine wp_aload_n (i := 0) (v := qr 0 (some l0)) (dz dl_Net_interestComes_2 21 204 (.aload_n 0) 1 rfl) rfl rfl trivial ?_
        refine wp_aload_n (i := 1) (v := qr 6 l1) (dz dl_Net_interestComes_2 22 205 (.aload_n 1) 1 rfl) rfl rfl trivial ?_
        refine wp_aload (i := 4) (v := qr 2 l4) (dz dl_Net_interestComes_2 23 206 (.aload 4) 2 rfl) rfl trivial ?_
        refine wp_aload_n (i := 3) (v := qr 7 l3) (dz dl_Net_interestComes_2 24 208 (.aload_n 3) 1 rfl) rfl rfl trivial ?_
        refine wp_getI a2 (dz dl_Net_interestComes_2 25 209 (.getfield 305) 3 rfl) lk_Net_305 kd_451 rfl e2 ?_
        obtain ⟨u2, h⟩ := h
        refine wp_callV l0 5 [qr 6 l1, qr 2 l4, qi (gI (pI g2 130 a1 0 (gI g2 452 a2 0)) 451 a2 0)] [] (dz dl_Net_interestComes_2 26 212 (.invokevirtual 340) 3 rfl) ok_Net_passOn lm_Net_340 (by decide) ws_Net_passOn wv_Net_passOn ⟨Nat.le_of_ble_eq_true rfl, Nat.le_of_ble_eq_true rfl⟩ pn_Net_passOn (Nat.le_of_ble_eq_true rfl) (Nat.le_of_ble_eq_true rfl) rfl (Or.inl rfl) u2 (mt_mono h ?_)
        rintro _ g5 ⟨rfl, h⟩ y4
        replace h := h y4.1
        show nnWP _ _ _ _ _ [] _ _
        exact wp_rt none (rt_V rfl (dz dl_Net_interestComes_2 27 215 (.return_) 1 rfl)) ⟨rfl, h⟩
  · replace h := h.1 hc
    refine wp_aload_n (i := 0) (v := qr 0 (some l0)) (dz dl_Net_interestComes_1 27 136 (.aload_n 0) 1 rfl) rfl rfl trivial ?_
    refine wp_aload_n (i := 1) (v := qr 6 l1) (dz dl_Net_interestComes_1 28 137 (.aload_n 1) 1 rfl) rfl rfl trivial ?_
    refine wp_iload_n (i := 2) (x := l2) (dz dl_Net_interestComes_1 29 138 (.iload_n 2) 1 rfl) rfl rfl ?_
    refine wp_aload_n (i := 3) (v := qr 7 l3) (dz dl_Net_interestComes_1 30 139 (.aload_n 3) 1 rfl) rfl rfl trivial ?_
    obtain ⟨a3, e3, h⟩ := h
    refine wp_getI a3 (dz dl_Net_interestComes_1 31 140 (.getfield 259) 3 rfl) lk_Net_259 kd_449 rfl e3 ?_
    refine wp_aload_n (i := 3) (v := qr 7 l3) (dz dl_Net_interestComes_1 32 143 (.aload_n 3) 1 rfl) rfl rfl trivial ?_
    refine wp_getI a3 (dz dl_Net_interestComes_1 33 144 (.getfield 299) 3 rfl) lk_Net_299 kd_450 rfl e3 ?_
    refine wp_aload_n (i := 3) (v := qr 7 l3) (dz dl_Net_interestComes_1 34 147 (.aload_n 3) 1 rfl) rfl rfl trivial ?_
    refine wp_getI a3 (dz dl_Net_interestComes_1 35 148 (.getfield 305) 3 rfl) lk_Net_305 kd_451 rfl e3 ?_
    obtain ⟨u3, h⟩ := h
    refine wp_callS 1 [qi (gI g 449 a3 0), qi (gI g 450 a3 0), qi (gI g 451 a3 0)] [qi l2, qr 6 l1, qr 0 (some l0)] (dz dl_Net_interestComes_1 36 151 (.invokestatic 314) 3 rfl) ok_Packet_nack lm_Net_314 ws_Packet_nack ⟨Nat.le_of_ble_eq_true rfl, Nat.le_of_ble_eq_true rfl⟩ pn_Packet_nack (Nat.le_of_ble_eq_true rfl) (Nat.le_of_ble_eq_true rfl) (Or.inl rfl) u3 (mt_mono h ?_)
    rintro _ g6 ⟨r2, rfl, h⟩ y5
    replace h := h y5.1
    show nnWP _ _ _ _ _ [qr 7 r2, qi l2, qr 6 l1, qr 0 (some l0)] _ _
    refine wp_callV l0 0 [qr 6 l1, qi l2, qr 7 r2] [] (dz dl_Net_interestComes_1 37 154 (.invokevirtual 317) 3 rfl) ok_Net_sendNack lm_Net_317 (by decide) ws_Net_sendNack wv_Net_sendNack ⟨Nat.le_of_ble_eq_true rfl, Nat.le_of_ble_eq_true rfl⟩ pn_Net_sendNack (Nat.le_of_ble_eq_true rfl) (Nat.le_of_ble_eq_true rfl) rfl (Or.inl rfl) (Nat.zero_le _) (mt_mono h ?_)
    rintro _ g7 ⟨rfl, h⟩ y6
    replace h := h y6.1
    show nnWP _ _ _ _ _ [] _ _
    exact wp_rt none (rt_V rfl (dz dl_Net_interestComes_1 38 157 (.return_) 1 rfl)) ⟨rfl, h⟩

theorem b_Net_passOn_0 {X : Nat × (Nat → Int32)} {k : Nat} {g : sg} {l0 : Nat} {l1 : Option Nat} {l2 : Option Nat} {l3 : Int32} {Z : sg → Prop} (h : ∃ a1, l1 = some a1 ∧ nnMT X M_Node_bestFace 0 [qr 6 (some a1), qr 2 l2, qr 5 (gR g 5 l0 0)] g (zI fun r1 g1 => gExt g g1 → (¬ r1 = (4 : Int32) → nnWP X M_Net_passOn k 61 [qr 0 (some l0), qr 6 l1, qr 2 l2, qi l3, qi r1, none] [] g1 (zV Z)) ∧ (r1 = (4 : Int32) → ∃ a2, l2 = some a2 ∧ nnMT X M_Entry_putErrand 0 [qr 2 (some a2), qi (4 : Int32), qi l3] g1 (zV fun g2 => gExt g1 g2 → nnMT X M_Net_producedFor 0 [qr 0 (some l0), qr 6 l1, qr 2 l2] g2 (zR 7 fun r2 g3 => gExt g2 g3 → (r2 = none → nnMT X M_Entry_nackErrand 0 [qr 2 (some a2), qi (4 : Int32)] g3 (zV fun g4 => gExt g3 g4 → nnMT X M_Node_bestFace 0 [qr 6 (some a1), qr 2 l2, qr 5 (gR g4 5 l0 0)] g4 (zI fun r3 g5 => gExt g4 g5 → nnWP X M_Net_passOn k 61 [qr 0 (some l0), qr 6 l1, qr 2 l2, qi l3, qi r3, none] [] g5 (zV Z)))) ∧ (∀ a3, r2 = some a3 → nnMT X M_Net_dataComes 0 [qr 0 (some l0), qr 6 l1, qi (4 : Int32), qr 7 r2] g3 (zV fun g6 => gExt g3 g6 → Z g6))))))) : nnWP X M_Net_passOn k 0 [qr 0 (some l0), qr 6 l1, qr 2 l2, qi l3, none, none] [] g (zV Z) := by
  refine wp_aload_n (i := 1) (v := qr 6 l1) (dz dl_Net_passOn_0 0 0 (.aload_n 1) 1 rfl) rfl rfl trivial ?_
  refine wp_aload_n (i := 2) (v := qr 2 l2) (dz dl_Net_passOn_0 1 1 (.aload_n 2) 1 rfl) rfl rfl trivial ?_
  refine wp_aload_n (i := 0) (v := qr 0 (some l0)) (dz dl_Net_passOn_0 2 2 (.aload_n 0) 1 rfl) rfl rfl trivial ?_
  refine wp_getR l0 (dz dl_Net_passOn_0 3 3 (.getfield 20) 3 rfl) lk_Net_20 kd_5 rfl rfl ?_
  obtain ⟨a1, e1, h⟩ := h
  refine wp_callV a1 0 [qr 2 l2, qr 5 (gR g 5 l0 0)] [] (dz dl_Net_passOn_0 4 6 (.invokevirtual 344) 3 rfl) ok_Node_bestFace lm_Net_344 (by decide) ws_Node_bestFace wv_Node_bestFace ⟨Nat.le_of_ble_eq_true rfl, Nat.le_of_ble_eq_true rfl⟩ pn_Node_bestFace (Nat.le_of_ble_eq_true rfl) (Nat.le_of_ble_eq_true rfl) e1 (Or.inl rfl) (Nat.zero_le _) (mt_mono h ?_)
  rintro _ g1 ⟨r1, rfl, h⟩ y1
  replace h := h y1.1
  show nnWP _ _ _ _ _ [qi r1] _ _
  refine wp_istore (i := 4) (dz dl_Net_passOn_0 5 9 (.istore 4) 2 rfl) [qr 0 (some l0), qr 6 l1, qr 2 l2, qi l3, qi r1, none] (by decide) rfl ?_
  refine wp_iload (i := 4) (x := r1) (dz dl_Net_passOn_0 6 11 (.iload 4) 2 rfl) rfl ?_
  refine wp_iconst (dz dl_Net_passOn_0 7 13 (.iconst (4)) 1 rfl) (v := (4 : Int32)) (by decide) ?_
  refine wp_icmp_ne (tgt := 61) (dz dl_Net_passOn_0 8 14 (.if_icmp .ne (47)) 3 rfl) (by decide) (fun hc => ?_) (fun hc => ?_)
  · replace h := h.1 hc
    exact wp_cut h ⟨Or.inr rfl, Or.inr rfl, Or.inr rfl, Or.inr rfl, Or.inr rfl, Or.inl rfl, trivial⟩
  · replace h := h.2 hc
    refine wp_aload_n (i := 2) (v := qr 2 l2) (dz dl_Net_passOn_0 9 17 (.aload_n 2) 1 rfl) rfl rfl trivial ?_
    refine wp_iconst (dz dl_Net_passOn_0 10 18 (.iconst (4)) 1 rfl) (v := (4 : Int32)) (by decide) ?_
    refine wp_iload_n (i := 3) (x := l3) (dz dl_Net_passOn_0 11 19 (.iload_n 3) 1 rfl) rfl rfl ?_
    obtain ⟨a2, e2, h⟩ := h
    refine wp_callV a2 0 [qi (4 : Int32), qi l3] [] (dz dl_Net_passOn_0 12 20 (.invokevirtual 348) 3 rfl) ok_Entry_putErrand lm_Net_348 (by decide) ws_Entry_putErrand wv_Entry_putErrand ⟨Nat.le_of_ble_eq_true rfl, Nat.le_of_ble_eq_true rfl⟩ pn_Entry_putErrand (Nat.le_of_ble_eq_true rfl) (Nat.le_of_ble_eq_true rfl) e2 (Or.inl rfl) (Nat.zero_le _) (mt_mono h ?_)
    rintro _ g2 ⟨rfl, h⟩ y2
    replace h := h y2.1
    show nnWP _ _ _ _ _ [] _ _
    refine wp_aload_n (i := 0) (v := qr 0 (some l0)) (dz dl_Net_passOn_0 13 23 (.aload_n 0) 1 rfl) rfl rfl trivial ?_
    refine wp_aload_n (i := 1) (v := qr 6 l1) (dz dl_Net_passOn_0 14 24 (.aload_n 1) 1 rfl) rfl rfl trivial ?_
    refine wp_aload_n (i := 2) (v := qr 2 l2) (dz dl_Net_passOn_0 15 25 (.aload_n 2) 1 rfl) rfl rfl trivial ?_
    refine wp_callV l0 0 [qr 6 l1, qr 2 l2] [] (dz dl_Net_passOn_0 16 26 (.invokevirtual 351) 3 rfl) ok_Net_producedFor lm_Net_351 (by decide) ws_Net_producedFor wv_Net_producedFor ⟨Nat.le_of_ble_eq_true rfl, Nat.le_of_ble_eq_true rfl⟩ pn_Net_producedFor (Nat.le_of_ble_eq_true rfl) (Nat.le_of_ble_eq_true rfl) rfl (Or.inl rfl) (Nat.zero_le _) (mt_mono h ?_)
    rintro _ g3 ⟨r2, rfl, h⟩ y3
    replace h := h y3.1
    show nnWP _ _ _ _ _ [qr 7 r2] _ _
    refine wp_astore (i := 5) (dz dl_Net_passOn_0 17 29 (.astore 5) 2 rfl) [qr 0 (some l0), qr 6 l1, qr 2 l2, qi l3, qi r1, qr 7 r2] (by decide) trivial rfl ?_
    refine wp_aload (i := 5) (v := qr 7 r2) (dz dl_Net_passOn_0 18 31 (.aload 5) 2 rfl) rfl trivial ?_
    refine wp_ifnull (tgt := 45) (dz dl_Net_passOn_0 19 33 (.ifnull (12)) 3 rfl) (by decide) (fun hc => ?_) (fun a3 e3 => ?_)
    · replace h := h.1 hc
      refine wp_aload_n (i := 2) (v := qr 2 l2) (dz dl_Net_passOn_0 26 45 (.aload_n 2) 1 rfl) rfl rfl trivial ?_
      refine wp_iconst (dz dl_Net_passOn_0 27 46 (.iconst (4)) 1 rfl) (v := (4 : Int32)) (by decide) ?_
      refine wp_callV a2 0 [qi (4 : Int32)] [] (dz dl_Net_passOn_0 28 47 (.invokevirtual 355) 3 rfl) ok_Entry_nackErrand lm_Net_355 (by decide) ws_Entry_nackErrand wv_Entry_nackErrand ⟨Nat.le_of_ble_eq_true rfl, Nat.le_of_ble_eq_true rfl⟩ pn_Entry_nackErrand (Nat.le_of_ble_eq_true rfl) (Nat.le_of_ble_eq_true rfl) e2 (Or.inl rfl) (Nat.zero_le _) (mt_mono h ?_)
      rintro _ g4 ⟨rfl, h⟩ y4
      replace h := h y4.1
      show nnWP _ _ _ _ _ [] _ _
      refine wp_aload_n (i := 1) (v := qr 6 l1) (dz dl_Net_passOn_0 29 50 (.aload_n 1) 1 rfl) rfl rfl trivial ?_
      refine wp_aload_n (i := 2) (v := qr 2 l2) (dz dl_Net_passOn_0 30 51 (.aload_n 2) 1 rfl) rfl rfl trivial ?_
      refine wp_aload_n (i := 0) (v := qr 0 (some l0)) (dz dl_Net_passOn_0 31 52 (.aload_n 0) 1 rfl) rfl rfl trivial ?_
      refine wp_getR l0 (dz dl_Net_passOn_0 32 53 (.getfield 20) 3 rfl) lk_Net_20 kd_5 rfl rfl ?_
      refine wp_callV a1 0 [qr 2 l2, qr 5 (gR g4 5 l0 0)] [] (dz dl_Net_passOn_0 33 56 (.invokevirtual 344) 3 rfl) ok_Node_bestFace lm_Net_344 (by decide) ws_Node_bestFace wv_Node_bestFace ⟨Nat.le_of_ble_eq_true rfl, Nat.le_of_ble_eq_true rfl⟩ pn_Node_bestFace (Nat.le_of_ble_eq_true rfl) (Nat.le_of_ble_eq_true rfl) e1 (Or.inl rfl) (Nat.zero_le _) (mt_mono h ?_)
      rintro _ g5 ⟨r3, rfl, h⟩ y5
      replace h := h y5.1
      show nnWP _ _ _ _ _ [qi r3] _ _
      refine wp_istore (i := 4) (dz dl_Net_passOn_0 34 59 (.istore 4) 2 rfl) [qr 0 (some l0), qr 6 l1, qr 2 l2, qi l3, qi r3, qr 7 r2] (by decide) rfl ?_
      exact wp_cut h ⟨Or.inr rfl, Or.inr rfl, Or.inr rfl, Or.inr rfl, Or.inr rfl, Or.inl rfl, trivial⟩
    · replace h := h.2 a3 e3
      refine wp_aload_n (i := 0) (v := qr 0 (some l0)) (dz dl_Net_passOn_0 20 36 (.aload_n 0) 1 rfl) rfl rfl trivial ?_
      refine wp_aload_n (i := 1) (v := qr 6 l1) (dz dl_Net_passOn_0 21 37 (.aload_n 1) 1 rfl) rfl rfl trivial ?_
      refine wp_iconst (dz dl_Net_passOn_0 22 38 (.iconst (4)) 1 rfl) (v := (4 : Int32)) (by decide) ?_
      refine wp_aload (i := 5) (v := qr 7 r2) (dz dl_Net_passOn_0 23 39 (.aload 5) 2 rfl) rfl trivial ?_
      refine wp_callV l0 0 [qr 6 l1, qi (4 : Int32), qr 7 r2] [] (dz dl_Net_passOn_0 24 41 (.invokevirtual 289) 3 rfl) ok_Net_dataComes lm_Net_289 (by decide) ws_Net_dataComes wv_Net_dataComes ⟨Nat.le_of_ble_eq_true rfl, Nat.le_of_ble_eq_true rfl⟩ pn_Net_dataComes (Nat.le_of_ble_eq_true rfl) (Nat.le_of_ble_eq_true rfl) rfl (Or.inl rfl) (Nat.zero_le _) (mt_mono h ?_)
      rintro _ g6 ⟨rfl, h⟩ y6
      replace h := h y6.1
      show nnWP _ _ _ _ _ [] _ _
      exact wp_rt none (rt_V rfl (dz dl_Net_passOn_0 25 44 (.return_) 1 rfl)) ⟨rfl, h⟩
theorem t_Net_passOn {X : Nat × (Nat → Int32)} {k : Nat} {g : sg} {l0 : Nat} {l1 : Option Nat} {l2 : Option Nat} {l3 : Int32} {Z : sg → Prop} (h : ∃ a1, l1 = some a1 ∧ nnMT X M_Node_bestFace 0 [qr 6 (some a1), qr 2 l2, qr 5 (gR g 5 l0 0)] g (zI fun r1 g1 => gExt g g1 → (¬ r1 = (4 : Int32) → nnWP X M_Net_passOn k 61 [qr 0 (some l0), qr 6 l1, qr 2 l2, qi l3, qi r1, none] [] g1 (zV Z)) ∧ (r1 = (4 : Int32) → ∃ a2, l2 = some a2 ∧ nnMT X M_Entry_putErrand 0 [qr 2 (some a2), qi (4 : Int32), qi l3] g1 (zV fun g2 => gExt g1 g2 → nnMT X M_Net_producedFor 0 [qr 0 (some l0), qr 6 l1, qr 2 l2] g2 (zR 7 fun r2 g3 => gExt g2 g3 → (r2 = none → nnMT X M_Entry_nackErrand 0 [qr 2 (some a2), qi (4 : Int32)] g3 (zV fun g4 => gExt g3 g4 → nnMT X M_Node_bestFace 0 [qr 6 (some a1), qr 2 l2, qr 5 (gR g4 5 l0 0)] g4 (zI fun r3 g5 => gExt g4 g5 → nnWP X M_Net_passOn k 61 [qr 0 (some l0), qr 6 l1, qr 2 l2, qi l3, qi r3, none] [] g5 (zV Z)))) ∧ (∀ a3, r2 = some a3 → nnMT X M_Net_dataComes 0 [qr 0 (some l0), qr 6 l1, qi (4 : Int32), qr 7 r2] g3 (zV fun g6 => gExt g3 g6 → Z g6))))))) : nnMT X M_Net_passOn k [qr 0 (some l0), qr 6 l1, qr 2 l2, qi l3] g (zV Z) := b_Net_passOn_0 h

theorem b_Net_passOn_61 {X : Nat × (Nat → Int32)} {k : Nat} {g : sg} {l0 : Nat} {l1 : Option Nat} {l2 : Option Nat} {l3 : Int32} {l4 : Int32} {Z : sg → Prop} (h : (l4 < 0 → 5 ≤ k ∧ nnMT X M_Net_failIfAllNacked 5 [qr 0 (some l0), qr 6 l1, qr 2 l2] g (zV fun g1 => gExt g g1 → Z g1)) ∧ (¬ l4 < 0 → ((4 : Int32) ≤ l4 → 5 ≤ k ∧ nnMT X M_Net_failIfAllNacked 5 [qr 0 (some l0), qr 6 l1, qr 2 l2] g (zV fun g2 => gExt g g2 → Z g2)) ∧ (¬ (4 : Int32) ≤ l4 → ∃ a1, l2 = some a1 ∧ (0 < (gI g 130 a1 0) → nnMT X M_Entry_putErrand 0 [qr 2 (some a1), qi l4, qi l3] g (zV fun g3 => gExt g g3 → ∃ a2, l1 = some a2 ∧ gA g3 385 a2 = some 4 ∧ vp_in l4 4 ∧ 1 ≤ k ∧ nnMT X M_Packet_interest 1 [qi (gI g3 128 a1 0), qi (gI g3 129 a1 0), qi l3, qi ((gI g3 130 a1 0) - (1 : Int32))] g3 (zR 7 fun r1 g4 => gExt g3 g4 → ∃ a3, gR g3 385 a2 l4.toNatClampNeg = some a3 ∧ nnMT X M_Face_put 0 [qr 3 (some a3), qr 7 r1] g4 (zI fun r2 g5 => gExt g4 g5 → Z g5)))) ∧ (¬ 0 < (gI g 130 a1 0) → 5 ≤ k ∧ nnMT X M_Net_failIfAllNacked 5 [qr 0 (some l0), qr 6 l1, qr 2 l2] g (zV fun g6 => gExt g g6 → Z g6))))) : nnWP X M_Net_passOn k 61 [qr 0 (some l0), qr 6 l1, qr 2 l2, qi l3, qi l4, none] [] g (zV Z) := by
  refine wp_iload (i := 4) (x := l4) (dz dl_Net_passOn_0 35 61 (.iload 4) 2 rfl) rfl ?_
  refine wp_if_lt (tgt := 79) (dz dl_Net_passOn_0 36 63 (.ifCond .lt (16)) 3 rfl) (by decide) (fun hc => ?_) (fun hc => ?_)
  · replace h := h.1 hc
    refine wp_aload_n (i := 0) (v := qr 0 (some l0)) (dz dl_Net_passOn_1 3 79 (.aload_n 0) 1 rfl) rfl rfl trivial ?_
    refine wp_aload_n (i := 1) (v := qr 6 l1) (dz dl_Net_passOn_1 4 80 (.aload_n 1) 1 rfl) rfl rfl trivial ?_
    refine wp_aload_n (i := 2) (v := qr 2 l2) (dz dl_Net_passOn_1 5 81 (.aload_n 2) 1 rfl) rfl rfl trivial ?_
    obtain ⟨u1, h⟩ := h
    refine wp_callV l0 5 [qr 6 l1, qr 2 l2] [] (dz dl_Net_passOn_1 6 82 (.invokevirtual 359) 3 rfl) ok_Net_failIfAllNacked lm_Net_359 (by decide) ws_Net_failIfAllNacked wv_Net_failIfAllNacked ⟨Nat.le_of_ble_eq_true rfl, Nat.le_of_ble_eq_true rfl⟩ pn_Net_failIfAllNacked (Nat.le_of_ble_eq_true rfl) (Nat.le_of_ble_eq_true rfl) rfl (Or.inl rfl) u1 (mt_mono h ?_)
    rintro _ g1 ⟨rfl, h⟩ y1
    replace h := h y1.1
    show nnWP _ _ _ _ _ [] _ _
    exact wp_rt none (rt_V rfl (dz dl_Net_passOn_1 7 85 (.return_) 1 rfl)) ⟨rfl, h⟩
  · replace h := h.2 hc
    refine wp_iload (i := 4) (x := l4) (dz dl_Net_passOn_0 37 66 (.iload 4) 2 rfl) rfl ?_
    refine wp_iconst (dz dl_Net_passOn_0 38 68 (.iconst (4)) 1 rfl) (v := (4 : Int32)) (by decide) ?_
    refine wp_icmp_ge (tgt := 79) (dz dl_Net_passOn_0 39 69 (.if_icmp .ge (10)) 3 rfl) (by decide) (fun hc => ?_) (fun hc => ?_)
    · replace h := h.1 hc
      refine wp_aload_n (i := 0) (v := qr 0 (some l0)) (dz dl_Net_passOn_1 3 79 (.aload_n 0) 1 rfl) rfl rfl trivial ?_
      refine wp_aload_n (i := 1) (v := qr 6 l1) (dz dl_Net_passOn_1 4 80 (.aload_n 1) 1 rfl) rfl rfl trivial ?_
      refine wp_aload_n (i := 2) (v := qr 2 l2) (dz dl_Net_passOn_1 5 81 (.aload_n 2) 1 rfl) rfl rfl trivial ?_
      obtain ⟨u2, h⟩ := h
      refine wp_callV l0 5 [qr 6 l1, qr 2 l2] [] (dz dl_Net_passOn_1 6 82 (.invokevirtual 359) 3 rfl) ok_Net_failIfAllNacked lm_Net_359 (by decide) ws_Net_failIfAllNacked wv_Net_failIfAllNacked ⟨Nat.le_of_ble_eq_true rfl, Nat.le_of_ble_eq_true rfl⟩ pn_Net_failIfAllNacked (Nat.le_of_ble_eq_true rfl) (Nat.le_of_ble_eq_true rfl) rfl (Or.inl rfl) u2 (mt_mono h ?_)
      rintro _ g2 ⟨rfl, h⟩ y2
      replace h := h y2.1
      show nnWP _ _ _ _ _ [] _ _
      exact wp_rt none (rt_V rfl (dz dl_Net_passOn_1 7 85 (.return_) 1 rfl)) ⟨rfl, h⟩
    · replace h := h.2 hc
      refine wp_aload_n (i := 2) (v := qr 2 l2) (dz dl_Net_passOn_1 0 72 (.aload_n 2) 1 rfl) rfl rfl trivial ?_
      obtain ⟨a1, e1, h⟩ := h
      refine wp_getI a1 (dz dl_Net_passOn_1 1 73 (.getfield 339) 3 rfl) lk_Net_339 kd_130 rfl e1 ?_
      refine wp_if_gt (tgt := 86) (dz dl_Net_passOn_1 2 76 (.ifCond .gt (10)) 3 rfl) (by decide) (fun hc => ?_) (fun hc => ?_)
      · replace h := h.1 hc
        refine wp_aload_n (i := 2) (v := qr 2 l2) (dz dl_Net_passOn_1 8 86 (.aload_n 2) 1 rfl) rfl rfl trivial ?_
        refine wp_iload (i := 4) (x := l4) (dz dl_Net_passOn_1 9 87 (.iload 4) 2 rfl) rfl ?_
        refine wp_iload_n (i := 3) (x := l3) (dz dl_Net_passOn_1 10 89 (.iload_n 3) 1 rfl) rfl rfl ?_
        refine wp_callV a1 0 [qi l4, qi l3] [] (dz dl_Net_passOn_1 11 90 (.invokevirtual 348) 3 rfl) ok_Entry_putErrand lm_Net_348 (by decide) ws_Entry_putErrand wv_Entry_putErrand ⟨Nat.le_of_ble_eq_true rfl, Nat.le_of_ble_eq_true rfl⟩ pn_Entry_putErrand (Nat.le_of_ble_eq_true rfl) (Nat.le_of_ble_eq_true rfl) e1 (Or.inl rfl) (Nat.zero_le _) (mt_mono h ?_)
        rintro _ g3 ⟨rfl, h⟩ y3
        replace h := h y3.1
        show nnWP _ _ _ _ _ [] _ _
        refine wp_aload_n (i := 1) (v := qr 6 l1) (dz dl_Net_passOn_1 12 93 (.aload_n 1) 1 rfl) rfl rfl trivial ?_
        obtain ⟨a2, e2, h⟩ := h
        obtain ⟨n1, h⟩ := h
        refine wp_getA a2 4 (dz dl_Net_passOn_1 13 94 (.getfield 245) 3 rfl) lk_Net_245 (q := 1) kd_385 rfl e2 n1 ?_
        refine wp_iload (i := 4) (x := l4) (dz dl_Net_passOn_1 14 97 (.iload 4) 2 rfl) rfl ?_
        obtain ⟨i1, h⟩ := h
        refine wp_aald 4 (dz dl_Net_passOn_1 15 99 (.aaload) 1 rfl) kd_385 n1 i1 ?_
        refine wp_aload_n (i := 2) (v := qr 2 l2) (dz dl_Net_passOn_1 16 100 (.aload_n 2) 1 rfl) rfl rfl trivial ?_
        refine wp_getI a1 (dz dl_Net_passOn_1 17 101 (.getfield 363) 3 rfl) lk_Net_363 kd_128 rfl e1 ?_
        refine wp_aload_n (i := 2) (v := qr 2 l2) (dz dl_Net_passOn_1 18 104 (.aload_n 2) 1 rfl) rfl rfl trivial ?_
        refine wp_getI a1 (dz dl_Net_passOn_1 19 105 (.getfield 364) 3 rfl) lk_Net_364 kd_129 rfl e1 ?_
        refine wp_iload_n (i := 3) (x := l3) (dz dl_Net_passOn_1 20 108 (.iload_n 3) 1 rfl) rfl rfl ?_
        refine wp_aload_n (i := 2) (v := qr 2 l2) (dz dl_Net_passOn_1 21 109 (.aload_n 2) 1 rfl) rfl rfl trivial ?_
        refine wp_getI a1 (dz dl_Net_passOn_1 22 110 (.getfield 339) 3 rfl) lk_Net_339 kd_130 rfl e1 ?_
        refine wp_iconst (dz dl_Net_passOn_1 23 113 (.iconst (1)) 1 rfl) (v := (1 : Int32)) (by decide) ?_
        refine wp_isub (dz dl_Net_passOn_1 24 114 (.isub) 1 rfl) ?_
        obtain ⟨u3, h⟩ := h
        refine wp_callS 1 [qi (gI g3 128 a1 0), qi (gI g3 129 a1 0), qi l3, qi ((gI g3 130 a1 0) - (1 : Int32))] [qr 3 (gR g3 385 a2 l4.toNatClampNeg)] (dz dl_Net_passOn_1 25 115 (.invokestatic 283) 3 rfl) ok_Packet_interest lm_Net_283 ws_Packet_interest ⟨Nat.le_of_ble_eq_true rfl, Nat.le_of_ble_eq_true rfl⟩ pn_Packet_interest (Nat.le_of_ble_eq_true rfl) (Nat.le_of_ble_eq_true rfl) (Or.inl rfl) u3 (mt_mono h ?_)
        rintro _ g4 ⟨r1, rfl, h⟩ y4
        replace h := h y4.1
        show nnWP _ _ _ _ _ [qr 7 r1, qr 3 (gR g3 385 a2 l4.toNatClampNeg)] _ _
        obtain ⟨a3, e3, h⟩ := h
        refine wp_callV a3 0 [qr 7 r1] [] (dz dl_Net_passOn_1 26 118 (.invokevirtual 165) 3 rfl) ok_Face_put lm_Net_165 (by decide) ws_Face_put wv_Face_put ⟨Nat.le_of_ble_eq_true rfl, Nat.le_of_ble_eq_true rfl⟩ pn_Face_put (Nat.le_of_ble_eq_true rfl) (Nat.le_of_ble_eq_true rfl) e3 (Or.inl rfl) (Nat.zero_le _) (mt_mono h ?_)
        rintro _ g5 ⟨r2, rfl, h⟩ y5
        replace h := h y5.1
        show nnWP _ _ _ _ _ [qi r2] _ _
        refine wp_pop (dz dl_Net_passOn_1 27 121 (.pop) 1 rfl) ?_
        exact wp_rt none (rt_V rfl (dz dl_Net_passOn_1 28 122 (.return_) 1 rfl)) ⟨rfl, h⟩
      · replace h := h.2 hc
        refine wp_aload_n (i := 0) (v := qr 0 (some l0)) (dz dl_Net_passOn_1 3 79 (.aload_n 0) 1 rfl) rfl rfl trivial ?_
        refine wp_aload_n (i := 1) (v := qr 6 l1) (dz dl_Net_passOn_1 4 80 (.aload_n 1) 1 rfl) rfl rfl trivial ?_
        refine wp_aload_n (i := 2) (v := qr 2 l2) (dz dl_Net_passOn_1 5 81 (.aload_n 2) 1 rfl) rfl rfl trivial ?_
        obtain ⟨u4, h⟩ := h
        refine wp_callV l0 5 [qr 6 l1, qr 2 l2] [] (dz dl_Net_passOn_1 6 82 (.invokevirtual 359) 3 rfl) ok_Net_failIfAllNacked lm_Net_359 (by decide) ws_Net_failIfAllNacked wv_Net_failIfAllNacked ⟨Nat.le_of_ble_eq_true rfl, Nat.le_of_ble_eq_true rfl⟩ pn_Net_failIfAllNacked (Nat.le_of_ble_eq_true rfl) (Nat.le_of_ble_eq_true rfl) rfl (Or.inl rfl) u4 (mt_mono h ?_)
        rintro _ g6 ⟨rfl, h⟩ y6
        replace h := h y6.1
        show nnWP _ _ _ _ _ [] _ _
        exact wp_rt none (rt_V rfl (dz dl_Net_passOn_1 7 85 (.return_) 1 rfl)) ⟨rfl, h⟩

theorem b_Net_failIfAllNacked_0 {X : Nat × (Nat → Int32)} {k : Nat} {g : sg} {l0 : Nat} {l1 : Option Nat} {l2 : Option Nat} {Z : sg → Prop} (h : ∃ a1, l2 = some a1 ∧ nnMT X M_Entry_allNacked 0 [qr 2 (some a1)] g (zI fun r1 g1 => gExt g g1 → (¬ r1 = 0 → nnWP X M_Net_failIfAllNacked k 10 [qr 0 (some l0), qr 6 l1, qr 2 l2, qi (0 : Int32)] [] g1 (zV Z)) ∧ (r1 = 0 → Z g1))) : nnWP X M_Net_failIfAllNacked k 0 [qr 0 (some l0), qr 6 l1, qr 2 l2, none] [] g (zV Z) := by
  refine wp_aload_n (i := 2) (v := qr 2 l2) (dz dl_Net_failIfAllNacked_0 0 0 (.aload_n 2) 1 rfl) rfl rfl trivial ?_
  obtain ⟨a1, e1, h⟩ := h
  refine wp_callV a1 0 [] [] (dz dl_Net_failIfAllNacked_0 1 1 (.invokevirtual 365) 3 rfl) ok_Entry_allNacked lm_Net_365 (by decide) ws_Entry_allNacked wv_Entry_allNacked ⟨Nat.le_of_ble_eq_true rfl, Nat.le_of_ble_eq_true rfl⟩ pn_Entry_allNacked (Nat.le_of_ble_eq_true rfl) (Nat.le_of_ble_eq_true rfl) e1 (Or.inl rfl) (Nat.zero_le _) (mt_mono h ?_)
  rintro _ g1 ⟨r1, rfl, h⟩ y1
  replace h := h y1.1
  show nnWP _ _ _ _ _ [qi r1] _ _
  refine wp_if_ne (tgt := 8) (dz dl_Net_failIfAllNacked_0 2 4 (.ifCond .ne (4)) 3 rfl) (by decide) (fun hc => ?_) (fun hc => ?_)
  · replace h := h.1 hc
    refine wp_iconst (dz dl_Net_failIfAllNacked_0 4 8 (.iconst (0)) 1 rfl) (v := (0 : Int32)) (by decide) ?_
    refine wp_istore_n (i := 3) (dz dl_Net_failIfAllNacked_0 5 9 (.istore_n 3) 1 rfl) rfl [qr 0 (some l0), qr 6 l1, qr 2 l2, qi (0 : Int32)] (by decide) rfl ?_
    exact wp_cut h ⟨Or.inr rfl, Or.inr rfl, Or.inr rfl, Or.inr rfl, trivial⟩
  · replace h := h.2 hc
    exact wp_rt none (rt_V rfl (dz dl_Net_failIfAllNacked_0 3 7 (.return_) 1 rfl)) ⟨rfl, h⟩
theorem t_Net_failIfAllNacked {X : Nat × (Nat → Int32)} {k : Nat} {g : sg} {l0 : Nat} {l1 : Option Nat} {l2 : Option Nat} {Z : sg → Prop} (h : ∃ a1, l2 = some a1 ∧ nnMT X M_Entry_allNacked 0 [qr 2 (some a1)] g (zI fun r1 g1 => gExt g g1 → (¬ r1 = 0 → nnWP X M_Net_failIfAllNacked k 10 [qr 0 (some l0), qr 6 l1, qr 2 l2, qi (0 : Int32)] [] g1 (zV Z)) ∧ (r1 = 0 → Z g1))) : nnMT X M_Net_failIfAllNacked k [qr 0 (some l0), qr 6 l1, qr 2 l2] g (zV Z) := b_Net_failIfAllNacked_0 h

theorem b_Net_failIfAllNacked_10 {X : Nat × (Nat → Int32)} {k : Nat} {g : sg} {l0 : Nat} {l1 : Option Nat} {l2 : Option Nat} {l3 : Int32} {Z : sg → Prop} (h : ((5 : Int32) ≤ l3 → ∃ a1, l1 = some a1 ∧ ∃ a2, gR g 388 a1 0 = some a2 ∧ nnMT X M_Pending_takeOut 0 [qr 8 (some a2), qr 2 l2] g (zV fun g1 => gExt g g1 → Z g1)) ∧ (¬ (5 : Int32) ≤ l3 → ∃ a3, l2 = some a3 ∧ nnMT X M_Entry_hasAsk 0 [qr 2 (some a3), qi l3] g (zI fun r1 g2 => gExt g g2 → (r1 = 0 → nnWP X M_Net_failIfAllNacked k 10 [qr 0 (some l0), qr 6 l1, qr 2 l2, qi (l3 + 1)] [] g2 (zV Z)) ∧ (¬ r1 = 0 → gA g2 131 a3 = some 5 ∧ vp_in l3 5 ∧ 1 ≤ k ∧ nnMT X M_Packet_nack 1 [qi (gI g2 128 a3 0), qi (gI g2 129 a3 0), qi (gI g2 131 a3 l3.toNatClampNeg)] g2 (zR 7 fun r2 g3 => gExt g2 g3 → nnMT X M_Net_sendNack 0 [qr 0 (some l0), qr 6 l1, qi l3, qr 7 r2] g3 (zV fun g4 => gExt g3 g4 → nnWP X M_Net_failIfAllNacked (k - 1) 10 [qr 0 (some l0), qr 6 l1, qr 2 l2, qi (l3 + 1)] [] g4 (zV Z))))))) : nnWP X M_Net_failIfAllNacked k 10 [qr 0 (some l0), qr 6 l1, qr 2 l2, qi l3] [] g (zV Z) := by
  refine wp_iload_n (i := 3) (x := l3) (dz dl_Net_failIfAllNacked_0 6 10 (.iload_n 3) 1 rfl) rfl rfl ?_
  refine wp_iconst (dz dl_Net_failIfAllNacked_0 7 11 (.iconst (5)) 1 rfl) (v := (5 : Int32)) (by decide) ?_
  refine wp_icmp_ge (tgt := 52) (dz dl_Net_failIfAllNacked_0 8 12 (.if_icmp .ge (40)) 3 rfl) (by decide) (fun hc => ?_) (fun hc => ?_)
  · replace h := h.1 hc
    refine wp_aload_n (i := 1) (v := qr 6 l1) (dz dl_Net_failIfAllNacked_0 28 52 (.aload_n 1) 1 rfl) rfl rfl trivial ?_
    obtain ⟨a1, e1, h⟩ := h
    refine wp_getR a1 (dz dl_Net_failIfAllNacked_0 29 53 (.getfield 172) 3 rfl) lk_Net_172 kd_388 rfl e1 ?_
    refine wp_aload_n (i := 2) (v := qr 2 l2) (dz dl_Net_failIfAllNacked_0 30 56 (.aload_n 2) 1 rfl) rfl rfl trivial ?_
    obtain ⟨a2, e2, h⟩ := h
    refine wp_callV a2 0 [qr 2 l2] [] (dz dl_Net_failIfAllNacked_0 31 57 (.invokevirtual 371) 3 rfl) ok_Pending_takeOut lm_Net_371 (by decide) ws_Pending_takeOut wv_Pending_takeOut ⟨Nat.le_of_ble_eq_true rfl, Nat.le_of_ble_eq_true rfl⟩ pn_Pending_takeOut (Nat.le_of_ble_eq_true rfl) (Nat.le_of_ble_eq_true rfl) e2 (Or.inl rfl) (Nat.zero_le _) (mt_mono h ?_)
    rintro _ g1 ⟨rfl, h⟩ y1
    replace h := h y1.1
    show nnWP _ _ _ _ _ [] _ _
    exact wp_rt none (rt_V rfl (dz dl_Net_failIfAllNacked_0 32 60 (.return_) 1 rfl)) ⟨rfl, h⟩
  · replace h := h.2 hc
    refine wp_aload_n (i := 2) (v := qr 2 l2) (dz dl_Net_failIfAllNacked_0 9 15 (.aload_n 2) 1 rfl) rfl rfl trivial ?_
    refine wp_iload_n (i := 3) (x := l3) (dz dl_Net_failIfAllNacked_0 10 16 (.iload_n 3) 1 rfl) rfl rfl ?_
    obtain ⟨a3, e3, h⟩ := h
    refine wp_callV a3 0 [qi l3] [] (dz dl_Net_failIfAllNacked_0 11 17 (.invokevirtual 330) 3 rfl) ok_Entry_hasAsk lm_Net_330 (by decide) ws_Entry_hasAsk wv_Entry_hasAsk ⟨Nat.le_of_ble_eq_true rfl, Nat.le_of_ble_eq_true rfl⟩ pn_Entry_hasAsk (Nat.le_of_ble_eq_true rfl) (Nat.le_of_ble_eq_true rfl) e3 (Or.inl rfl) (Nat.zero_le _) (mt_mono h ?_)
    rintro _ g2 ⟨r1, rfl, h⟩ y2
    replace h := h y2.1
    show nnWP _ _ _ _ _ [qi r1] _ _
    refine wp_if_eq (tgt := 46) (dz dl_Net_failIfAllNacked_0 12 20 (.ifCond .eq (26)) 3 rfl) (by decide) (fun hc => ?_) (fun hc => ?_)
    · replace h := h.1 hc
      refine wp_iinc (i := 3) (v := l3 + 1) (dz dl_Net_failIfAllNacked_0 26 46 (.iinc 3 (1)) 3 rfl) rfl (congrArg (fun z => l3 + z) (by decide)) [qr 0 (some l0), qr 6 l1, qr 2 l2, qi (l3 + 1)] (by decide) rfl ?_
      refine wp_goto (tgt := 10) (dz dl_Net_failIfAllNacked_0 27 49 (.goto (-39)) 3 rfl) (by decide) ?_
      exact wp_cut h ⟨Or.inr rfl, Or.inr rfl, Or.inr rfl, Or.inr rfl, trivial⟩
    · replace h := h.2 hc
      refine wp_aload_n (i := 0) (v := qr 0 (some l0)) (dz dl_Net_failIfAllNacked_0 13 23 (.aload_n 0) 1 rfl) rfl rfl trivial ?_
      refine wp_aload_n (i := 1) (v := qr 6 l1) (dz dl_Net_failIfAllNacked_0 14 24 (.aload_n 1) 1 rfl) rfl rfl trivial ?_
      refine wp_iload_n (i := 3) (x := l3) (dz dl_Net_failIfAllNacked_0 15 25 (.iload_n 3) 1 rfl) rfl rfl ?_
      refine wp_aload_n (i := 2) (v := qr 2 l2) (dz dl_Net_failIfAllNacked_0 16 26 (.aload_n 2) 1 rfl) rfl rfl trivial ?_
      refine wp_getI a3 (dz dl_Net_failIfAllNacked_0 17 27 (.getfield 363) 3 rfl) lk_Net_363 kd_128 rfl e3 ?_
      refine wp_aload_n (i := 2) (v := qr 2 l2) (dz dl_Net_failIfAllNacked_0 18 30 (.aload_n 2) 1 rfl) rfl rfl trivial ?_
      refine wp_getI a3 (dz dl_Net_failIfAllNacked_0 19 31 (.getfield 364) 3 rfl) lk_Net_364 kd_129 rfl e3 ?_
      refine wp_aload_n (i := 2) (v := qr 2 l2) (dz dl_Net_failIfAllNacked_0 20 34 (.aload_n 2) 1 rfl) rfl rfl trivial ?_
      obtain ⟨n1, h⟩ := h
      refine wp_getA a3 5 (dz dl_Net_failIfAllNacked_0 21 35 (.getfield 368) 3 rfl) lk_Net_368 (q := 0) kd_131 rfl e3 n1 ?_
      refine wp_iload_n (i := 3) (x := l3) (dz dl_Net_failIfAllNacked_0 22 38 (.iload_n 3) 1 rfl) rfl rfl ?_
      obtain ⟨i1, h⟩ := h
      refine wp_iald 5 (dz dl_Net_failIfAllNacked_0 23 39 (.iaload) 1 rfl) kd_131 n1 i1 ?_
      obtain ⟨u1, h⟩ := h
      refine wp_callS 1 [qi (gI g2 128 a3 0), qi (gI g2 129 a3 0), qi (gI g2 131 a3 l3.toNatClampNeg)] [qi l3, qr 6 l1, qr 0 (some l0)] (dz dl_Net_failIfAllNacked_0 24 40 (.invokestatic 314) 3 rfl) ok_Packet_nack lm_Net_314 ws_Packet_nack ⟨Nat.le_of_ble_eq_true rfl, Nat.le_of_ble_eq_true rfl⟩ pn_Packet_nack (Nat.le_of_ble_eq_true rfl) (Nat.le_of_ble_eq_true rfl) (Or.inl rfl) u1 (mt_mono h ?_)
      rintro _ g3 ⟨r2, rfl, h⟩ y3
      replace h := h y3.1
      show nnWP _ _ _ _ _ [qr 7 r2, qi l3, qr 6 l1, qr 0 (some l0)] _ _
      refine wp_callV l0 0 [qr 6 l1, qi l3, qr 7 r2] [] (dz dl_Net_failIfAllNacked_0 25 43 (.invokevirtual 317) 3 rfl) ok_Net_sendNack lm_Net_317 (by decide) ws_Net_sendNack wv_Net_sendNack ⟨Nat.le_of_ble_eq_true rfl, Nat.le_of_ble_eq_true rfl⟩ pn_Net_sendNack (Nat.le_of_ble_eq_true rfl) (Nat.le_of_ble_eq_true rfl) rfl (Or.inl rfl) (Nat.zero_le _) (mt_mono h ?_)
      rintro _ g4 ⟨rfl, h⟩ y4
      replace h := h y4.1
      show nnWP _ _ _ _ _ [] _ _
      refine wp_iinc (i := 3) (v := l3 + 1) (dz dl_Net_failIfAllNacked_0 26 46 (.iinc 3 (1)) 3 rfl) rfl (congrArg (fun z => l3 + z) (by decide)) [qr 0 (some l0), qr 6 l1, qr 2 l2, qi (l3 + 1)] (by decide) rfl ?_
      refine wp_goto (tgt := 10) (dz dl_Net_failIfAllNacked_0 27 49 (.goto (-39)) 3 rfl) (by decide) ?_
      exact wp_cut h ⟨Or.inr rfl, Or.inr rfl, Or.inr rfl, Or.inr rfl, trivial⟩

theorem b_Net_producedFor_0 {X : Nat × (Nat → Int32)} {k : Nat} {g : sg} {l0 : Nat} {l1 : Option Nat} {l2 : Option Nat} {Z : Option Nat → sg → Prop} (h : nnWP X M_Net_producedFor k 2 [qr 0 (some l0), qr 6 l1, qr 2 l2, qi (0 : Int32)] [] g (zR 7 Z)) : nnWP X M_Net_producedFor k 0 [qr 0 (some l0), qr 6 l1, qr 2 l2, none] [] g (zR 7 Z) := by
  refine wp_iconst (dz dl_Net_producedFor_0 0 0 (.iconst (0)) 1 rfl) (v := (0 : Int32)) (by decide) ?_
  refine wp_istore_n (i := 3) (dz dl_Net_producedFor_0 1 1 (.istore_n 3) 1 rfl) rfl [qr 0 (some l0), qr 6 l1, qr 2 l2, qi (0 : Int32)] (by decide) rfl ?_
  exact wp_cut h ⟨Or.inr rfl, Or.inr rfl, Or.inr rfl, Or.inr rfl, trivial⟩
theorem t_Net_producedFor {X : Nat × (Nat → Int32)} {k : Nat} {g : sg} {l0 : Nat} {l1 : Option Nat} {l2 : Option Nat} {Z : Option Nat → sg → Prop} (h : nnWP X M_Net_producedFor k 2 [qr 0 (some l0), qr 6 l1, qr 2 l2, qi (0 : Int32)] [] g (zR 7 Z)) : nnMT X M_Net_producedFor k [qr 0 (some l0), qr 6 l1, qr 2 l2] g (zR 7 Z) := b_Net_producedFor_0 h

theorem b_Net_producedFor_2 {X : Nat × (Nat → Int32)} {k : Nat} {g : sg} {l0 : Nat} {l1 : Option Nat} {l2 : Option Nat} {l3 : Int32} {Z : Option Nat → sg → Prop} (h : ((48 : Int32) ≤ l3 → Z none g) ∧ (¬ (48 : Int32) ≤ l3 → gA g 7 l0 = some 48 ∧ vp_in l3 48 ∧ (gR g 7 l0 l3.toNatClampNeg = none → nnWP X M_Net_producedFor k 2 [qr 0 (some l0), qr 6 l1, qr 2 l2, qi (l3 + 1)] [] g (zR 7 Z)) ∧ (∀ a1, gR g 7 l0 l3.toNatClampNeg = some a1 → gA g 8 l0 = some 48 ∧ ∃ a2, l1 = some a2 ∧ (¬ (gI g 8 l0 l3.toNatClampNeg) = (gI g 384 a2 0) → nnWP X M_Net_producedFor k 2 [qr 0 (some l0), qr 6 l1, qr 2 l2, qi (l3 + 1)] [] g (zR 7 Z)) ∧ ((gI g 8 l0 l3.toNatClampNeg) = (gI g 384 a2 0) → ∃ a3, l2 = some a3 ∧ ∃ a4, gR g 5 l0 0 = some a4 ∧ nnMT X M_Names_answers 0 [qr 5 (some a4), qi l3, qi (gI g 128 a3 0), qi (gI g 129 a3 0)] g (zI fun r1 g1 => gExt g g1 → (r1 = 0 → nnWP X M_Net_producedFor k 2 [qr 0 (some l0), qr 6 l1, qr 2 l2, qi (l3 + 1)] [] g1 (zR 7 Z)) ∧ (¬ r1 = 0 → Z (gR g1 7 l0 l3.toNatClampNeg) g1)))))) : nnWP X M_Net_producedFor k 2 [qr 0 (some l0), qr 6 l1, qr 2 l2, qi l3] [] g (zR 7 Z) := by
  refine wp_iload_n (i := 3) (x := l3) (dz dl_Net_producedFor_0 2 2 (.iload_n 3) 1 rfl) rfl rfl ?_
  refine wp_bipush (dz dl_Net_producedFor_0 3 3 (.bipush (48)) 2 rfl) (v := (48 : Int32)) (by decide) ?_
  refine wp_icmp_ge (tgt := 62) (dz dl_Net_producedFor_0 4 5 (.if_icmp .ge (57)) 3 rfl) (by decide) (fun hc => ?_) (fun hc => ?_)
  · replace h := h.1 hc
    refine wp_null 7 (dz dl_Net_producedFor_0 33 62 (.aconst_null) 1 rfl) ?_
    exact wp_rt (qr 7 _) (rt_R rfl (dz dl_Net_producedFor_0 34 63 (.areturn) 1 rfl)) ⟨_, rfl, h⟩
  · replace h := h.2 hc
    refine wp_aload_n (i := 0) (v := qr 0 (some l0)) (dz dl_Net_producedFor_0 5 8 (.aload_n 0) 1 rfl) rfl rfl trivial ?_
    obtain ⟨n1, h⟩ := h
    refine wp_getA l0 48 (dz dl_Net_producedFor_0 6 9 (.getfield 32) 3 rfl) lk_Net_32 (q := 1) kd_7 rfl rfl n1 ?_
    refine wp_iload_n (i := 3) (x := l3) (dz dl_Net_producedFor_0 7 12 (.iload_n 3) 1 rfl) rfl rfl ?_
    obtain ⟨i1, h⟩ := h
    refine wp_aald 48 (dz dl_Net_producedFor_0 8 13 (.aaload) 1 rfl) kd_7 n1 i1 ?_
    refine wp_ifnull (tgt := 56) (dz dl_Net_producedFor_0 9 14 (.ifnull (42)) 3 rfl) (by decide) (fun hc => ?_) (fun a1 e1 => ?_)
    · replace h := h.1 hc
      refine wp_iinc (i := 3) (v := l3 + 1) (dz dl_Net_producedFor_0 31 56 (.iinc 3 (1)) 3 rfl) rfl (congrArg (fun z => l3 + z) (by decide)) [qr 0 (some l0), qr 6 l1, qr 2 l2, qi (l3 + 1)] (by decide) rfl ?_
      refine wp_goto (tgt := 2) (dz dl_Net_producedFor_0 32 59 (.goto (-57)) 3 rfl) (by decide) ?_
      exact wp_cut h ⟨Or.inr rfl, Or.inr rfl, Or.inr rfl, Or.inr rfl, trivial⟩
    · replace h := h.2 a1 e1
      refine wp_aload_n (i := 0) (v := qr 0 (some l0)) (dz dl_Net_producedFor_0 10 17 (.aload_n 0) 1 rfl) rfl rfl trivial ?_
      obtain ⟨n2, h⟩ := h
      refine wp_getA l0 48 (dz dl_Net_producedFor_0 11 18 (.getfield 36) 3 rfl) lk_Net_36 (q := 0) kd_8 rfl rfl n2 ?_
      refine wp_iload_n (i := 3) (x := l3) (dz dl_Net_producedFor_0 12 21 (.iload_n 3) 1 rfl) rfl rfl ?_
      refine wp_iald 48 (dz dl_Net_producedFor_0 13 22 (.iaload) 1 rfl) kd_8 n2 i1 ?_
      refine wp_aload_n (i := 1) (v := qr 6 l1) (dz dl_Net_producedFor_0 14 23 (.aload_n 1) 1 rfl) rfl rfl trivial ?_
      obtain ⟨a2, e2, h⟩ := h
      refine wp_getI a2 (dz dl_Net_producedFor_0 15 24 (.getfield 277) 3 rfl) lk_Net_277 kd_384 rfl e2 ?_
      refine wp_icmp_ne (tgt := 56) (dz dl_Net_producedFor_0 16 27 (.if_icmp .ne (29)) 3 rfl) (by decide) (fun hc => ?_) (fun hc => ?_)
      · replace h := h.1 hc
        refine wp_iinc (i := 3) (v := l3 + 1) (dz dl_Net_producedFor_0 31 56 (.iinc 3 (1)) 3 rfl) rfl (congrArg (fun z => l3 + z) (by decide)) [qr 0 (some l0), qr 6 l1, qr 2 l2, qi (l3 + 1)] (by decide) rfl ?_
        refine wp_goto (tgt := 2) (dz dl_Net_producedFor_0 32 59 (.goto (-57)) 3 rfl) (by decide) ?_
        exact wp_cut h ⟨Or.inr rfl, Or.inr rfl, Or.inr rfl, Or.inr rfl, trivial⟩
      · replace h := h.2 hc
        refine wp_aload_n (i := 0) (v := qr 0 (some l0)) (dz dl_Net_producedFor_0 17 30 (.aload_n 0) 1 rfl) rfl rfl trivial ?_
        refine wp_getR l0 (dz dl_Net_producedFor_0 18 31 (.getfield 20) 3 rfl) lk_Net_20 kd_5 rfl rfl ?_
        refine wp_iload_n (i := 3) (x := l3) (dz dl_Net_producedFor_0 19 34 (.iload_n 3) 1 rfl) rfl rfl ?_
        refine wp_aload_n (i := 2) (v := qr 2 l2) (dz dl_Net_producedFor_0 20 35 (.aload_n 2) 1 rfl) rfl rfl trivial ?_
        obtain ⟨a3, e3, h⟩ := h
        refine wp_getI a3 (dz dl_Net_producedFor_0 21 36 (.getfield 363) 3 rfl) lk_Net_363 kd_128 rfl e3 ?_
        refine wp_aload_n (i := 2) (v := qr 2 l2) (dz dl_Net_producedFor_0 22 39 (.aload_n 2) 1 rfl) rfl rfl trivial ?_
        refine wp_getI a3 (dz dl_Net_producedFor_0 23 40 (.getfield 364) 3 rfl) lk_Net_364 kd_129 rfl e3 ?_
        obtain ⟨a4, e4, h⟩ := h
        refine wp_callV a4 0 [qi l3, qi (gI g 128 a3 0), qi (gI g 129 a3 0)] [] (dz dl_Net_producedFor_0 24 43 (.invokevirtual 375) 3 rfl) ok_Names_answers lm_Net_375 (by decide) ws_Names_answers wv_Names_answers ⟨Nat.le_of_ble_eq_true rfl, Nat.le_of_ble_eq_true rfl⟩ pn_Names_answers (Nat.le_of_ble_eq_true rfl) (Nat.le_of_ble_eq_true rfl) e4 (Or.inl rfl) (Nat.zero_le _) (mt_mono h ?_)
        rintro _ g1 ⟨r1, rfl, h⟩ y1
        replace h := h y1.1
        show nnWP _ _ _ _ _ [qi r1] _ _
        refine wp_if_eq (tgt := 56) (dz dl_Net_producedFor_0 25 46 (.ifCond .eq (10)) 3 rfl) (by decide) (fun hc => ?_) (fun hc => ?_)
        · replace h := h.1 hc
          refine wp_iinc (i := 3) (v := l3 + 1) (dz dl_Net_producedFor_0 31 56 (.iinc 3 (1)) 3 rfl) rfl (congrArg (fun z => l3 + z) (by decide)) [qr 0 (some l0), qr 6 l1, qr 2 l2, qi (l3 + 1)] (by decide) rfl ?_
          refine wp_goto (tgt := 2) (dz dl_Net_producedFor_0 32 59 (.goto (-57)) 3 rfl) (by decide) ?_
          exact wp_cut h ⟨Or.inr rfl, Or.inr rfl, Or.inr rfl, Or.inr rfl, trivial⟩
        · replace h := h.2 hc
          refine wp_aload_n (i := 0) (v := qr 0 (some l0)) (dz dl_Net_producedFor_0 26 49 (.aload_n 0) 1 rfl) rfl rfl trivial ?_
          refine wp_getA l0 48 (dz dl_Net_producedFor_0 27 50 (.getfield 32) 3 rfl) lk_Net_32 (q := 1) kd_7 rfl rfl (y1.1.2 _ _ _ n1) ?_
          refine wp_iload_n (i := 3) (x := l3) (dz dl_Net_producedFor_0 28 53 (.iload_n 3) 1 rfl) rfl rfl ?_
          refine wp_aald 48 (dz dl_Net_producedFor_0 29 54 (.aaload) 1 rfl) kd_7 (y1.1.2 _ _ _ n1) i1 ?_
          exact wp_rt (qr 7 _) (rt_R rfl (dz dl_Net_producedFor_0 30 55 (.areturn) 1 rfl)) ⟨_, rfl, h⟩

theorem b_Net_dataComes_0 {X : Nat × (Nat → Int32)} {k : Nat} {g : sg} {l0 : Nat} {l1 : Option Nat} {l2 : Int32} {l3 : Option Nat} {Z : sg → Prop} (h : ∃ a1, l1 = some a1 ∧ ∃ a2, gR g 388 a1 0 = some a2 ∧ nnWP X M_Net_dataComes k 18 [qr 0 (some l0), qr 6 l1, qi l2, qr 7 l3, qi (0 : Int32), qi (0 : Int32), qi (gI g 513 a2 0), qi (0 : Int32), none, none] [] g (zV Z)) : nnWP X M_Net_dataComes k 0 [qr 0 (some l0), qr 6 l1, qi l2, qr 7 l3, none, none, none, none, none, none] [] g (zV Z) := by
  refine wp_iconst (dz dl_Net_dataComes_0 0 0 (.iconst (0)) 1 rfl) (v := (0 : Int32)) (by decide) ?_
  refine wp_istore (i := 4) (dz dl_Net_dataComes_0 1 1 (.istore 4) 2 rfl) [qr 0 (some l0), qr 6 l1, qi l2, qr 7 l3, qi (0 : Int32), none, none, none, none, none] (by decide) rfl ?_
  refine wp_iconst (dz dl_Net_dataComes_0 2 3 (.iconst (0)) 1 rfl) (v := (0 : Int32)) (by decide) ?_
  refine wp_istore (i := 5) (dz dl_Net_dataComes_0 3 4 (.istore 5) 2 rfl) [qr 0 (some l0), qr 6 l1, qi l2, qr 7 l3, qi (0 : Int32), qi (0 : Int32), none, none, none, none] (by decide) rfl ?_
  refine wp_aload_n (i := 1) (v := qr 6 l1) (dz dl_Net_dataComes_0 4 6 (.aload_n 1) 1 rfl) rfl rfl trivial ?_
  obtain ⟨a1, e1, h⟩ := h
  refine wp_getR a1 (dz dl_Net_dataComes_0 5 7 (.getfield 172) 3 rfl) lk_Net_172 kd_388 rfl e1 ?_
  obtain ⟨a2, e2, h⟩ := h
  refine wp_getI a2 (dz dl_Net_dataComes_0 6 10 (.getfield 237) 3 rfl) lk_Net_237 kd_513 rfl e2 ?_
  refine wp_istore (i := 6) (dz dl_Net_dataComes_0 7 13 (.istore 6) 2 rfl) [qr 0 (some l0), qr 6 l1, qi l2, qr 7 l3, qi (0 : Int32), qi (0 : Int32), qi (gI g 513 a2 0), none, none, none] (by decide) rfl ?_
  refine wp_iconst (dz dl_Net_dataComes_0 8 15 (.iconst (0)) 1 rfl) (v := (0 : Int32)) (by decide) ?_
  refine wp_istore (i := 7) (dz dl_Net_dataComes_0 9 16 (.istore 7) 2 rfl) [qr 0 (some l0), qr 6 l1, qi l2, qr 7 l3, qi (0 : Int32), qi (0 : Int32), qi (gI g 513 a2 0), qi (0 : Int32), none, none] (by decide) rfl ?_
  exact wp_cut h ⟨Or.inr rfl, Or.inr rfl, Or.inr rfl, Or.inr rfl, Or.inr rfl, Or.inr rfl, Or.inr rfl, Or.inr rfl, Or.inl rfl, Or.inl rfl, trivial⟩
theorem t_Net_dataComes {X : Nat × (Nat → Int32)} {k : Nat} {g : sg} {l0 : Nat} {l1 : Option Nat} {l2 : Int32} {l3 : Option Nat} {Z : sg → Prop} (h : ∃ a1, l1 = some a1 ∧ ∃ a2, gR g 388 a1 0 = some a2 ∧ nnWP X M_Net_dataComes k 18 [qr 0 (some l0), qr 6 l1, qi l2, qr 7 l3, qi (0 : Int32), qi (0 : Int32), qi (gI g 513 a2 0), qi (0 : Int32), none, none] [] g (zV Z)) : nnMT X M_Net_dataComes k [qr 0 (some l0), qr 6 l1, qi l2, qr 7 l3] g (zV Z) := b_Net_dataComes_0 h

theorem b_Net_dataComes_18 {X : Nat × (Nat → Int32)} {k : Nat} {g : sg} {l0 : Nat} {l1 : Option Nat} {l2 : Int32} {l3 : Option Nat} {l4 : Int32} {l5 : Int32} {l6 : Int32} {l7 : Int32} {Z : sg → Prop} (h : (l6 ≤ l7 → Z g) ∧ (¬ l6 ≤ l7 → ∃ a1, l1 = some a1 ∧ ∃ a2, gR g 388 a1 0 = some a2 ∧ nnMT X M_Pending_at 0 [qr 8 (some a2), qi l5] g (zR 2 fun r1 g1 => gExt g g1 → (r1 = none → nnWP X M_Net_dataComes k 18 [qr 0 (some l0), qr 6 l1, qi l2, qr 7 l3, qi l4, qi (l5 + 1), qi l6, qi (l7 + 1), none, none] [] g1 (zV Z)) ∧ (∀ a3, r1 = some a3 → nnMT X M_Entry_hasErrand 0 [qr 2 (some a3), qi l2] g1 (zI fun r2 g2 => gExt g1 g2 → (r2 = 0 → nnWP X M_Net_dataComes k 18 [qr 0 (some l0), qr 6 l1, qi l2, qr 7 l3, qi l4, qi (l5 + 1), qi l6, qi (l7 + 1), none, none] [] g2 (zV Z)) ∧ (¬ r2 = 0 → ∃ a4, l3 = some a4 ∧ ∃ a5, gR g2 5 l0 0 = some a5 ∧ nnMT X M_Names_answers 0 [qr 5 (some a5), qi (gI g2 449 a4 0), qi (gI g2 128 a3 0), qi (gI g2 129 a3 0)] g2 (zI fun r3 g3 => gExt g2 g3 → (¬ r3 = 0 → (¬ l4 = 0 → nnWP X M_Net_dataComes k 108 [qr 0 (some l0), qr 6 l1, qi l2, qr 7 l3, qi l4, qi l5, qi l6, qi l7, qr 2 r1, qi (0 : Int32)] [] g3 (zV Z)) ∧ (l4 = 0 → ∃ a6, gR g3 387 a1 0 = some a6 ∧ nnMT X M_Store_keep 0 [qr 12 (some a6), qr 7 l3, qi ((gI g3 1 l0 0) + (gI g3 454 a4 0))] g3 (zV fun g4 => gExt g3 g4 → nnWP X M_Net_dataComes k 108 [qr 0 (some l0), qr 6 l1, qi l2, qr 7 l3, qi (1 : Int32), qi l5, qi l6, qi l7, qr 2 r1, qi (0 : Int32)] [] g4 (zV Z)))) ∧ (r3 = 0 → nnWP X M_Net_dataComes k 18 [qr 0 (some l0), qr 6 l1, qi l2, qr 7 l3, qi l4, qi (l5 + 1), qi l6, qi (l7 + 1), none, none] [] g3 (zV Z))))))))) : nnWP X M_Net_dataComes k 18 [qr 0 (some l0), qr 6 l1, qi l2, qr 7 l3, qi l4, qi l5, qi l6, qi l7, none, none] [] g (zV Z) := by
  refine wp_iload (i := 7) (x := l7) (dz dl_Net_dataComes_0 10 18 (.iload 7) 2 rfl) rfl ?_
  refine wp_iload (i := 6) (x := l6) (dz dl_Net_dataComes_0 11 20 (.iload 6) 2 rfl) rfl ?_
  refine wp_icmp_ge (tgt := 163) (dz dl_Net_dataComes_0 12 22 (.if_icmp .ge (141)) 3 rfl) (by decide) (fun hc => ?_) (fun hc => ?_)
  · replace h := h.1 hc
    exact wp_rt none (rt_V rfl (dz dl_Net_dataComes_1 35 163 (.return_) 1 rfl)) ⟨rfl, h⟩
  · replace h := h.2 hc
    refine wp_aload_n (i := 1) (v := qr 6 l1) (dz dl_Net_dataComes_0 13 25 (.aload_n 1) 1 rfl) rfl rfl trivial ?_
    obtain ⟨a1, e1, h⟩ := h
    refine wp_getR a1 (dz dl_Net_dataComes_0 14 26 (.getfield 172) 3 rfl) lk_Net_172 kd_388 rfl e1 ?_
    refine wp_iload (i := 5) (x := l5) (dz dl_Net_dataComes_0 15 29 (.iload 5) 2 rfl) rfl ?_
    obtain ⟨a2, e2, h⟩ := h
    refine wp_callV a2 0 [qi l5] [] (dz dl_Net_dataComes_0 16 31 (.invokevirtual 379) 3 rfl) ok_Pending_at lm_Net_379 (by decide) ws_Pending_at wv_Pending_at ⟨Nat.le_of_ble_eq_true rfl, Nat.le_of_ble_eq_true rfl⟩ pn_Pending_at (Nat.le_of_ble_eq_true rfl) (Nat.le_of_ble_eq_true rfl) e2 (Or.inl rfl) (Nat.zero_le _) (mt_mono h ?_)
    rintro _ g1 ⟨r1, rfl, h⟩ y1
    replace h := h y1.1
    show nnWP _ _ _ _ _ [qr 2 r1] _ _
    refine wp_astore (i := 8) (dz dl_Net_dataComes_0 17 34 (.astore 8) 2 rfl) [qr 0 (some l0), qr 6 l1, qi l2, qr 7 l3, qi l4, qi l5, qi l6, qi l7, qr 2 r1, none] (by decide) trivial rfl ?_
    refine wp_aload (i := 8) (v := qr 2 r1) (dz dl_Net_dataComes_0 18 36 (.aload 8) 2 rfl) rfl trivial ?_
    refine wp_ifnull (tgt := 74) (dz dl_Net_dataComes_0 19 38 (.ifnull (36)) 3 rfl) (by decide) (fun hc => ?_) (fun a3 e3 => ?_)
    · replace h := h.1 hc
      refine wp_iinc (i := 5) (v := l5 + 1) (dz dl_Net_dataComes_0 34 74 (.iinc 5 (1)) 3 rfl) rfl (congrArg (fun z => l5 + z) (by decide)) [qr 0 (some l0), qr 6 l1, qi l2, qr 7 l3, qi l4, qi (l5 + 1), qi l6, qi l7, qr 2 r1, none] (by decide) rfl ?_
      refine wp_goto (tgt := 157) (dz dl_Net_dataComes_0 35 77 (.goto (80)) 3 rfl) (by decide) ?_
      refine wp_iinc (i := 7) (v := l7 + 1) (dz dl_Net_dataComes_1 33 157 (.iinc 7 (1)) 3 rfl) rfl (congrArg (fun z => l7 + z) (by decide)) [qr 0 (some l0), qr 6 l1, qi l2, qr 7 l3, qi l4, qi (l5 + 1), qi l6, qi (l7 + 1), qr 2 r1, none] (by decide) rfl ?_
      refine wp_goto (tgt := 18) (dz dl_Net_dataComes_1 34 160 (.goto (-142)) 3 rfl) (by decide) ?_
      exact wp_cut h ⟨Or.inr rfl, Or.inr rfl, Or.inr rfl, Or.inr rfl, Or.inr rfl, Or.inr rfl, Or.inr rfl, Or.inr rfl, Or.inl rfl, Or.inl rfl, trivial⟩
    · replace h := h.2 a3 e3
      refine wp_aload (i := 8) (v := qr 2 r1) (dz dl_Net_dataComes_0 20 41 (.aload 8) 2 rfl) rfl trivial ?_
      refine wp_iload_n (i := 2) (x := l2) (dz dl_Net_dataComes_0 21 43 (.iload_n 2) 1 rfl) rfl rfl ?_
      refine wp_callV a3 0 [qi l2] [] (dz dl_Net_dataComes_0 22 44 (.invokevirtual 383) 3 rfl) ok_Entry_hasErrand lm_Net_383 (by decide) ws_Entry_hasErrand wv_Entry_hasErrand ⟨Nat.le_of_ble_eq_true rfl, Nat.le_of_ble_eq_true rfl⟩ pn_Entry_hasErrand (Nat.le_of_ble_eq_true rfl) (Nat.le_of_ble_eq_true rfl) e3 (Or.inl rfl) (Nat.zero_le _) (mt_mono h ?_)
      rintro _ g2 ⟨r2, rfl, h⟩ y2
      replace h := h y2.1
      show nnWP _ _ _ _ _ [qi r2] _ _
      refine wp_if_eq (tgt := 74) (dz dl_Net_dataComes_0 23 47 (.ifCond .eq (27)) 3 rfl) (by decide) (fun hc => ?_) (fun hc => ?_)
      · replace h := h.1 hc
        refine wp_iinc (i := 5) (v := l5 + 1) (dz dl_Net_dataComes_0 34 74 (.iinc 5 (1)) 3 rfl) rfl (congrArg (fun z => l5 + z) (by decide)) [qr 0 (some l0), qr 6 l1, qi l2, qr 7 l3, qi l4, qi (l5 + 1), qi l6, qi l7, qr 2 r1, none] (by decide) rfl ?_
        refine wp_goto (tgt := 157) (dz dl_Net_dataComes_0 35 77 (.goto (80)) 3 rfl) (by decide) ?_
        refine wp_iinc (i := 7) (v := l7 + 1) (dz dl_Net_dataComes_1 33 157 (.iinc 7 (1)) 3 rfl) rfl (congrArg (fun z => l7 + z) (by decide)) [qr 0 (some l0), qr 6 l1, qi l2, qr 7 l3, qi l4, qi (l5 + 1), qi l6, qi (l7 + 1), qr 2 r1, none] (by decide) rfl ?_
        refine wp_goto (tgt := 18) (dz dl_Net_dataComes_1 34 160 (.goto (-142)) 3 rfl) (by decide) ?_
        exact wp_cut h ⟨Or.inr rfl, Or.inr rfl, Or.inr rfl, Or.inr rfl, Or.inr rfl, Or.inr rfl, Or.inr rfl, Or.inr rfl, Or.inl rfl, Or.inl rfl, trivial⟩
      · replace h := h.2 hc
        refine wp_aload_n (i := 0) (v := qr 0 (some l0)) (dz dl_Net_dataComes_0 24 50 (.aload_n 0) 1 rfl) rfl rfl trivial ?_
        refine wp_getR l0 (dz dl_Net_dataComes_0 25 51 (.getfield 20) 3 rfl) lk_Net_20 kd_5 rfl rfl ?_
        refine wp_aload_n (i := 3) (v := qr 7 l3) (dz dl_Net_dataComes_0 26 54 (.aload_n 3) 1 rfl) rfl rfl trivial ?_
        obtain ⟨a4, e4, h⟩ := h
        refine wp_getI a4 (dz dl_Net_dataComes_0 27 55 (.getfield 259) 3 rfl) lk_Net_259 kd_449 rfl e4 ?_
        refine wp_aload (i := 8) (v := qr 2 r1) (dz dl_Net_dataComes_0 28 58 (.aload 8) 2 rfl) rfl trivial ?_
        refine wp_getI a3 (dz dl_Net_dataComes_0 29 60 (.getfield 363) 3 rfl) lk_Net_363 kd_128 rfl e3 ?_
        refine wp_aload (i := 8) (v := qr 2 r1) (dz dl_Net_dataComes_0 30 63 (.aload 8) 2 rfl) rfl trivial ?_
        refine wp_getI a3 (dz dl_Net_dataComes_0 31 65 (.getfield 364) 3 rfl) lk_Net_364 kd_129 rfl e3 ?_
        obtain ⟨a5, e5, h⟩ := h
        refine wp_callV a5 0 [qi (gI g2 449 a4 0), qi (gI g2 128 a3 0), qi (gI g2 129 a3 0)] [] (dz dl_Net_dataComes_0 32 68 (.invokevirtual 375) 3 rfl) ok_Names_answers lm_Net_375 (by decide) ws_Names_answers wv_Names_answers ⟨Nat.le_of_ble_eq_true rfl, Nat.le_of_ble_eq_true rfl⟩ pn_Names_answers (Nat.le_of_ble_eq_true rfl) (Nat.le_of_ble_eq_true rfl) e5 (Or.inl rfl) (Nat.zero_le _) (mt_mono h ?_)
        rintro _ g3 ⟨r3, rfl, h⟩ y3
        replace h := h y3.1
        show nnWP _ _ _ _ _ [qi r3] _ _
        refine wp_if_ne (tgt := 80) (dz dl_Net_dataComes_0 33 71 (.ifCond .ne (9)) 3 rfl) (by decide) (fun hc => ?_) (fun hc => ?_)
        · replace h := h.1 hc
          refine wp_iload (i := 4) (x := l4) (dz dl_Net_dataComes_0 36 80 (.iload 4) 2 rfl) rfl ?_
          refine wp_if_ne (tgt := 105) (dz dl_Net_dataComes_0 37 82 (.ifCond .ne (23)) 3 rfl) (by decide) (fun hc => ?_) (fun hc => ?_)
          · replace h := h.1 hc
            refine wp_iconst (dz dl_Net_dataComes_1 9 105 (.iconst (0)) 1 rfl) (v := (0 : Int32)) (by decide) ?_
            refine wp_istore (i := 9) (dz dl_Net_dataComes_1 10 106 (.istore 9) 2 rfl) [qr 0 (some l0), qr 6 l1, qi l2, qr 7 l3, qi l4, qi l5, qi l6, qi l7, qr 2 r1, qi (0 : Int32)] (by decide) rfl ?_
            exact wp_cut h ⟨Or.inr rfl, Or.inr rfl, Or.inr rfl, Or.inr rfl, Or.inr rfl, Or.inr rfl, Or.inr rfl, Or.inr rfl, Or.inr rfl, Or.inr rfl, trivial⟩
          · replace h := h.2 hc
            refine wp_aload_n (i := 1) (v := qr 6 l1) (dz dl_Net_dataComes_0 38 85 (.aload_n 1) 1 rfl) rfl rfl trivial ?_
            refine wp_getR a1 (dz dl_Net_dataComes_0 39 86 (.getfield 238) 3 rfl) lk_Net_238 kd_387 rfl e1 ?_
            refine wp_aload_n (i := 3) (v := qr 7 l3) (dz dl_Net_dataComes_1 0 89 (.aload_n 3) 1 rfl) rfl rfl trivial ?_
            refine wp_aload_n (i := 0) (v := qr 0 (some l0)) (dz dl_Net_dataComes_1 1 90 (.aload_n 0) 1 rfl) rfl rfl trivial ?_
            refine wp_getI l0 (dz dl_Net_dataComes_1 2 91 (.getfield 169) 3 rfl) lk_Net_169 kd_1 rfl rfl ?_
            refine wp_aload_n (i := 3) (v := qr 7 l3) (dz dl_Net_dataComes_1 3 94 (.aload_n 3) 1 rfl) rfl rfl trivial ?_
            refine wp_getI a4 (dz dl_Net_dataComes_1 4 95 (.getfield 386) 3 rfl) lk_Net_386 kd_454 rfl e4 ?_
            refine wp_iadd (dz dl_Net_dataComes_1 5 98 (.iadd) 1 rfl) ?_
            obtain ⟨a6, e6, h⟩ := h
            refine wp_callV a6 0 [qr 7 l3, qi ((gI g3 1 l0 0) + (gI g3 454 a4 0))] [] (dz dl_Net_dataComes_1 6 99 (.invokevirtual 389) 3 rfl) ok_Store_keep lm_Net_389 (by decide) ws_Store_keep wv_Store_keep ⟨Nat.le_of_ble_eq_true rfl, Nat.le_of_ble_eq_true rfl⟩ pn_Store_keep (Nat.le_of_ble_eq_true rfl) (Nat.le_of_ble_eq_true rfl) e6 (Or.inl rfl) (Nat.zero_le _) (mt_mono h ?_)
            rintro _ g4 ⟨rfl, h⟩ y4
            replace h := h y4.1
            show nnWP _ _ _ _ _ [] _ _
            refine wp_iconst (dz dl_Net_dataComes_1 7 102 (.iconst (1)) 1 rfl) (v := (1 : Int32)) (by decide) ?_
            refine wp_istore (i := 4) (dz dl_Net_dataComes_1 8 103 (.istore 4) 2 rfl) [qr 0 (some l0), qr 6 l1, qi l2, qr 7 l3, qi (1 : Int32), qi l5, qi l6, qi l7, qr 2 r1, none] (by decide) rfl ?_
            refine wp_iconst (dz dl_Net_dataComes_1 9 105 (.iconst (0)) 1 rfl) (v := (0 : Int32)) (by decide) ?_
            refine wp_istore (i := 9) (dz dl_Net_dataComes_1 10 106 (.istore 9) 2 rfl) [qr 0 (some l0), qr 6 l1, qi l2, qr 7 l3, qi (1 : Int32), qi l5, qi l6, qi l7, qr 2 r1, qi (0 : Int32)] (by decide) rfl ?_
            exact wp_cut h ⟨Or.inr rfl, Or.inr rfl, Or.inr rfl, Or.inr rfl, Or.inr rfl, Or.inr rfl, Or.inr rfl, Or.inr rfl, Or.inr rfl, Or.inr rfl, trivial⟩
        · replace h := h.2 hc
          refine wp_iinc (i := 5) (v := l5 + 1) (dz dl_Net_dataComes_0 34 74 (.iinc 5 (1)) 3 rfl) rfl (congrArg (fun z => l5 + z) (by decide)) [qr 0 (some l0), qr 6 l1, qi l2, qr 7 l3, qi l4, qi (l5 + 1), qi l6, qi l7, qr 2 r1, none] (by decide) rfl ?_
          refine wp_goto (tgt := 157) (dz dl_Net_dataComes_0 35 77 (.goto (80)) 3 rfl) (by decide) ?_
          refine wp_iinc (i := 7) (v := l7 + 1) (dz dl_Net_dataComes_1 33 157 (.iinc 7 (1)) 3 rfl) rfl (congrArg (fun z => l7 + z) (by decide)) [qr 0 (some l0), qr 6 l1, qi l2, qr 7 l3, qi l4, qi (l5 + 1), qi l6, qi (l7 + 1), qr 2 r1, none] (by decide) rfl ?_
          refine wp_goto (tgt := 18) (dz dl_Net_dataComes_1 34 160 (.goto (-142)) 3 rfl) (by decide) ?_
          exact wp_cut h ⟨Or.inr rfl, Or.inr rfl, Or.inr rfl, Or.inr rfl, Or.inr rfl, Or.inr rfl, Or.inr rfl, Or.inr rfl, Or.inl rfl, Or.inl rfl, trivial⟩

theorem b_Net_dataComes_108 {X : Nat × (Nat → Int32)} {k : Nat} {g : sg} {l0 : Nat} {l1 : Option Nat} {l2 : Int32} {l3 : Option Nat} {l4 : Int32} {l5 : Int32} {l6 : Int32} {l7 : Int32} {l8 : Option Nat} {l9 : Int32} {Z : sg → Prop} (h : ((5 : Int32) ≤ l9 → ∃ a1, l1 = some a1 ∧ ∃ a2, gR g 388 a1 0 = some a2 ∧ nnMT X M_Pending_takeOut 0 [qr 8 (some a2), qr 2 l8] g (zV fun g1 => gExt g g1 → nnWP X M_Net_dataComes k 18 [qr 0 (some l0), qr 6 l1, qi l2, qr 7 l3, qi l4, qi l5, qi l6, qi (l7 + 1), none, none] [] g1 (zV Z))) ∧ (¬ (5 : Int32) ≤ l9 → ∃ a3, l8 = some a3 ∧ nnMT X M_Entry_hasAsk 0 [qr 2 (some a3), qi l9] g (zI fun r1 g2 => gExt g g2 → (r1 = 0 → nnWP X M_Net_dataComes k 108 [qr 0 (some l0), qr 6 l1, qi l2, qr 7 l3, qi l4, qi l5, qi l6, qi l7, qr 2 l8, qi (l9 + 1)] [] g2 (zV Z)) ∧ (¬ r1 = 0 → nnMT X M_Net_sendData 0 [qr 0 (some l0), qr 6 l1, qi l9, qr 7 l3, qi (gI g2 128 a3 0), qi (gI g2 129 a3 0)] g2 (zV fun g3 => gExt g2 g3 → nnWP X M_Net_dataComes k 108 [qr 0 (some l0), qr 6 l1, qi l2, qr 7 l3, qi l4, qi l5, qi l6, qi l7, qr 2 l8, qi (l9 + 1)] [] g3 (zV Z)))))) : nnWP X M_Net_dataComes k 108 [qr 0 (some l0), qr 6 l1, qi l2, qr 7 l3, qi l4, qi l5, qi l6, qi l7, qr 2 l8, qi l9] [] g (zV Z) := by
  refine wp_iload (i := 9) (x := l9) (dz dl_Net_dataComes_1 11 108 (.iload 9) 2 rfl) rfl ?_
  refine wp_iconst (dz dl_Net_dataComes_1 12 110 (.iconst (5)) 1 rfl) (v := (5 : Int32)) (by decide) ?_
  refine wp_icmp_ge (tgt := 148) (dz dl_Net_dataComes_1 13 111 (.if_icmp .ge (37)) 3 rfl) (by decide) (fun hc => ?_) (fun hc => ?_)
  · replace h := h.1 hc
    refine wp_aload_n (i := 1) (v := qr 6 l1) (dz dl_Net_dataComes_1 29 148 (.aload_n 1) 1 rfl) rfl rfl trivial ?_
    obtain ⟨a1, e1, h⟩ := h
    refine wp_getR a1 (dz dl_Net_dataComes_1 30 149 (.getfield 172) 3 rfl) lk_Net_172 kd_388 rfl e1 ?_
    refine wp_aload (i := 8) (v := qr 2 l8) (dz dl_Net_dataComes_1 31 152 (.aload 8) 2 rfl) rfl trivial ?_
    obtain ⟨a2, e2, h⟩ := h
    refine wp_callV a2 0 [qr 2 l8] [] (dz dl_Net_dataComes_1 32 154 (.invokevirtual 371) 3 rfl) ok_Pending_takeOut lm_Net_371 (by decide) ws_Pending_takeOut wv_Pending_takeOut ⟨Nat.le_of_ble_eq_true rfl, Nat.le_of_ble_eq_true rfl⟩ pn_Pending_takeOut (Nat.le_of_ble_eq_true rfl) (Nat.le_of_ble_eq_true rfl) e2 (Or.inl rfl) (Nat.zero_le _) (mt_mono h ?_)
    rintro _ g1 ⟨rfl, h⟩ y1
    replace h := h y1.1
    show nnWP _ _ _ _ _ [] _ _
    refine wp_iinc (i := 7) (v := l7 + 1) (dz dl_Net_dataComes_1 33 157 (.iinc 7 (1)) 3 rfl) rfl (congrArg (fun z => l7 + z) (by decide)) [qr 0 (some l0), qr 6 l1, qi l2, qr 7 l3, qi l4, qi l5, qi l6, qi (l7 + 1), qr 2 l8, qi l9] (by decide) rfl ?_
    refine wp_goto (tgt := 18) (dz dl_Net_dataComes_1 34 160 (.goto (-142)) 3 rfl) (by decide) ?_
    exact wp_cut h ⟨Or.inr rfl, Or.inr rfl, Or.inr rfl, Or.inr rfl, Or.inr rfl, Or.inr rfl, Or.inr rfl, Or.inr rfl, Or.inl rfl, Or.inl rfl, trivial⟩
  · replace h := h.2 hc
    refine wp_aload (i := 8) (v := qr 2 l8) (dz dl_Net_dataComes_1 14 114 (.aload 8) 2 rfl) rfl trivial ?_
    refine wp_iload (i := 9) (x := l9) (dz dl_Net_dataComes_1 15 116 (.iload 9) 2 rfl) rfl ?_
    obtain ⟨a3, e3, h⟩ := h
    refine wp_callV a3 0 [qi l9] [] (dz dl_Net_dataComes_1 16 118 (.invokevirtual 330) 3 rfl) ok_Entry_hasAsk lm_Net_330 (by decide) ws_Entry_hasAsk wv_Entry_hasAsk ⟨Nat.le_of_ble_eq_true rfl, Nat.le_of_ble_eq_true rfl⟩ pn_Entry_hasAsk (Nat.le_of_ble_eq_true rfl) (Nat.le_of_ble_eq_true rfl) e3 (Or.inl rfl) (Nat.zero_le _) (mt_mono h ?_)
    rintro _ g2 ⟨r1, rfl, h⟩ y2
    replace h := h y2.1
    show nnWP _ _ _ _ _ [qi r1] _ _
    refine wp_if_eq (tgt := 142) (dz dl_Net_dataComes_1 17 121 (.ifCond .eq (21)) 3 rfl) (by decide) (fun hc => ?_) (fun hc => ?_)
    · replace h := h.1 hc
      refine wp_iinc (i := 9) (v := l9 + 1) (dz dl_Net_dataComes_1 27 142 (.iinc 9 (1)) 3 rfl) rfl (congrArg (fun z => l9 + z) (by decide)) [qr 0 (some l0), qr 6 l1, qi l2, qr 7 l3, qi l4, qi l5, qi l6, qi l7, qr 2 l8, qi (l9 + 1)] (by decide) rfl ?_
      refine wp_goto (tgt := 108) (dz dl_Net_dataComes_1 28 145 (.goto (-37)) 3 rfl) (by decide) ?_
      exact wp_cut h ⟨Or.inr rfl, Or.inr rfl, Or.inr rfl, Or.inr rfl, Or.inr rfl, Or.inr rfl, Or.inr rfl, Or.inr rfl, Or.inr rfl, Or.inr rfl, trivial⟩
    · replace h := h.2 hc
      refine wp_aload_n (i := 0) (v := qr 0 (some l0)) (dz dl_Net_dataComes_1 18 124 (.aload_n 0) 1 rfl) rfl rfl trivial ?_
      refine wp_aload_n (i := 1) (v := qr 6 l1) (dz dl_Net_dataComes_1 19 125 (.aload_n 1) 1 rfl) rfl rfl trivial ?_
      refine wp_iload (i := 9) (x := l9) (dz dl_Net_dataComes_1 20 126 (.iload 9) 2 rfl) rfl ?_
      refine wp_aload_n (i := 3) (v := qr 7 l3) (dz dl_Net_dataComes_1 21 128 (.aload_n 3) 1 rfl) rfl rfl trivial ?_
      refine wp_aload (i := 8) (v := qr 2 l8) (dz dl_Net_dataComes_1 22 129 (.aload 8) 2 rfl) rfl trivial ?_
      refine wp_getI a3 (dz dl_Net_dataComes_1 23 131 (.getfield 363) 3 rfl) lk_Net_363 kd_128 rfl e3 ?_
      refine wp_aload (i := 8) (v := qr 2 l8) (dz dl_Net_dataComes_1 24 134 (.aload 8) 2 rfl) rfl trivial ?_
      refine wp_getI a3 (dz dl_Net_dataComes_1 25 136 (.getfield 364) 3 rfl) lk_Net_364 kd_129 rfl e3 ?_
      refine wp_callV l0 0 [qr 6 l1, qi l9, qr 7 l3, qi (gI g2 128 a3 0), qi (gI g2 129 a3 0)] [] (dz dl_Net_dataComes_1 26 139 (.invokevirtual 324) 3 rfl) ok_Net_sendData lm_Net_324 (by decide) ws_Net_sendData wv_Net_sendData ⟨Nat.le_of_ble_eq_true rfl, Nat.le_of_ble_eq_true rfl⟩ pn_Net_sendData (Nat.le_of_ble_eq_true rfl) (Nat.le_of_ble_eq_true rfl) rfl (Or.inl rfl) (Nat.zero_le _) (mt_mono h ?_)
      rintro _ g3 ⟨rfl, h⟩ y3
      replace h := h y3.1
      show nnWP _ _ _ _ _ [] _ _
      refine wp_iinc (i := 9) (v := l9 + 1) (dz dl_Net_dataComes_1 27 142 (.iinc 9 (1)) 3 rfl) rfl (congrArg (fun z => l9 + z) (by decide)) [qr 0 (some l0), qr 6 l1, qi l2, qr 7 l3, qi l4, qi l5, qi l6, qi l7, qr 2 l8, qi (l9 + 1)] (by decide) rfl ?_
      refine wp_goto (tgt := 108) (dz dl_Net_dataComes_1 28 145 (.goto (-37)) 3 rfl) (by decide) ?_
      exact wp_cut h ⟨Or.inr rfl, Or.inr rfl, Or.inr rfl, Or.inr rfl, Or.inr rfl, Or.inr rfl, Or.inr rfl, Or.inr rfl, Or.inr rfl, Or.inr rfl, trivial⟩

theorem b_Net_nackComes_0 {X : Nat × (Nat → Int32)} {k : Nat} {g : sg} {l0 : Nat} {l1 : Option Nat} {l2 : Int32} {l3 : Option Nat} {Z : sg → Prop} (h : ∃ a1, l1 = some a1 ∧ ∃ a2, l3 = some a2 ∧ ∃ a3, gR g 388 a1 0 = some a3 ∧ nnMT X M_Pending_find 0 [qr 8 (some a3), qi (gI g 449 a2 0), qi (gI g 450 a2 0)] g (zR 2 fun r1 g1 => gExt g g1 → (r1 = none → Z g1) ∧ (∀ a4, r1 = some a4 → nnMT X M_Entry_awaits 0 [qr 2 (some a4), qi (gI g1 451 a2 0), qi l2] g1 (zI fun r2 g2 => gExt g1 g2 → (r2 = 0 → Z g2) ∧ (¬ r2 = 0 → nnMT X M_Entry_nackErrand 0 [qr 2 (some a4), qi l2] g2 (zV fun g3 => gExt g2 g3 → 5 ≤ k ∧ nnMT X M_Net_passOn 5 [qr 0 (some l0), qr 6 l1, qr 2 r1, qi (gI g3 451 a2 0)] g3 (zV fun g4 => gExt g3 g4 → Z g4))))))) : nnWP X M_Net_nackComes k 0 [qr 0 (some l0), qr 6 l1, qi l2, qr 7 l3, none] [] g (zV Z) := by
  refine wp_aload_n (i := 1) (v := qr 6 l1) (dz dl_Net_nackComes_0 0 0 (.aload_n 1) 1 rfl) rfl rfl trivial ?_
  obtain ⟨a1, e1, h⟩ := h
  refine wp_getR a1 (dz dl_Net_nackComes_0 1 1 (.getfield 172) 3 rfl) lk_Net_172 kd_388 rfl e1 ?_
  refine wp_aload_n (i := 3) (v := qr 7 l3) (dz dl_Net_nackComes_0 2 4 (.aload_n 3) 1 rfl) rfl rfl trivial ?_
  obtain ⟨a2, e2, h⟩ := h
  refine wp_getI a2 (dz dl_Net_nackComes_0 3 5 (.getfield 259) 3 rfl) lk_Net_259 kd_449 rfl e2 ?_
  refine wp_aload_n (i := 3) (v := qr 7 l3) (dz dl_Net_nackComes_0 4 8 (.aload_n 3) 1 rfl) rfl rfl trivial ?_
  refine wp_getI a2 (dz dl_Net_nackComes_0 5 9 (.getfield 299) 3 rfl) lk_Net_299 kd_450 rfl e2 ?_
  obtain ⟨a3, e3, h⟩ := h
  refine wp_callV a3 0 [qi (gI g 449 a2 0), qi (gI g 450 a2 0)] [] (dz dl_Net_nackComes_0 6 12 (.invokevirtual 302) 3 rfl) ok_Pending_find lm_Net_302 (by decide) ws_Pending_find wv_Pending_find ⟨Nat.le_of_ble_eq_true rfl, Nat.le_of_ble_eq_true rfl⟩ pn_Pending_find (Nat.le_of_ble_eq_true rfl) (Nat.le_of_ble_eq_true rfl) e3 (Or.inl rfl) (Nat.zero_le _) (mt_mono h ?_)
  rintro _ g1 ⟨r1, rfl, h⟩ y1
  replace h := h y1.1
  show nnWP _ _ _ _ _ [qr 2 r1] _ _
  refine wp_astore (i := 4) (dz dl_Net_nackComes_0 7 15 (.astore 4) 2 rfl) [qr 0 (some l0), qr 6 l1, qi l2, qr 7 l3, qr 2 r1] (by decide) trivial rfl ?_
  refine wp_aload (i := 4) (v := qr 2 r1) (dz dl_Net_nackComes_0 8 17 (.aload 4) 2 rfl) rfl trivial ?_
  refine wp_ifnull (tgt := 52) (dz dl_Net_nackComes_0 9 19 (.ifnull (33)) 3 rfl) (by decide) (fun hc => ?_) (fun a4 e4 => ?_)
  · replace h := h.1 hc
    exact wp_rt none (rt_V rfl (dz dl_Net_nackComes_0 25 52 (.return_) 1 rfl)) ⟨rfl, h⟩
  · replace h := h.2 a4 e4
    refine wp_aload (i := 4) (v := qr 2 r1) (dz dl_Net_nackComes_0 10 22 (.aload 4) 2 rfl) rfl trivial ?_
    refine wp_aload_n (i := 3) (v := qr 7 l3) (dz dl_Net_nackComes_0 11 24 (.aload_n 3) 1 rfl) rfl rfl trivial ?_
    refine wp_getI a2 (dz dl_Net_nackComes_0 12 25 (.getfield 305) 3 rfl) lk_Net_305 kd_451 rfl e2 ?_
    refine wp_iload_n (i := 2) (x := l2) (dz dl_Net_nackComes_0 13 28 (.iload_n 2) 1 rfl) rfl rfl ?_
    refine wp_callV a4 0 [qi (gI g1 451 a2 0), qi l2] [] (dz dl_Net_nackComes_0 14 29 (.invokevirtual 392) 3 rfl) ok_Entry_awaits lm_Net_392 (by decide) ws_Entry_awaits wv_Entry_awaits ⟨Nat.le_of_ble_eq_true rfl, Nat.le_of_ble_eq_true rfl⟩ pn_Entry_awaits (Nat.le_of_ble_eq_true rfl) (Nat.le_of_ble_eq_true rfl) e4 (Or.inl rfl) (Nat.zero_le _) (mt_mono h ?_)
    rintro _ g2 ⟨r2, rfl, h⟩ y2
    replace h := h y2.1
    show nnWP _ _ _ _ _ [qi r2] _ _
    refine wp_if_eq (tgt := 52) (dz dl_Net_nackComes_0 15 32 (.ifCond .eq (20)) 3 rfl) (by decide) (fun hc => ?_) (fun hc => ?_)
    · replace h := h.1 hc
      exact wp_rt none (rt_V rfl (dz dl_Net_nackComes_0 25 52 (.return_) 1 rfl)) ⟨rfl, h⟩
    · replace h := h.2 hc
      refine wp_aload (i := 4) (v := qr 2 r1) (dz dl_Net_nackComes_0 16 35 (.aload 4) 2 rfl) rfl trivial ?_
      refine wp_iload_n (i := 2) (x := l2) (dz dl_Net_nackComes_0 17 37 (.iload_n 2) 1 rfl) rfl rfl ?_
      refine wp_callV a4 0 [qi l2] [] (dz dl_Net_nackComes_0 18 38 (.invokevirtual 355) 3 rfl) ok_Entry_nackErrand lm_Net_355 (by decide) ws_Entry_nackErrand wv_Entry_nackErrand ⟨Nat.le_of_ble_eq_true rfl, Nat.le_of_ble_eq_true rfl⟩ pn_Entry_nackErrand (Nat.le_of_ble_eq_true rfl) (Nat.le_of_ble_eq_true rfl) e4 (Or.inl rfl) (Nat.zero_le _) (mt_mono h ?_)
      rintro _ g3 ⟨rfl, h⟩ y3
      replace h := h y3.1
      show nnWP _ _ _ _ _ [] _ _
      refine wp_aload_n (i := 0) (v := qr 0 (some l0)) (dz dl_Net_nackComes_0 19 41 (.aload_n 0) 1 rfl) rfl rfl trivial ?_
      refine wp_aload_n (i := 1) (v := qr 6 l1) (dz dl_Net_nackComes_0 20 42 (.aload_n 1) 1 rfl) rfl rfl trivial ?_
      refine wp_aload (i := 4) (v := qr 2 r1) (dz dl_Net_nackComes_0 21 43 (.aload 4) 2 rfl) rfl trivial ?_
      refine wp_aload_n (i := 3) (v := qr 7 l3) (dz dl_Net_nackComes_0 22 45 (.aload_n 3) 1 rfl) rfl rfl trivial ?_
      refine wp_getI a2 (dz dl_Net_nackComes_0 23 46 (.getfield 305) 3 rfl) lk_Net_305 kd_451 rfl e2 ?_
      obtain ⟨u1, h⟩ := h
      refine wp_callV l0 5 [qr 6 l1, qr 2 r1, qi (gI g3 451 a2 0)] [] (dz dl_Net_nackComes_0 24 49 (.invokevirtual 340) 3 rfl) ok_Net_passOn lm_Net_340 (by decide) ws_Net_passOn wv_Net_passOn ⟨Nat.le_of_ble_eq_true rfl, Nat.le_of_ble_eq_true rfl⟩ pn_Net_passOn (Nat.le_of_ble_eq_true rfl) (Nat.le_of_ble_eq_true rfl) rfl (Or.inl rfl) u1 (mt_mono h ?_)
      rintro _ g4 ⟨rfl, h⟩ y4
      replace h := h y4.1
      show nnWP _ _ _ _ _ [] _ _
      exact wp_rt none (rt_V rfl (dz dl_Net_nackComes_0 25 52 (.return_) 1 rfl)) ⟨rfl, h⟩
theorem t_Net_nackComes {X : Nat × (Nat → Int32)} {k : Nat} {g : sg} {l0 : Nat} {l1 : Option Nat} {l2 : Int32} {l3 : Option Nat} {Z : sg → Prop} (h : ∃ a1, l1 = some a1 ∧ ∃ a2, l3 = some a2 ∧ ∃ a3, gR g 388 a1 0 = some a3 ∧ nnMT X M_Pending_find 0 [qr 8 (some a3), qi (gI g 449 a2 0), qi (gI g 450 a2 0)] g (zR 2 fun r1 g1 => gExt g g1 → (r1 = none → Z g1) ∧ (∀ a4, r1 = some a4 → nnMT X M_Entry_awaits 0 [qr 2 (some a4), qi (gI g1 451 a2 0), qi l2] g1 (zI fun r2 g2 => gExt g1 g2 → (r2 = 0 → Z g2) ∧ (¬ r2 = 0 → nnMT X M_Entry_nackErrand 0 [qr 2 (some a4), qi l2] g2 (zV fun g3 => gExt g2 g3 → 5 ≤ k ∧ nnMT X M_Net_passOn 5 [qr 0 (some l0), qr 6 l1, qr 2 r1, qi (gI g3 451 a2 0)] g3 (zV fun g4 => gExt g3 g4 → Z g4))))))) : nnMT X M_Net_nackComes k [qr 0 (some l0), qr 6 l1, qi l2, qr 7 l3] g (zV Z) := b_Net_nackComes_0 h

theorem b_Net_sendData_0 {X : Nat × (Nat → Int32)} {k : Nat} {g : sg} {l0 : Nat} {l1 : Option Nat} {l2 : Int32} {l3 : Option Nat} {l4 : Int32} {l5 : Int32} {Z : sg → Prop} (h : ((4 : Int32) ≤ l2 → ∃ a1, l1 = some a1 ∧ nnMT X M_Net_endRequests 0 [qr 0 (some l0), qi (gI g 384 a1 0), qi l4, qi l5, qr 7 l3] g (zV fun g1 => gExt g g1 → Z g1)) ∧ (¬ (4 : Int32) ≤ l2 → ∃ a2, l1 = some a2 ∧ gA g 385 a2 = some 4 ∧ vp_in l2 4 ∧ ∃ a3, gR g 385 a2 l2.toNatClampNeg = some a3 ∧ nnMT X M_Face_put 0 [qr 3 (some a3), qr 7 l3] g (zI fun r1 g2 => gExt g g2 → Z g2))) : nnWP X M_Net_sendData k 0 [qr 0 (some l0), qr 6 l1, qi l2, qr 7 l3, qi l4, qi l5] [] g (zV Z) := by
  refine wp_iload_n (i := 2) (x := l2) (dz dl_Net_sendData_0 0 0 (.iload_n 2) 1 rfl) rfl rfl ?_
  refine wp_iconst (dz dl_Net_sendData_0 1 1 (.iconst (4)) 1 rfl) (v := (4 : Int32)) (by decide) ?_
  refine wp_icmp_ge (tgt := 19) (dz dl_Net_sendData_0 2 2 (.if_icmp .ge (17)) 3 rfl) (by decide) (fun hc => ?_) (fun hc => ?_)
  · replace h := h.1 hc
    refine wp_aload_n (i := 0) (v := qr 0 (some l0)) (dz dl_Net_sendData_0 11 19 (.aload_n 0) 1 rfl) rfl rfl trivial ?_
    refine wp_aload_n (i := 1) (v := qr 6 l1) (dz dl_Net_sendData_0 12 20 (.aload_n 1) 1 rfl) rfl rfl trivial ?_
    obtain ⟨a1, e1, h⟩ := h
    refine wp_getI a1 (dz dl_Net_sendData_0 13 21 (.getfield 277) 3 rfl) lk_Net_277 kd_384 rfl e1 ?_
    refine wp_iload (i := 4) (x := l4) (dz dl_Net_sendData_0 14 24 (.iload 4) 2 rfl) rfl ?_
    refine wp_iload (i := 5) (x := l5) (dz dl_Net_sendData_0 15 26 (.iload 5) 2 rfl) rfl ?_
    refine wp_aload_n (i := 3) (v := qr 7 l3) (dz dl_Net_sendData_0 16 28 (.aload_n 3) 1 rfl) rfl rfl trivial ?_
    refine wp_callV l0 0 [qi (gI g 384 a1 0), qi l4, qi l5, qr 7 l3] [] (dz dl_Net_sendData_0 17 29 (.invokevirtual 395) 3 rfl) ok_Net_endRequests lm_Net_395 (by decide) ws_Net_endRequests wv_Net_endRequests ⟨Nat.le_of_ble_eq_true rfl, Nat.le_of_ble_eq_true rfl⟩ pn_Net_endRequests (Nat.le_of_ble_eq_true rfl) (Nat.le_of_ble_eq_true rfl) rfl (Or.inl rfl) (Nat.zero_le _) (mt_mono h ?_)
    rintro _ g1 ⟨rfl, h⟩ y1
    replace h := h y1.1
    show nnWP _ _ _ _ _ [] _ _
    exact wp_rt none (rt_V rfl (dz dl_Net_sendData_0 18 32 (.return_) 1 rfl)) ⟨rfl, h⟩
  · replace h := h.2 hc
    refine wp_aload_n (i := 1) (v := qr 6 l1) (dz dl_Net_sendData_0 3 5 (.aload_n 1) 1 rfl) rfl rfl trivial ?_
    obtain ⟨a2, e2, h⟩ := h
    obtain ⟨n1, h⟩ := h
    refine wp_getA a2 4 (dz dl_Net_sendData_0 4 6 (.getfield 245) 3 rfl) lk_Net_245 (q := 1) kd_385 rfl e2 n1 ?_
    refine wp_iload_n (i := 2) (x := l2) (dz dl_Net_sendData_0 5 9 (.iload_n 2) 1 rfl) rfl rfl ?_
    obtain ⟨i1, h⟩ := h
    refine wp_aald 4 (dz dl_Net_sendData_0 6 10 (.aaload) 1 rfl) kd_385 n1 i1 ?_
    refine wp_aload_n (i := 3) (v := qr 7 l3) (dz dl_Net_sendData_0 7 11 (.aload_n 3) 1 rfl) rfl rfl trivial ?_
    obtain ⟨a3, e3, h⟩ := h
    refine wp_callV a3 0 [qr 7 l3] [] (dz dl_Net_sendData_0 8 12 (.invokevirtual 165) 3 rfl) ok_Face_put lm_Net_165 (by decide) ws_Face_put wv_Face_put ⟨Nat.le_of_ble_eq_true rfl, Nat.le_of_ble_eq_true rfl⟩ pn_Face_put (Nat.le_of_ble_eq_true rfl) (Nat.le_of_ble_eq_true rfl) e3 (Or.inl rfl) (Nat.zero_le _) (mt_mono h ?_)
    rintro _ g2 ⟨r1, rfl, h⟩ y2
    replace h := h y2.1
    show nnWP _ _ _ _ _ [qi r1] _ _
    refine wp_pop (dz dl_Net_sendData_0 9 15 (.pop) 1 rfl) ?_
    refine wp_goto (tgt := 32) (dz dl_Net_sendData_0 10 16 (.goto (16)) 3 rfl) (by decide) ?_
    exact wp_rt none (rt_V rfl (dz dl_Net_sendData_0 18 32 (.return_) 1 rfl)) ⟨rfl, h⟩
theorem t_Net_sendData {X : Nat × (Nat → Int32)} {k : Nat} {g : sg} {l0 : Nat} {l1 : Option Nat} {l2 : Int32} {l3 : Option Nat} {l4 : Int32} {l5 : Int32} {Z : sg → Prop} (h : ((4 : Int32) ≤ l2 → ∃ a1, l1 = some a1 ∧ nnMT X M_Net_endRequests 0 [qr 0 (some l0), qi (gI g 384 a1 0), qi l4, qi l5, qr 7 l3] g (zV fun g1 => gExt g g1 → Z g1)) ∧ (¬ (4 : Int32) ≤ l2 → ∃ a2, l1 = some a2 ∧ gA g 385 a2 = some 4 ∧ vp_in l2 4 ∧ ∃ a3, gR g 385 a2 l2.toNatClampNeg = some a3 ∧ nnMT X M_Face_put 0 [qr 3 (some a3), qr 7 l3] g (zI fun r1 g2 => gExt g g2 → Z g2))) : nnMT X M_Net_sendData k [qr 0 (some l0), qr 6 l1, qi l2, qr 7 l3, qi l4, qi l5] g (zV Z) := b_Net_sendData_0 h

theorem b_Net_sendNack_0 {X : Nat × (Nat → Int32)} {k : Nat} {g : sg} {l0 : Nat} {l1 : Option Nat} {l2 : Int32} {l3 : Option Nat} {Z : sg → Prop} (h : ((4 : Int32) ≤ l2 → ∃ a1, l1 = some a1 ∧ ∃ a2, l3 = some a2 ∧ nnMT X M_Net_endRequests 0 [qr 0 (some l0), qi (gI g 384 a1 0), qi (gI g 449 a2 0), qi (gI g 450 a2 0), qr 7 none] g (zV fun g1 => gExt g g1 → Z g1)) ∧ (¬ (4 : Int32) ≤ l2 → ∃ a3, l1 = some a3 ∧ gA g 385 a3 = some 4 ∧ vp_in l2 4 ∧ ∃ a4, gR g 385 a3 l2.toNatClampNeg = some a4 ∧ nnMT X M_Face_put 0 [qr 3 (some a4), qr 7 l3] g (zI fun r1 g2 => gExt g g2 → Z g2))) : nnWP X M_Net_sendNack k 0 [qr 0 (some l0), qr 6 l1, qi l2, qr 7 l3] [] g (zV Z) := by
  refine wp_iload_n (i := 2) (x := l2) (dz dl_Net_sendNack_0 0 0 (.iload_n 2) 1 rfl) rfl rfl ?_
  refine wp_iconst (dz dl_Net_sendNack_0 1 1 (.iconst (4)) 1 rfl) (v := (4 : Int32)) (by decide) ?_
  refine wp_icmp_ge (tgt := 19) (dz dl_Net_sendNack_0 2 2 (.if_icmp .ge (17)) 3 rfl) (by decide) (fun hc => ?_) (fun hc => ?_)
  · replace h := h.1 hc
    refine wp_aload_n (i := 0) (v := qr 0 (some l0)) (dz dl_Net_sendNack_0 11 19 (.aload_n 0) 1 rfl) rfl rfl trivial ?_
    refine wp_aload_n (i := 1) (v := qr 6 l1) (dz dl_Net_sendNack_0 12 20 (.aload_n 1) 1 rfl) rfl rfl trivial ?_
    obtain ⟨a1, e1, h⟩ := h
    refine wp_getI a1 (dz dl_Net_sendNack_0 13 21 (.getfield 277) 3 rfl) lk_Net_277 kd_384 rfl e1 ?_
    refine wp_aload_n (i := 3) (v := qr 7 l3) (dz dl_Net_sendNack_0 14 24 (.aload_n 3) 1 rfl) rfl rfl trivial ?_
    obtain ⟨a2, e2, h⟩ := h
    refine wp_getI a2 (dz dl_Net_sendNack_0 15 25 (.getfield 259) 3 rfl) lk_Net_259 kd_449 rfl e2 ?_
    refine wp_aload_n (i := 3) (v := qr 7 l3) (dz dl_Net_sendNack_0 16 28 (.aload_n 3) 1 rfl) rfl rfl trivial ?_
    refine wp_getI a2 (dz dl_Net_sendNack_0 17 29 (.getfield 299) 3 rfl) lk_Net_299 kd_450 rfl e2 ?_
    refine wp_null 7 (dz dl_Net_sendNack_0 18 32 (.aconst_null) 1 rfl) ?_
    refine wp_callV l0 0 [qi (gI g 384 a1 0), qi (gI g 449 a2 0), qi (gI g 450 a2 0), qr 7 none] [] (dz dl_Net_sendNack_0 19 33 (.invokevirtual 395) 3 rfl) ok_Net_endRequests lm_Net_395 (by decide) ws_Net_endRequests wv_Net_endRequests ⟨Nat.le_of_ble_eq_true rfl, Nat.le_of_ble_eq_true rfl⟩ pn_Net_endRequests (Nat.le_of_ble_eq_true rfl) (Nat.le_of_ble_eq_true rfl) rfl (Or.inl rfl) (Nat.zero_le _) (mt_mono h ?_)
    rintro _ g1 ⟨rfl, h⟩ y1
    replace h := h y1.1
    show nnWP _ _ _ _ _ [] _ _
    exact wp_rt none (rt_V rfl (dz dl_Net_sendNack_0 20 36 (.return_) 1 rfl)) ⟨rfl, h⟩
  · replace h := h.2 hc
    refine wp_aload_n (i := 1) (v := qr 6 l1) (dz dl_Net_sendNack_0 3 5 (.aload_n 1) 1 rfl) rfl rfl trivial ?_
    obtain ⟨a3, e3, h⟩ := h
    obtain ⟨n1, h⟩ := h
    refine wp_getA a3 4 (dz dl_Net_sendNack_0 4 6 (.getfield 245) 3 rfl) lk_Net_245 (q := 1) kd_385 rfl e3 n1 ?_
    refine wp_iload_n (i := 2) (x := l2) (dz dl_Net_sendNack_0 5 9 (.iload_n 2) 1 rfl) rfl rfl ?_
    obtain ⟨i1, h⟩ := h
    refine wp_aald 4 (dz dl_Net_sendNack_0 6 10 (.aaload) 1 rfl) kd_385 n1 i1 ?_
    refine wp_aload_n (i := 3) (v := qr 7 l3) (dz dl_Net_sendNack_0 7 11 (.aload_n 3) 1 rfl) rfl rfl trivial ?_
    obtain ⟨a4, e4, h⟩ := h
    refine wp_callV a4 0 [qr 7 l3] [] (dz dl_Net_sendNack_0 8 12 (.invokevirtual 165) 3 rfl) ok_Face_put lm_Net_165 (by decide) ws_Face_put wv_Face_put ⟨Nat.le_of_ble_eq_true rfl, Nat.le_of_ble_eq_true rfl⟩ pn_Face_put (Nat.le_of_ble_eq_true rfl) (Nat.le_of_ble_eq_true rfl) e4 (Or.inl rfl) (Nat.zero_le _) (mt_mono h ?_)
    rintro _ g2 ⟨r1, rfl, h⟩ y2
    replace h := h y2.1
    show nnWP _ _ _ _ _ [qi r1] _ _
    refine wp_pop (dz dl_Net_sendNack_0 9 15 (.pop) 1 rfl) ?_
    refine wp_goto (tgt := 36) (dz dl_Net_sendNack_0 10 16 (.goto (20)) 3 rfl) (by decide) ?_
    exact wp_rt none (rt_V rfl (dz dl_Net_sendNack_0 20 36 (.return_) 1 rfl)) ⟨rfl, h⟩
theorem t_Net_sendNack {X : Nat × (Nat → Int32)} {k : Nat} {g : sg} {l0 : Nat} {l1 : Option Nat} {l2 : Int32} {l3 : Option Nat} {Z : sg → Prop} (h : ((4 : Int32) ≤ l2 → ∃ a1, l1 = some a1 ∧ ∃ a2, l3 = some a2 ∧ nnMT X M_Net_endRequests 0 [qr 0 (some l0), qi (gI g 384 a1 0), qi (gI g 449 a2 0), qi (gI g 450 a2 0), qr 7 none] g (zV fun g1 => gExt g g1 → Z g1)) ∧ (¬ (4 : Int32) ≤ l2 → ∃ a3, l1 = some a3 ∧ gA g 385 a3 = some 4 ∧ vp_in l2 4 ∧ ∃ a4, gR g 385 a3 l2.toNatClampNeg = some a4 ∧ nnMT X M_Face_put 0 [qr 3 (some a4), qr 7 l3] g (zI fun r1 g2 => gExt g g2 → Z g2))) : nnMT X M_Net_sendNack k [qr 0 (some l0), qr 6 l1, qi l2, qr 7 l3] g (zV Z) := b_Net_sendNack_0 h

theorem b_Net_endRequests_0 {X : Nat × (Nat → Int32)} {k : Nat} {g : sg} {l0 : Nat} {l1 : Int32} {l2 : Int32} {l3 : Int32} {l4 : Option Nat} {Z : sg → Prop} (h : nnWP X M_Net_endRequests k 3 [qr 0 (some l0), qi l1, qi l2, qi l3, qr 7 l4, qi (0 : Int32), none] [] g (zV Z)) : nnWP X M_Net_endRequests k 0 [qr 0 (some l0), qi l1, qi l2, qi l3, qr 7 l4, none, none] [] g (zV Z) := by
  refine wp_iconst (dz dl_Net_endRequests_0 0 0 (.iconst (0)) 1 rfl) (v := (0 : Int32)) (by decide) ?_
  refine wp_istore (i := 5) (dz dl_Net_endRequests_0 1 1 (.istore 5) 2 rfl) [qr 0 (some l0), qi l1, qi l2, qi l3, qr 7 l4, qi (0 : Int32), none] (by decide) rfl ?_
  exact wp_cut h ⟨Or.inr rfl, Or.inr rfl, Or.inr rfl, Or.inr rfl, Or.inr rfl, Or.inr rfl, Or.inl rfl, trivial⟩
theorem t_Net_endRequests {X : Nat × (Nat → Int32)} {k : Nat} {g : sg} {l0 : Nat} {l1 : Int32} {l2 : Int32} {l3 : Int32} {l4 : Option Nat} {Z : sg → Prop} (h : nnWP X M_Net_endRequests k 3 [qr 0 (some l0), qi l1, qi l2, qi l3, qr 7 l4, qi (0 : Int32), none] [] g (zV Z)) : nnMT X M_Net_endRequests k [qr 0 (some l0), qi l1, qi l2, qi l3, qr 7 l4] g (zV Z) := b_Net_endRequests_0 h

theorem b_Net_endRequests_3 {X : Nat × (Nat → Int32)} {k : Nat} {g : sg} {l0 : Nat} {l1 : Int32} {l2 : Int32} {l3 : Int32} {l4 : Option Nat} {l5 : Int32} {Z : sg → Prop} (h : ((gI g 10 l0 0) ≤ l5 → Z g) ∧ (¬ (gI g 10 l0 0) ≤ l5 → gA g 9 l0 = some 120 ∧ vp_in l5 120 ∧ ∃ a1, gR g 9 l0 l5.toNatClampNeg = some a1 ∧ (¬ (gI g 580 a1 0) = 0 → nnWP X M_Net_endRequests k 3 [qr 0 (some l0), qi l1, qi l2, qi l3, qr 7 l4, qi (l5 + 1), none] [] g (zV Z)) ∧ ((gI g 580 a1 0) = 0 → (¬ (gI g 576 a1 0) = l1 → nnWP X M_Net_endRequests k 3 [qr 0 (some l0), qi l1, qi l2, qi l3, qr 7 l4, qi (l5 + 1), none] [] g (zV Z)) ∧ ((gI g 576 a1 0) = l1 → (¬ (gI g 577 a1 0) = l2 → nnWP X M_Net_endRequests k 3 [qr 0 (some l0), qi l1, qi l2, qi l3, qr 7 l4, qi (l5 + 1), none] [] g (zV Z)) ∧ ((gI g 577 a1 0) = l2 → (¬ (gI g 578 a1 0) = l3 → nnWP X M_Net_endRequests k 3 [qr 0 (some l0), qi l1, qi l2, qi l3, qr 7 l4, qi (l5 + 1), none] [] g (zV Z)) ∧ ((gI g 578 a1 0) = l3 → (l4 = none → ∀ g3, g3 = pI g 580 a1 0 (2 : Int32) → ∀ g4, g4 = pR g3 581 a1 0 l4 → nnWP X M_Net_endRequests k 3 [qr 0 (some l0), qi l1, qi l2, qi l3, qr 7 l4, qi (l5 + 1), none] [] g4 (zV Z)) ∧ (∀ a2, l4 = some a2 → ∀ g1, g1 = pI g 580 a1 0 (1 : Int32) → ∀ g2, g2 = pR g1 581 a1 0 l4 → nnWP X M_Net_endRequests k 3 [qr 0 (some l0), qi l1, qi l2, qi l3, qr 7 l4, qi (l5 + 1), none] [] g2 (zV Z)))))))) : nnWP X M_Net_endRequests k 3 [qr 0 (some l0), qi l1, qi l2, qi l3, qr 7 l4, qi l5, none] [] g (zV Z) := by
  refine wp_iload (i := 5) (x := l5) (dz dl_Net_endRequests_0 2 3 (.iload 5) 2 rfl) rfl ?_
  refine wp_aload_n (i := 0) (v := qr 0 (some l0)) (dz dl_Net_endRequests_0 3 5 (.aload_n 0) 1 rfl) rfl rfl trivial ?_
  refine wp_getI l0 (dz dl_Net_endRequests_0 4 6 (.getfield 181) 3 rfl) lk_Net_181 kd_10 rfl rfl ?_
  refine wp_icmp_ge (tgt := 84) (dz dl_Net_endRequests_0 5 9 (.if_icmp .ge (75)) 3 rfl) (by decide) (fun hc => ?_) (fun hc => ?_)
  · replace h := h.1 hc
    exact wp_rt none (rt_V rfl (dz dl_Net_endRequests_0 38 84 (.return_) 1 rfl)) ⟨rfl, h⟩
  · replace h := h.2 hc
    refine wp_aload_n (i := 0) (v := qr 0 (some l0)) (dz dl_Net_endRequests_0 6 12 (.aload_n 0) 1 rfl) rfl rfl trivial ?_
    obtain ⟨n1, h⟩ := h
    refine wp_getA l0 120 (dz dl_Net_endRequests_0 7 13 (.getfield 41) 3 rfl) lk_Net_41 (q := 1) kd_9 rfl rfl n1 ?_
    refine wp_iload (i := 5) (x := l5) (dz dl_Net_endRequests_0 8 16 (.iload 5) 2 rfl) rfl ?_
    obtain ⟨i1, h⟩ := h
    refine wp_aald 120 (dz dl_Net_endRequests_0 9 18 (.aaload) 1 rfl) kd_9 n1 i1 ?_
    refine wp_astore (i := 6) (dz dl_Net_endRequests_0 10 19 (.astore 6) 2 rfl) [qr 0 (some l0), qi l1, qi l2, qi l3, qr 7 l4, qi l5, qr 9 (gR g 9 l0 l5.toNatClampNeg)] (by decide) trivial rfl ?_
    refine wp_aload (i := 6) (v := qr 9 (gR g 9 l0 l5.toNatClampNeg)) (dz dl_Net_endRequests_0 11 21 (.aload 6) 2 rfl) rfl trivial ?_
    obtain ⟨a1, e1, h⟩ := h
    refine wp_getI a1 (dz dl_Net_endRequests_0 12 23 (.getfield 184) 3 rfl) lk_Net_184 kd_580 rfl e1 ?_
    refine wp_if_ne (tgt := 78) (dz dl_Net_endRequests_0 13 26 (.ifCond .ne (52)) 3 rfl) (by decide) (fun hc => ?_) (fun hc => ?_)
    · replace h := h.1 hc
      refine wp_iinc (i := 5) (v := l5 + 1) (dz dl_Net_endRequests_0 36 78 (.iinc 5 (1)) 3 rfl) rfl (congrArg (fun z => l5 + z) (by decide)) [qr 0 (some l0), qi l1, qi l2, qi l3, qr 7 l4, qi (l5 + 1), qr 9 (gR g 9 l0 l5.toNatClampNeg)] (by decide) rfl ?_
      refine wp_goto (tgt := 3) (dz dl_Net_endRequests_0 37 81 (.goto (-78)) 3 rfl) (by decide) ?_
      exact wp_cut h ⟨Or.inr rfl, Or.inr rfl, Or.inr rfl, Or.inr rfl, Or.inr rfl, Or.inr rfl, Or.inl rfl, trivial⟩
    · replace h := h.2 hc
      refine wp_aload (i := 6) (v := qr 9 (gR g 9 l0 l5.toNatClampNeg)) (dz dl_Net_endRequests_0 14 29 (.aload 6) 2 rfl) rfl trivial ?_
      refine wp_getI a1 (dz dl_Net_endRequests_0 15 31 (.getfield 399) 3 rfl) lk_Net_399 kd_576 rfl e1 ?_
      refine wp_iload_n (i := 1) (x := l1) (dz dl_Net_endRequests_0 16 34 (.iload_n 1) 1 rfl) rfl rfl ?_
      refine wp_icmp_ne (tgt := 78) (dz dl_Net_endRequests_0 17 35 (.if_icmp .ne (43)) 3 rfl) (by decide) (fun hc => ?_) (fun hc => ?_)
      · replace h := h.1 hc
        refine wp_iinc (i := 5) (v := l5 + 1) (dz dl_Net_endRequests_0 36 78 (.iinc 5 (1)) 3 rfl) rfl (congrArg (fun z => l5 + z) (by decide)) [qr 0 (some l0), qi l1, qi l2, qi l3, qr 7 l4, qi (l5 + 1), qr 9 (gR g 9 l0 l5.toNatClampNeg)] (by decide) rfl ?_
        refine wp_goto (tgt := 3) (dz dl_Net_endRequests_0 37 81 (.goto (-78)) 3 rfl) (by decide) ?_
        exact wp_cut h ⟨Or.inr rfl, Or.inr rfl, Or.inr rfl, Or.inr rfl, Or.inr rfl, Or.inr rfl, Or.inl rfl, trivial⟩
      · replace h := h.2 hc
        refine wp_aload (i := 6) (v := qr 9 (gR g 9 l0 l5.toNatClampNeg)) (dz dl_Net_endRequests_0 18 38 (.aload 6) 2 rfl) rfl trivial ?_
        refine wp_getI a1 (dz dl_Net_endRequests_0 19 40 (.getfield 402) 3 rfl) lk_Net_402 kd_577 rfl e1 ?_
        refine wp_iload_n (i := 2) (x := l2) (dz dl_Net_endRequests_0 20 43 (.iload_n 2) 1 rfl) rfl rfl ?_
        refine wp_icmp_ne (tgt := 78) (dz dl_Net_endRequests_0 21 44 (.if_icmp .ne (34)) 3 rfl) (by decide) (fun hc => ?_) (fun hc => ?_)
        · replace h := h.1 hc
          refine wp_iinc (i := 5) (v := l5 + 1) (dz dl_Net_endRequests_0 36 78 (.iinc 5 (1)) 3 rfl) rfl (congrArg (fun z => l5 + z) (by decide)) [qr 0 (some l0), qi l1, qi l2, qi l3, qr 7 l4, qi (l5 + 1), qr 9 (gR g 9 l0 l5.toNatClampNeg)] (by decide) rfl ?_
          refine wp_goto (tgt := 3) (dz dl_Net_endRequests_0 37 81 (.goto (-78)) 3 rfl) (by decide) ?_
          exact wp_cut h ⟨Or.inr rfl, Or.inr rfl, Or.inr rfl, Or.inr rfl, Or.inr rfl, Or.inr rfl, Or.inl rfl, trivial⟩
        · replace h := h.2 hc
          refine wp_aload (i := 6) (v := qr 9 (gR g 9 l0 l5.toNatClampNeg)) (dz dl_Net_endRequests_0 22 47 (.aload 6) 2 rfl) rfl trivial ?_
          refine wp_getI a1 (dz dl_Net_endRequests_0 23 49 (.getfield 403) 3 rfl) lk_Net_403 kd_578 rfl e1 ?_
          refine wp_iload_n (i := 3) (x := l3) (dz dl_Net_endRequests_0 24 52 (.iload_n 3) 1 rfl) rfl rfl ?_
          refine wp_icmp_ne (tgt := 78) (dz dl_Net_endRequests_0 25 53 (.if_icmp .ne (25)) 3 rfl) (by decide) (fun hc => ?_) (fun hc => ?_)
          · replace h := h.1 hc
            refine wp_iinc (i := 5) (v := l5 + 1) (dz dl_Net_endRequests_0 36 78 (.iinc 5 (1)) 3 rfl) rfl (congrArg (fun z => l5 + z) (by decide)) [qr 0 (some l0), qi l1, qi l2, qi l3, qr 7 l4, qi (l5 + 1), qr 9 (gR g 9 l0 l5.toNatClampNeg)] (by decide) rfl ?_
            refine wp_goto (tgt := 3) (dz dl_Net_endRequests_0 37 81 (.goto (-78)) 3 rfl) (by decide) ?_
            exact wp_cut h ⟨Or.inr rfl, Or.inr rfl, Or.inr rfl, Or.inr rfl, Or.inr rfl, Or.inr rfl, Or.inl rfl, trivial⟩
          · replace h := h.2 hc
            refine wp_aload (i := 6) (v := qr 9 (gR g 9 l0 l5.toNatClampNeg)) (dz dl_Net_endRequests_0 26 56 (.aload 6) 2 rfl) rfl trivial ?_
            refine wp_aload (i := 4) (v := qr 7 l4) (dz dl_Net_endRequests_0 27 58 (.aload 4) 2 rfl) rfl trivial ?_
            refine wp_ifnonnull (tgt := 67) (dz dl_Net_endRequests_0 28 60 (.ifnonnull (7)) 3 rfl) (by decide) (fun a2 e2 => ?_) (fun hc => ?_)
            · replace h := h.2 a2 e2
              refine wp_iconst (dz dl_Net_endRequests_0 31 67 (.iconst (1)) 1 rfl) (v := (1 : Int32)) (by decide) ?_
              have h := h _ rfl
              refine wp_putI a1 (dz dl_Net_endRequests_0 32 68 (.putfield 184) 3 rfl) lk_Net_184 kd_580 rfl rfl e1 (okI_0 _) rfl ?_
              refine wp_aload (i := 6) (v := qr 9 (gR g 9 l0 l5.toNatClampNeg)) (dz dl_Net_endRequests_0 33 71 (.aload 6) 2 rfl) rfl trivial ?_
              refine wp_aload (i := 4) (v := qr 7 l4) (dz dl_Net_endRequests_0 34 73 (.aload 4) 2 rfl) rfl trivial ?_
              have h := h _ rfl
              refine wp_putR a1 (dz dl_Net_endRequests_0 35 75 (.putfield 255) 3 rfl) lk_Net_255 kd_581 rfl rfl e1 rfl ?_
              refine wp_iinc (i := 5) (v := l5 + 1) (dz dl_Net_endRequests_0 36 78 (.iinc 5 (1)) 3 rfl) rfl (congrArg (fun z => l5 + z) (by decide)) [qr 0 (some l0), qi l1, qi l2, qi l3, qr 7 l4, qi (l5 + 1), qr 9 (gR g 9 l0 l5.toNatClampNeg)] (by decide) rfl ?_
              refine wp_goto (tgt := 3) (dz dl_Net_endRequests_0 37 81 (.goto (-78)) 3 rfl) (by decide) ?_
              exact wp_cut h ⟨Or.inr rfl, Or.inr rfl, Or.inr rfl, Or.inr rfl, Or.inr rfl, Or.inr rfl, Or.inl rfl, trivial⟩
            · replace h := h.1 hc
              refine wp_iconst (dz dl_Net_endRequests_0 29 63 (.iconst (2)) 1 rfl) (v := (2 : Int32)) (by decide) ?_
              refine wp_goto (tgt := 68) (dz dl_Net_endRequests_0 30 64 (.goto (4)) 3 rfl) (by decide) ?_
              have h := h _ rfl
              refine wp_putI a1 (dz dl_Net_endRequests_0 32 68 (.putfield 184) 3 rfl) lk_Net_184 kd_580 rfl rfl e1 (okI_0 _) rfl ?_
              refine wp_aload (i := 6) (v := qr 9 (gR g 9 l0 l5.toNatClampNeg)) (dz dl_Net_endRequests_0 33 71 (.aload 6) 2 rfl) rfl trivial ?_
              refine wp_aload (i := 4) (v := qr 7 l4) (dz dl_Net_endRequests_0 34 73 (.aload 4) 2 rfl) rfl trivial ?_
              have h := h _ rfl
              refine wp_putR a1 (dz dl_Net_endRequests_0 35 75 (.putfield 255) 3 rfl) lk_Net_255 kd_581 rfl rfl e1 rfl ?_
              refine wp_iinc (i := 5) (v := l5 + 1) (dz dl_Net_endRequests_0 36 78 (.iinc 5 (1)) 3 rfl) rfl (congrArg (fun z => l5 + z) (by decide)) [qr 0 (some l0), qi l1, qi l2, qi l3, qr 7 l4, qi (l5 + 1), qr 9 (gR g 9 l0 l5.toNatClampNeg)] (by decide) rfl ?_
              refine wp_goto (tgt := 3) (dz dl_Net_endRequests_0 37 81 (.goto (-78)) 3 rfl) (by decide) ?_
              exact wp_cut h ⟨Or.inr rfl, Or.inr rfl, Or.inr rfl, Or.inr rfl, Or.inr rfl, Or.inr rfl, Or.inl rfl, trivial⟩
