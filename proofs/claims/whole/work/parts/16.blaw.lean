theorem b_Law_cell_0 {X : Nat × (Nat → Int32)} {k : Nat} {g : sg} {l0 : Nat} {l1 : Int32} {Z : Int32 → sg → Prop} (h : ((nI X.1) ≤ l1 → Z (0 : Int32) g) ∧ (¬ (nI X.1) ≤ l1 → vp_in l1 X.1 ∧ Z (X.2 l1.toNatClampNeg) g)) : nnWP X M_Law_cell k 0 [qa 4095 l0, qi l1] [] g (zI Z) := by
  refine wp_iload_n (i := 1) (x := l1) (dz dl_Law_cell_0 0 0 (.iload_n 1) 1 rfl) rfl rfl ?_
  refine wp_aload_n (i := 0) (v := qa 4095 l0) (dz dl_Law_cell_0 1 1 (.aload_n 0) 1 rfl) rfl rfl trivial ?_
  refine wp_slen (dz dl_Law_cell_0 2 2 (.arraylength) 1 rfl) ?_
  refine wp_icmp_ge (tgt := 12) (dz dl_Law_cell_0 3 3 (.if_icmp .ge (9)) 3 rfl) (by decide) (fun hc => ?_) (fun hc => ?_)
  · replace h := h.1 hc
    refine wp_iconst (dz dl_Law_cell_0 8 12 (.iconst (0)) 1 rfl) (v := (0 : Int32)) (by decide) ?_
    exact wp_rt (qi _) (rt_I rfl (dz dl_Law_cell_0 9 13 (.ireturn) 1 rfl)) ⟨_, rfl, h⟩
  · replace h := h.2 hc
    refine wp_aload_n (i := 0) (v := qa 4095 l0) (dz dl_Law_cell_0 4 6 (.aload_n 0) 1 rfl) rfl rfl trivial ?_
    refine wp_iload_n (i := 1) (x := l1) (dz dl_Law_cell_0 5 7 (.iload_n 1) 1 rfl) rfl rfl ?_
    obtain ⟨i1, h⟩ := h
    refine wp_sald (dz dl_Law_cell_0 6 8 (.iaload) 1 rfl) i1 ?_
    refine wp_goto (tgt := 13) (dz dl_Law_cell_0 7 9 (.goto (4)) 3 rfl) (by decide) ?_
    exact wp_rt (qi _) (rt_I rfl (dz dl_Law_cell_0 9 13 (.ireturn) 1 rfl)) ⟨_, rfl, h⟩
theorem t_Law_cell {X : Nat × (Nat → Int32)} {k : Nat} {g : sg} {l0 : Nat} {l1 : Int32} {Z : Int32 → sg → Prop} (h : ((nI X.1) ≤ l1 → Z (0 : Int32) g) ∧ (¬ (nI X.1) ≤ l1 → vp_in l1 X.1 ∧ Z (X.2 l1.toNatClampNeg) g)) : nnMT X M_Law_cell k [qa 4095 l0, qi l1] g (zI Z) := b_Law_cell_0 h

set_option maxRecDepth 20000 in
theorem b_Law_law_0 {X : Nat × (Nat → Int32)} {k : Nat} {g : sg} {l0 : Nat} {Z : Int32 → sg → Prop} (h : 1 ≤ k ∧ ∀ g1, g1 = pN g 0 → nnMT X M_Law_cell 0 [qa 4095 l0, qi (0 : Int32)] g1 (zI fun r1 g2 => gExt g1 g2 → nnMT X M_Law_cell 0 [qa 4095 l0, qi (1 : Int32)] g2 (zI fun r2 g3 => gExt g2 g3 → nnMT X M_Law_cell 0 [qa 4095 l0, qi (2 : Int32)] g3 (zI fun r3 g4 => gExt g3 g4 → 303 ≤ (k - 1) ∧ nnMT X M_Net_init 303 [qr 0 (some (gC g 0)), qi r1, qi r2, qi r3] g4 (zV fun g5 => gExt g4 g5 → nnAG 0 g4 g5 → 4 ≤ (k - 1 - 303) ∧ ∀ g6, g6 = pN g5 1 → nnMT X M_Law_cell 0 [qa 4095 l0, qi (0 : Int32)] g6 (zI fun r4 g7 => gExt g6 g7 → nnMT X M_Law_cell 0 [qa 4095 l0, qi (1 : Int32)] g7 (zI fun r5 g8 => gExt g7 g8 → nnMT X M_Law_cell 0 [qa 4095 l0, qi (2 : Int32)] g8 (zI fun r6 g9 => gExt g8 g9 → 327 ≤ (k - 1 - 303 - 4) ∧ nnMT X M_Mod_init 327 [qr 1 (some (gC g5 1)), qi r4, qi r5, qi r6] g9 (zV fun g10 => gExt g9 g10 → nnAG 1 g9 g10 → nnWP X M_Law_law (k - 1 - 303 - 4 - 327) 48 [qa 4095 l0, qr 0 (some (gC g 0)), qr 1 (some (gC g5 1)), qi (3 : Int32)] [] g10 (zI Z)))))))))) : nnWP X M_Law_law k 0 [qa 4095 l0, none, none, none] [] g (zI Z) := by
  obtain ⟨u1, h⟩ := h
  have h := h _ rfl
  refine wp_new 1 (dz dl_Law_law_0 0 0 (.new 7) 3 rfl) (by decide) wc_Law_7 wi_0 wn_0 ⟨by decide, by decide⟩ rfl u1 ?_
  refine wp_dup (dz dl_Law_law_0 1 3 (.dup) 1 rfl) ?_
  refine wp_aload_n (i := 0) (v := qa 4095 l0) (dz dl_Law_law_0 2 4 (.aload_n 0) 1 rfl) rfl rfl trivial ?_
  refine wp_iconst (dz dl_Law_law_0 3 5 (.iconst (0)) 1 rfl) (v := (0 : Int32)) (by decide) ?_
  refine wp_callS 0 [qa 4095 l0, qi (0 : Int32)] [qr 0 (some (gC g 0)), qr 0 (some (gC g 0))] (dz dl_Law_law_0 4 6 (.invokestatic 9) 3 rfl) ok_Law_cell lm_Law_9 ws_Law_cell ⟨Nat.le_of_ble_eq_true rfl, Nat.le_of_ble_eq_true rfl⟩ pn_Law_cell (Nat.le_of_ble_eq_true rfl) (Nat.le_of_ble_eq_true rfl) (Or.inr rfl) (Nat.zero_le _) (mt_mono h ?_)
  rintro _ g2 ⟨r1, rfl, h⟩ y1
  replace h := h y1.1
  show nnWP _ _ _ _ _ [qi r1, qr 0 (some (gC g 0)), qr 0 (some (gC g 0))] _ _
  refine wp_aload_n (i := 0) (v := qa 4095 l0) (dz dl_Law_law_0 5 9 (.aload_n 0) 1 rfl) rfl rfl trivial ?_
  refine wp_iconst (dz dl_Law_law_0 6 10 (.iconst (1)) 1 rfl) (v := (1 : Int32)) (by decide) ?_
  refine wp_callS 0 [qa 4095 l0, qi (1 : Int32)] [qi r1, qr 0 (some (gC g 0)), qr 0 (some (gC g 0))] (dz dl_Law_law_0 7 11 (.invokestatic 9) 3 rfl) ok_Law_cell lm_Law_9 ws_Law_cell ⟨Nat.le_of_ble_eq_true rfl, Nat.le_of_ble_eq_true rfl⟩ pn_Law_cell (Nat.le_of_ble_eq_true rfl) (Nat.le_of_ble_eq_true rfl) (Or.inr rfl) (Nat.zero_le _) (mt_mono h ?_)
  rintro _ g3 ⟨r2, rfl, h⟩ y2
  replace h := h y2.1
  show nnWP _ _ _ _ _ [qi r2, qi r1, qr 0 (some (gC g 0)), qr 0 (some (gC g 0))] _ _
  refine wp_aload_n (i := 0) (v := qa 4095 l0) (dz dl_Law_law_0 8 14 (.aload_n 0) 1 rfl) rfl rfl trivial ?_
  refine wp_iconst (dz dl_Law_law_0 9 15 (.iconst (2)) 1 rfl) (v := (2 : Int32)) (by decide) ?_
  refine wp_callS 0 [qa 4095 l0, qi (2 : Int32)] [qi r2, qi r1, qr 0 (some (gC g 0)), qr 0 (some (gC g 0))] (dz dl_Law_law_0 10 16 (.invokestatic 9) 3 rfl) ok_Law_cell lm_Law_9 ws_Law_cell ⟨Nat.le_of_ble_eq_true rfl, Nat.le_of_ble_eq_true rfl⟩ pn_Law_cell (Nat.le_of_ble_eq_true rfl) (Nat.le_of_ble_eq_true rfl) (Or.inr rfl) (Nat.zero_le _) (mt_mono h ?_)
  rintro _ g4 ⟨r3, rfl, h⟩ y3
  replace h := h y3.1
  show nnWP _ _ _ _ _ [qi r3, qi r2, qi r1, qr 0 (some (gC g 0)), qr 0 (some (gC g 0))] _ _
  obtain ⟨u2, h⟩ := h
  refine wp_callI (gC g 0) 303 [qi r1, qi r2, qi r3] [qr 0 (some (gC g 0))] (dz dl_Law_law_0 11 19 (.invokespecial 15) 3 rfl) ok_Net_init rfl rfl lm_Law_15 ws_Net_init ⟨Nat.le_of_ble_eq_true rfl, Nat.le_of_ble_eq_true rfl⟩ pn_Net_init (Nat.le_of_ble_eq_true rfl) (Nat.le_of_ble_eq_true rfl) rfl (Or.inr rfl) u2 (mt_mono h ?_)
  rintro _ g5 ⟨rfl, h⟩ y4
  replace h := h y4.1 y4.2
  show nnWP _ _ _ _ _ [qr 0 (some (gC g 0))] _ _
  refine wp_astore_n (i := 1) (dz dl_Law_law_0 12 22 (.astore_n 1) 1 rfl) rfl [qa 4095 l0, qr 0 (some (gC g 0)), none, none] (by decide) trivial rfl ?_
  obtain ⟨u3, h⟩ := h
  have h := h _ rfl
  refine wp_new 4 (dz dl_Law_law_0 13 23 (.new 18) 3 rfl) (by decide) wc_Law_18 wi_1 wn_1 ⟨by decide, by decide⟩ rfl u3 ?_
  refine wp_dup (dz dl_Law_law_0 14 26 (.dup) 1 rfl) ?_
  refine wp_aload_n (i := 0) (v := qa 4095 l0) (dz dl_Law_law_0 15 27 (.aload_n 0) 1 rfl) rfl rfl trivial ?_
  refine wp_iconst (dz dl_Law_law_0 16 28 (.iconst (0)) 1 rfl) (v := (0 : Int32)) (by decide) ?_
  refine wp_callS 0 [qa 4095 l0, qi (0 : Int32)] [qr 1 (some (gC g5 1)), qr 1 (some (gC g5 1))] (dz dl_Law_law_0 17 29 (.invokestatic 9) 3 rfl) ok_Law_cell lm_Law_9 ws_Law_cell ⟨Nat.le_of_ble_eq_true rfl, Nat.le_of_ble_eq_true rfl⟩ pn_Law_cell (Nat.le_of_ble_eq_true rfl) (Nat.le_of_ble_eq_true rfl) (Or.inr rfl) (Nat.zero_le _) (mt_mono h ?_)
  rintro _ g7 ⟨r4, rfl, h⟩ y5
  replace h := h y5.1
  show nnWP _ _ _ _ _ [qi r4, qr 1 (some (gC g5 1)), qr 1 (some (gC g5 1))] _ _
  refine wp_aload_n (i := 0) (v := qa 4095 l0) (dz dl_Law_law_0 18 32 (.aload_n 0) 1 rfl) rfl rfl trivial ?_
  refine wp_iconst (dz dl_Law_law_0 19 33 (.iconst (1)) 1 rfl) (v := (1 : Int32)) (by decide) ?_
  refine wp_callS 0 [qa 4095 l0, qi (1 : Int32)] [qi r4, qr 1 (some (gC g5 1)), qr 1 (some (gC g5 1))] (dz dl_Law_law_0 20 34 (.invokestatic 9) 3 rfl) ok_Law_cell lm_Law_9 ws_Law_cell ⟨Nat.le_of_ble_eq_true rfl, Nat.le_of_ble_eq_true rfl⟩ pn_Law_cell (Nat.le_of_ble_eq_true rfl) (Nat.le_of_ble_eq_true rfl) (Or.inr rfl) (Nat.zero_le _) (mt_mono h ?_)
  rintro _ g8 ⟨r5, rfl, h⟩ y6
  replace h := h y6.1
  show nnWP _ _ _ _ _ [qi r5, qi r4, qr 1 (some (gC g5 1)), qr 1 (some (gC g5 1))] _ _
  refine wp_aload_n (i := 0) (v := qa 4095 l0) (dz dl_Law_law_0 21 37 (.aload_n 0) 1 rfl) rfl rfl trivial ?_
  refine wp_iconst (dz dl_Law_law_0 22 38 (.iconst (2)) 1 rfl) (v := (2 : Int32)) (by decide) ?_
  refine wp_callS 0 [qa 4095 l0, qi (2 : Int32)] [qi r5, qi r4, qr 1 (some (gC g5 1)), qr 1 (some (gC g5 1))] (dz dl_Law_law_0 23 39 (.invokestatic 9) 3 rfl) ok_Law_cell lm_Law_9 ws_Law_cell ⟨Nat.le_of_ble_eq_true rfl, Nat.le_of_ble_eq_true rfl⟩ pn_Law_cell (Nat.le_of_ble_eq_true rfl) (Nat.le_of_ble_eq_true rfl) (Or.inr rfl) (Nat.zero_le _) (mt_mono h ?_)
  rintro _ g9 ⟨r6, rfl, h⟩ y7
  replace h := h y7.1
  show nnWP _ _ _ _ _ [qi r6, qi r5, qi r4, qr 1 (some (gC g5 1)), qr 1 (some (gC g5 1))] _ _
  obtain ⟨u4, h⟩ := h
  refine wp_callI (gC g5 1) 327 [qi r4, qi r5, qi r6] [qr 1 (some (gC g5 1))] (dz dl_Law_law_0 24 42 (.invokespecial 20) 3 rfl) ok_Mod_init rfl rfl lm_Law_20 ws_Mod_init ⟨Nat.le_of_ble_eq_true rfl, Nat.le_of_ble_eq_true rfl⟩ pn_Mod_init (Nat.le_of_ble_eq_true rfl) (Nat.le_of_ble_eq_true rfl) rfl (Or.inr rfl) u4 (mt_mono h ?_)
  rintro _ g10 ⟨rfl, h⟩ y8
  replace h := h y8.1 y8.2
  show nnWP _ _ _ _ _ [qr 1 (some (gC g5 1))] _ _
  refine wp_astore_n (i := 2) (dz dl_Law_law_0 25 45 (.astore_n 2) 1 rfl) rfl [qa 4095 l0, qr 0 (some (gC g 0)), qr 1 (some (gC g5 1)), none] (by decide) trivial rfl ?_
  refine wp_iconst (dz dl_Law_law_0 26 46 (.iconst (3)) 1 rfl) (v := (3 : Int32)) (by decide) ?_
  refine wp_istore_n (i := 3) (dz dl_Law_law_0 27 47 (.istore_n 3) 1 rfl) rfl [qa 4095 l0, qr 0 (some (gC g 0)), qr 1 (some (gC g5 1)), qi (3 : Int32)] (by decide) rfl ?_
  exact wp_cut h ⟨Or.inr rfl, Or.inr rfl, Or.inr rfl, Or.inr rfl, trivial⟩
theorem t_Law_law {X : Nat × (Nat → Int32)} {k : Nat} {g : sg} {l0 : Nat} {Z : Int32 → sg → Prop} (h : 1 ≤ k ∧ ∀ g1, g1 = pN g 0 → nnMT X M_Law_cell 0 [qa 4095 l0, qi (0 : Int32)] g1 (zI fun r1 g2 => gExt g1 g2 → nnMT X M_Law_cell 0 [qa 4095 l0, qi (1 : Int32)] g2 (zI fun r2 g3 => gExt g2 g3 → nnMT X M_Law_cell 0 [qa 4095 l0, qi (2 : Int32)] g3 (zI fun r3 g4 => gExt g3 g4 → 303 ≤ (k - 1) ∧ nnMT X M_Net_init 303 [qr 0 (some (gC g 0)), qi r1, qi r2, qi r3] g4 (zV fun g5 => gExt g4 g5 → nnAG 0 g4 g5 → 4 ≤ (k - 1 - 303) ∧ ∀ g6, g6 = pN g5 1 → nnMT X M_Law_cell 0 [qa 4095 l0, qi (0 : Int32)] g6 (zI fun r4 g7 => gExt g6 g7 → nnMT X M_Law_cell 0 [qa 4095 l0, qi (1 : Int32)] g7 (zI fun r5 g8 => gExt g7 g8 → nnMT X M_Law_cell 0 [qa 4095 l0, qi (2 : Int32)] g8 (zI fun r6 g9 => gExt g8 g9 → 327 ≤ (k - 1 - 303 - 4) ∧ nnMT X M_Mod_init 327 [qr 1 (some (gC g5 1)), qi r4, qi r5, qi r6] g9 (zV fun g10 => gExt g9 g10 → nnAG 1 g9 g10 → nnWP X M_Law_law (k - 1 - 303 - 4 - 327) 48 [qa 4095 l0, qr 0 (some (gC g 0)), qr 1 (some (gC g5 1)), qi (3 : Int32)] [] g10 (zI Z)))))))))) : nnMT X M_Law_law k [qa 4095 l0] g (zI Z) := b_Law_law_0 h

set_option maxRecDepth 20000 in
theorem b_Law_law_48 {X : Nat × (Nat → Int32)} {k : Nat} {g : sg} {l0 : Nat} {l1 : Option Nat} {l2 : Option Nat} {l3 : Int32} {Z : Int32 → sg → Prop} (h : (((nI X.1) - (5 : Int32)) < l3 → Z (1 : Int32) g) ∧ (¬ ((nI X.1) - (5 : Int32)) < l3 → vp_in l3 X.1 ∧ (((X.2 l3.toNatClampNeg) &&& (31 : Int32)) = 0 → vp_in (l3 + (1 : Int32)) X.1 ∧ ∃ a1, l1 = some a1 ∧ nnMT X M_Net_write 0 [qr 0 (some a1), qi (((X.2 (l3 + (1 : Int32)).toNatClampNeg).toUInt32 % 65536).toInt32)] g (zI fun r1 g1 => gExt g g1 → nnAG 0 g g1 → ∃ a2, l2 = some a2 ∧ nnMT X M_Mod_write 0 [qr 1 (some a2), qi (((X.2 (l3 + (1 : Int32)).toNatClampNeg).toUInt32 % 65536).toInt32)] g1 (zI fun r2 g2 => gExt g1 g2 → nnAG 1 g1 g2 → (r1 = r2 → nnWP X M_Law_law k 48 [qa 4095 l0, qr 0 l1, qr 1 l2, qi (l3 + 5)] [] g2 (zI Z)) ∧ (¬ r1 = r2 → Z (0 : Int32) g2)))) ∧ (((X.2 l3.toNatClampNeg) &&& (31 : Int32)) = 1 → ∃ a3, l1 = some a3 ∧ nnMT X M_Net_name 0 [qr 0 (some a3)] g (zI fun r3 g3 => gExt g g3 → nnAG 0 g g3 → ∃ a4, l2 = some a4 ∧ nnMT X M_Mod_name 0 [qr 1 (some a4)] g3 (zI fun r4 g4 => gExt g3 g4 → nnAG 1 g3 g4 → (r3 = r4 → nnWP X M_Law_law k 48 [qa 4095 l0, qr 0 l1, qr 1 l2, qi (l3 + 5)] [] g4 (zI Z)) ∧ (¬ r3 = r4 → Z (0 : Int32) g4)))) ∧ (((X.2 l3.toNatClampNeg) &&& (31 : Int32)) = 2 → vp_in (l3 + (1 : Int32)) X.1 ∧ ∃ a5, l1 = some a5 ∧ nnMT X M_Net_parent 0 [qr 0 (some a5), qi (X.2 (l3 + (1 : Int32)).toNatClampNeg)] g (zI fun r5 g5 => gExt g g5 → nnAG 0 g g5 → ∃ a6, l2 = some a6 ∧ nnMT X M_Mod_parent 0 [qr 1 (some a6), qi (X.2 (l3 + (1 : Int32)).toNatClampNeg)] g5 (zI fun r6 g6 => gExt g5 g6 → nnAG 1 g5 g6 → (r5 = r6 → nnWP X M_Law_law k 48 [qa 4095 l0, qr 0 l1, qr 1 l2, qi (l3 + 5)] [] g6 (zI Z)) ∧ (¬ r5 = r6 → Z (0 : Int32) g6)))) ∧ (((X.2 l3.toNatClampNeg) &&& (31 : Int32)) = 3 → vp_in (l3 + (1 : Int32)) X.1 ∧ vp_in (l3 + (2 : Int32)) X.1 ∧ vp_in (l3 + (3 : Int32)) X.1 ∧ vp_in (l3 + (4 : Int32)) X.1 ∧ ∃ a7, l1 = some a7 ∧ nnMT X M_Net_link 0 [qr 0 (some a7), qi (X.2 (l3 + (1 : Int32)).toNatClampNeg), qi (X.2 (l3 + (2 : Int32)).toNatClampNeg), qi (X.2 (l3 + (3 : Int32)).toNatClampNeg), qi (X.2 (l3 + (4 : Int32)).toNatClampNeg)] g (zI fun r7 g7 => gExt g g7 → nnAG 0 g g7 → ∃ a8, l2 = some a8 ∧ nnMT X M_Mod_link 0 [qr 1 (some a8), qi (X.2 (l3 + (1 : Int32)).toNatClampNeg), qi (X.2 (l3 + (2 : Int32)).toNatClampNeg), qi (X.2 (l3 + (3 : Int32)).toNatClampNeg), qi (X.2 (l3 + (4 : Int32)).toNatClampNeg)] g7 (zI fun r8 g8 => gExt g7 g8 → nnAG 1 g7 g8 → (r7 = r8 → nnWP X M_Law_law k 48 [qa 4095 l0, qr 0 l1, qr 1 l2, qi (l3 + 5)] [] g8 (zI Z)) ∧ (¬ r7 = r8 → Z (0 : Int32) g8)))) ∧ (((X.2 l3.toNatClampNeg) &&& (31 : Int32)) = 4 → vp_in (l3 + (1 : Int32)) X.1 ∧ vp_in (l3 + (2 : Int32)) X.1 ∧ vp_in (l3 + (3 : Int32)) X.1 ∧ ((X.2 (l3 + (3 : Int32)).toNatClampNeg) = 0 → ∃ a9, l1 = some a9 ∧ nnMT X M_Net_turn 0 [qr 0 (some a9), qi (X.2 (l3 + (1 : Int32)).toNatClampNeg), qi (X.2 (l3 + (2 : Int32)).toNatClampNeg), qi (0 : Int32)] g (zI fun r9 g9 => gExt g g9 → nnAG 0 g g9 → ((X.2 (l3 + (3 : Int32)).toNatClampNeg) = 0 → ∃ a10, l2 = some a10 ∧ nnMT X M_Mod_turn 0 [qr 1 (some a10), qi (X.2 (l3 + (1 : Int32)).toNatClampNeg), qi (X.2 (l3 + (2 : Int32)).toNatClampNeg), qi (0 : Int32)] g9 (zI fun r10 g10 => gExt g9 g10 → nnAG 1 g9 g10 → (r9 = r10 → nnWP X M_Law_law k 48 [qa 4095 l0, qr 0 l1, qr 1 l2, qi (l3 + 5)] [] g10 (zI Z)) ∧ (¬ r9 = r10 → Z (0 : Int32) g10))) ∧ (¬ (X.2 (l3 + (3 : Int32)).toNatClampNeg) = 0 → ∃ a11, l2 = some a11 ∧ nnMT X M_Mod_turn 0 [qr 1 (some a11), qi (X.2 (l3 + (1 : Int32)).toNatClampNeg), qi (X.2 (l3 + (2 : Int32)).toNatClampNeg), qi (1 : Int32)] g9 (zI fun r11 g11 => gExt g9 g11 → nnAG 1 g9 g11 → (r9 = r11 → nnWP X M_Law_law k 48 [qa 4095 l0, qr 0 l1, qr 1 l2, qi (l3 + 5)] [] g11 (zI Z)) ∧ (¬ r9 = r11 → Z (0 : Int32) g11))))) ∧ (¬ (X.2 (l3 + (3 : Int32)).toNatClampNeg) = 0 → ∃ a12, l1 = some a12 ∧ nnMT X M_Net_turn 0 [qr 0 (some a12), qi (X.2 (l3 + (1 : Int32)).toNatClampNeg), qi (X.2 (l3 + (2 : Int32)).toNatClampNeg), qi (1 : Int32)] g (zI fun r12 g12 => gExt g g12 → nnAG 0 g g12 → ((X.2 (l3 + (3 : Int32)).toNatClampNeg) = 0 → ∃ a13, l2 = some a13 ∧ nnMT X M_Mod_turn 0 [qr 1 (some a13), qi (X.2 (l3 + (1 : Int32)).toNatClampNeg), qi (X.2 (l3 + (2 : Int32)).toNatClampNeg), qi (0 : Int32)] g12 (zI fun r13 g13 => gExt g12 g13 → nnAG 1 g12 g13 → (r12 = r13 → nnWP X M_Law_law k 48 [qa 4095 l0, qr 0 l1, qr 1 l2, qi (l3 + 5)] [] g13 (zI Z)) ∧ (¬ r12 = r13 → Z (0 : Int32) g13))) ∧ (¬ (X.2 (l3 + (3 : Int32)).toNatClampNeg) = 0 → ∃ a14, l2 = some a14 ∧ nnMT X M_Mod_turn 0 [qr 1 (some a14), qi (X.2 (l3 + (1 : Int32)).toNatClampNeg), qi (X.2 (l3 + (2 : Int32)).toNatClampNeg), qi (1 : Int32)] g12 (zI fun r14 g14 => gExt g12 g14 → nnAG 1 g12 g14 → (r12 = r14 → nnWP X M_Law_law k 48 [qa 4095 l0, qr 0 l1, qr 1 l2, qi (l3 + 5)] [] g14 (zI Z)) ∧ (¬ r12 = r14 → Z (0 : Int32) g14)))))) ∧ (((X.2 l3.toNatClampNeg) &&& (31 : Int32)) = 5 → vp_in (l3 + (1 : Int32)) X.1 ∧ vp_in (l3 + (2 : Int32)) X.1 ∧ vp_in (l3 + (3 : Int32)) X.1 ∧ ((X.2 (l3 + (3 : Int32)).toNatClampNeg) = 0 → 3 ≤ k ∧ ∃ a15, l1 = some a15 ∧ nnMT X M_Net_announce 3 [qr 0 (some a15), qi (X.2 (l3 + (1 : Int32)).toNatClampNeg), qi (X.2 (l3 + (2 : Int32)).toNatClampNeg), qi (0 : Int32)] g (zI fun r15 g15 => gExt g g15 → nnAG 0 g g15 → ((X.2 (l3 + (3 : Int32)).toNatClampNeg) = 0 → ∃ a16, l2 = some a16 ∧ nnMT X M_Mod_announce 0 [qr 1 (some a16), qi (X.2 (l3 + (1 : Int32)).toNatClampNeg), qi (X.2 (l3 + (2 : Int32)).toNatClampNeg), qi (0 : Int32)] g15 (zI fun r16 g16 => gExt g15 g16 → nnAG 1 g15 g16 → (r15 = r16 → nnWP X M_Law_law (k - 3) 48 [qa 4095 l0, qr 0 l1, qr 1 l2, qi (l3 + 5)] [] g16 (zI Z)) ∧ (¬ r15 = r16 → Z (0 : Int32) g16))) ∧ (¬ (X.2 (l3 + (3 : Int32)).toNatClampNeg) = 0 → ∃ a17, l2 = some a17 ∧ nnMT X M_Mod_announce 0 [qr 1 (some a17), qi (X.2 (l3 + (1 : Int32)).toNatClampNeg), qi (X.2 (l3 + (2 : Int32)).toNatClampNeg), qi (1 : Int32)] g15 (zI fun r17 g17 => gExt g15 g17 → nnAG 1 g15 g17 → (r15 = r17 → nnWP X M_Law_law (k - 3) 48 [qa 4095 l0, qr 0 l1, qr 1 l2, qi (l3 + 5)] [] g17 (zI Z)) ∧ (¬ r15 = r17 → Z (0 : Int32) g17))))) ∧ (¬ (X.2 (l3 + (3 : Int32)).toNatClampNeg) = 0 → 3 ≤ k ∧ ∃ a18, l1 = some a18 ∧ nnMT X M_Net_announce 3 [qr 0 (some a18), qi (X.2 (l3 + (1 : Int32)).toNatClampNeg), qi (X.2 (l3 + (2 : Int32)).toNatClampNeg), qi (1 : Int32)] g (zI fun r18 g18 => gExt g g18 → nnAG 0 g g18 → ((X.2 (l3 + (3 : Int32)).toNatClampNeg) = 0 → ∃ a19, l2 = some a19 ∧ nnMT X M_Mod_announce 0 [qr 1 (some a19), qi (X.2 (l3 + (1 : Int32)).toNatClampNeg), qi (X.2 (l3 + (2 : Int32)).toNatClampNeg), qi (0 : Int32)] g18 (zI fun r19 g19 => gExt g18 g19 → nnAG 1 g18 g19 → (r18 = r19 → nnWP X M_Law_law (k - 3) 48 [qa 4095 l0, qr 0 l1, qr 1 l2, qi (l3 + 5)] [] g19 (zI Z)) ∧ (¬ r18 = r19 → Z (0 : Int32) g19))) ∧ (¬ (X.2 (l3 + (3 : Int32)).toNatClampNeg) = 0 → ∃ a20, l2 = some a20 ∧ nnMT X M_Mod_announce 0 [qr 1 (some a20), qi (X.2 (l3 + (1 : Int32)).toNatClampNeg), qi (X.2 (l3 + (2 : Int32)).toNatClampNeg), qi (1 : Int32)] g18 (zI fun r20 g20 => gExt g18 g20 → nnAG 1 g18 g20 → (r18 = r20 → nnWP X M_Law_law (k - 3) 48 [qa 4095 l0, qr 0 l1, qr 1 l2, qi (l3 + 5)] [] g20 (zI Z)) ∧ (¬ r18 = r20 → Z (0 : Int32) g20)))))) ∧ (((X.2 l3.toNatClampNeg) &&& (31 : Int32)) = 6 → vp_in (l3 + (1 : Int32)) X.1 ∧ vp_in (l3 + (2 : Int32)) X.1 ∧ vp_in (l3 + (3 : Int32)) X.1 ∧ vp_in (l3 + (4 : Int32)) X.1 ∧ 1 ≤ k ∧ ∃ a21, l1 = some a21 ∧ nnMT X M_Net_publish 1 [qr 0 (some a21), qi (X.2 (l3 + (1 : Int32)).toNatClampNeg), qi (X.2 (l3 + (2 : Int32)).toNatClampNeg), qi (X.2 (l3 + (3 : Int32)).toNatClampNeg), qi (X.2 (l3 + (4 : Int32)).toNatClampNeg)] g (zI fun r21 g21 => gExt g g21 → nnAG 0 g g21 → ∃ a22, l2 = some a22 ∧ nnMT X M_Mod_publish 0 [qr 1 (some a22), qi (X.2 (l3 + (1 : Int32)).toNatClampNeg), qi (X.2 (l3 + (2 : Int32)).toNatClampNeg), qi (X.2 (l3 + (3 : Int32)).toNatClampNeg), qi (X.2 (l3 + (4 : Int32)).toNatClampNeg)] g21 (zI fun r22 g22 => gExt g21 g22 → nnAG 1 g21 g22 → (r21 = r22 → nnWP X M_Law_law (k - 1) 48 [qa 4095 l0, qr 0 l1, qr 1 l2, qi (l3 + 5)] [] g22 (zI Z)) ∧ (¬ r21 = r22 → Z (0 : Int32) g22)))) ∧ (((X.2 l3.toNatClampNeg) &&& (31 : Int32)) = 7 → vp_in (l3 + (1 : Int32)) X.1 ∧ vp_in (l3 + (2 : Int32)) X.1 ∧ vp_in (l3 + (3 : Int32)) X.1 ∧ vp_in (l3 + (4 : Int32)) X.1 ∧ 7 ≤ k ∧ ∃ a23, l1 = some a23 ∧ nnMT X M_Net_ask 7 [qr 0 (some a23), qi (X.2 (l3 + (1 : Int32)).toNatClampNeg), qi (X.2 (l3 + (2 : Int32)).toNatClampNeg), qi (X.2 (l3 + (3 : Int32)).toNatClampNeg), qi (X.2 (l3 + (4 : Int32)).toNatClampNeg)] g (zI fun r23 g23 => gExt g g23 → nnAG 0 g g23 → ∃ a24, l2 = some a24 ∧ nnMT X M_Mod_ask 0 [qr 1 (some a24), qi (X.2 (l3 + (1 : Int32)).toNatClampNeg), qi (X.2 (l3 + (2 : Int32)).toNatClampNeg), qi (X.2 (l3 + (3 : Int32)).toNatClampNeg), qi (X.2 (l3 + (4 : Int32)).toNatClampNeg)] g23 (zI fun r24 g24 => gExt g23 g24 → nnAG 1 g23 g24 → (r23 = r24 → nnWP X M_Law_law (k - 7) 48 [qa 4095 l0, qr 0 l1, qr 1 l2, qi (l3 + 5)] [] g24 (zI Z)) ∧ (¬ r23 = r24 → Z (0 : Int32) g24)))) ∧ (((X.2 l3.toNatClampNeg) &&& (31 : Int32)) = 8 → vp_in (l3 + (1 : Int32)) X.1 ∧ vp_in (l3 + (2 : Int32)) X.1 ∧ 5 ≤ k ∧ ∃ a25, l1 = some a25 ∧ nnMT X M_Net_carry 5 [qr 0 (some a25), qi (X.2 (l3 + (1 : Int32)).toNatClampNeg), qi (X.2 (l3 + (2 : Int32)).toNatClampNeg)] g (zI fun r25 g25 => gExt g g25 → nnAG 0 g g25 → ∃ a26, l2 = some a26 ∧ nnMT X M_Mod_carry 0 [qr 1 (some a26), qi (X.2 (l3 + (1 : Int32)).toNatClampNeg), qi (X.2 (l3 + (2 : Int32)).toNatClampNeg)] g25 (zI fun r26 g26 => gExt g25 g26 → nnAG 1 g25 g26 → (r25 = r26 → nnWP X M_Law_law (k - 5) 48 [qa 4095 l0, qr 0 l1, qr 1 l2, qi (l3 + 5)] [] g26 (zI Z)) ∧ (¬ r25 = r26 → Z (0 : Int32) g26)))) ∧ (((X.2 l3.toNatClampNeg) &&& (31 : Int32)) = 9 → vp_in (l3 + (1 : Int32)) X.1 ∧ vp_in (l3 + (2 : Int32)) X.1 ∧ vp_in (l3 + (3 : Int32)) X.1 ∧ ((X.2 (l3 + (3 : Int32)).toNatClampNeg) = 0 → ∃ a27, l1 = some a27 ∧ nnMT X M_Net_alter 0 [qr 0 (some a27), qi (X.2 (l3 + (1 : Int32)).toNatClampNeg), qi (X.2 (l3 + (2 : Int32)).toNatClampNeg), qi (0 : Int32)] g (zI fun r27 g27 => gExt g g27 → nnAG 0 g g27 → ((X.2 (l3 + (3 : Int32)).toNatClampNeg) = 0 → ∃ a28, l2 = some a28 ∧ nnMT X M_Mod_alter 0 [qr 1 (some a28), qi (X.2 (l3 + (1 : Int32)).toNatClampNeg), qi (X.2 (l3 + (2 : Int32)).toNatClampNeg), qi (0 : Int32)] g27 (zI fun r28 g28 => gExt g27 g28 → nnAG 1 g27 g28 → (r27 = r28 → nnWP X M_Law_law k 48 [qa 4095 l0, qr 0 l1, qr 1 l2, qi (l3 + 5)] [] g28 (zI Z)) ∧ (¬ r27 = r28 → Z (0 : Int32) g28))) ∧ (¬ (X.2 (l3 + (3 : Int32)).toNatClampNeg) = 0 → ∃ a29, l2 = some a29 ∧ nnMT X M_Mod_alter 0 [qr 1 (some a29), qi (X.2 (l3 + (1 : Int32)).toNatClampNeg), qi (X.2 (l3 + (2 : Int32)).toNatClampNeg), qi (1 : Int32)] g27 (zI fun r29 g29 => gExt g27 g29 → nnAG 1 g27 g29 → (r27 = r29 → nnWP X M_Law_law k 48 [qa 4095 l0, qr 0 l1, qr 1 l2, qi (l3 + 5)] [] g29 (zI Z)) ∧ (¬ r27 = r29 → Z (0 : Int32) g29))))) ∧ (¬ (X.2 (l3 + (3 : Int32)).toNatClampNeg) = 0 → ∃ a30, l1 = some a30 ∧ nnMT X M_Net_alter 0 [qr 0 (some a30), qi (X.2 (l3 + (1 : Int32)).toNatClampNeg), qi (X.2 (l3 + (2 : Int32)).toNatClampNeg), qi (1 : Int32)] g (zI fun r30 g30 => gExt g g30 → nnAG 0 g g30 → ((X.2 (l3 + (3 : Int32)).toNatClampNeg) = 0 → ∃ a31, l2 = some a31 ∧ nnMT X M_Mod_alter 0 [qr 1 (some a31), qi (X.2 (l3 + (1 : Int32)).toNatClampNeg), qi (X.2 (l3 + (2 : Int32)).toNatClampNeg), qi (0 : Int32)] g30 (zI fun r31 g31 => gExt g30 g31 → nnAG 1 g30 g31 → (r30 = r31 → nnWP X M_Law_law k 48 [qa 4095 l0, qr 0 l1, qr 1 l2, qi (l3 + 5)] [] g31 (zI Z)) ∧ (¬ r30 = r31 → Z (0 : Int32) g31))) ∧ (¬ (X.2 (l3 + (3 : Int32)).toNatClampNeg) = 0 → ∃ a32, l2 = some a32 ∧ nnMT X M_Mod_alter 0 [qr 1 (some a32), qi (X.2 (l3 + (1 : Int32)).toNatClampNeg), qi (X.2 (l3 + (2 : Int32)).toNatClampNeg), qi (1 : Int32)] g30 (zI fun r32 g32 => gExt g30 g32 → nnAG 1 g30 g32 → (r30 = r32 → nnWP X M_Law_law k 48 [qa 4095 l0, qr 0 l1, qr 1 l2, qi (l3 + 5)] [] g32 (zI Z)) ∧ (¬ r30 = r32 → Z (0 : Int32) g32)))))) ∧ (((X.2 l3.toNatClampNeg) &&& (31 : Int32)) = 10 → ∃ a33, l1 = some a33 ∧ nnMT X M_Net_tick 0 [qr 0 (some a33)] g (zI fun r33 g33 => gExt g g33 → nnAG 0 g g33 → ∃ a34, l2 = some a34 ∧ nnMT X M_Mod_tick 0 [qr 1 (some a34)] g33 (zI fun r34 g34 => gExt g33 g34 → nnAG 1 g33 g34 → (r33 = r34 → nnWP X M_Law_law k 48 [qa 4095 l0, qr 0 l1, qr 1 l2, qi (l3 + 5)] [] g34 (zI Z)) ∧ (¬ r33 = r34 → Z (0 : Int32) g34)))) ∧ (((X.2 l3.toNatClampNeg) &&& (31 : Int32)) = 11 → vp_in (l3 + (1 : Int32)) X.1 ∧ vp_in (l3 + (2 : Int32)) X.1 ∧ vp_in (l3 + (3 : Int32)) X.1 ∧ vp_in (l3 + (4 : Int32)) X.1 ∧ ∃ a35, l1 = some a35 ∧ nnMT X M_Net_fetch 0 [qr 0 (some a35), qi (X.2 (l3 + (1 : Int32)).toNatClampNeg), qi (X.2 (l3 + (2 : Int32)).toNatClampNeg), qi (X.2 (l3 + (3 : Int32)).toNatClampNeg), qi (X.2 (l3 + (4 : Int32)).toNatClampNeg)] g (zI fun r35 g35 => gExt g g35 → nnAG 0 g g35 → ∃ a36, l2 = some a36 ∧ nnMT X M_Mod_fetch 0 [qr 1 (some a36), qi (X.2 (l3 + (1 : Int32)).toNatClampNeg), qi (X.2 (l3 + (2 : Int32)).toNatClampNeg), qi (X.2 (l3 + (3 : Int32)).toNatClampNeg), qi (X.2 (l3 + (4 : Int32)).toNatClampNeg)] g35 (zI fun r36 g36 => gExt g35 g36 → nnAG 1 g35 g36 → (r35 = r36 → nnWP X M_Law_law k 48 [qa 4095 l0, qr 0 l1, qr 1 l2, qi (l3 + 5)] [] g36 (zI Z)) ∧ (¬ r35 = r36 → Z (0 : Int32) g36)))) ∧ (((X.2 l3.toNatClampNeg) &&& (31 : Int32)) = 12 → vp_in (l3 + (1 : Int32)) X.1 ∧ 70 ≤ k ∧ ∃ a37, l1 = some a37 ∧ nnMT X M_Net_pump 70 [qr 0 (some a37), qi (X.2 (l3 + (1 : Int32)).toNatClampNeg)] g (zI fun r37 g37 => gExt g g37 → nnAG 0 g g37 → ∃ a38, l2 = some a38 ∧ nnMT X M_Mod_pump 0 [qr 1 (some a38), qi (X.2 (l3 + (1 : Int32)).toNatClampNeg)] g37 (zI fun r38 g38 => gExt g37 g38 → nnAG 1 g37 g38 → (r37 = r38 → nnWP X M_Law_law (k - 70) 48 [qa 4095 l0, qr 0 l1, qr 1 l2, qi (l3 + 5)] [] g38 (zI Z)) ∧ (¬ r37 = r38 → Z (0 : Int32) g38)))) ∧ (((X.2 l3.toNatClampNeg) &&& (31 : Int32)) = 13 → vp_in (l3 + (1 : Int32)) X.1 ∧ vp_in (l3 + (2 : Int32)) X.1 ∧ ∃ a39, l1 = some a39 ∧ nnMT X M_Net_fetched 0 [qr 0 (some a39), qi (X.2 (l3 + (1 : Int32)).toNatClampNeg), qi (X.2 (l3 + (2 : Int32)).toNatClampNeg)] g (zI fun r39 g39 => gExt g g39 → nnAG 0 g g39 → ∃ a40, l2 = some a40 ∧ nnMT X M_Mod_fetched 0 [qr 1 (some a40), qi (X.2 (l3 + (1 : Int32)).toNatClampNeg), qi (X.2 (l3 + (2 : Int32)).toNatClampNeg)] g39 (zI fun r40 g40 => gExt g39 g40 → nnAG 1 g39 g40 → (r39 = r40 → nnWP X M_Law_law k 48 [qa 4095 l0, qr 0 l1, qr 1 l2, qi (l3 + 5)] [] g40 (zI Z)) ∧ (¬ r39 = r40 → Z (0 : Int32) g40)))) ∧ (((X.2 l3.toNatClampNeg) &&& (31 : Int32)) = 14 → vp_in (l3 + (1 : Int32)) X.1 ∧ vp_in (l3 + (2 : Int32)) X.1 ∧ vp_in (l3 + (3 : Int32)) X.1 ∧ ∃ a41, l1 = some a41 ∧ nnMT X M_Net_cost 0 [qr 0 (some a41), qi (X.2 (l3 + (1 : Int32)).toNatClampNeg), qi (X.2 (l3 + (2 : Int32)).toNatClampNeg), qi (X.2 (l3 + (3 : Int32)).toNatClampNeg)] g (zI fun r41 g41 => gExt g g41 → nnAG 0 g g41 → ∃ a42, l2 = some a42 ∧ nnMT X M_Mod_cost 0 [qr 1 (some a42), qi (X.2 (l3 + (1 : Int32)).toNatClampNeg), qi (X.2 (l3 + (2 : Int32)).toNatClampNeg), qi (X.2 (l3 + (3 : Int32)).toNatClampNeg)] g41 (zI fun r42 g42 => gExt g41 g42 → nnAG 1 g41 g42 → (r41 = r42 → nnWP X M_Law_law k 48 [qa 4095 l0, qr 0 l1, qr 1 l2, qi (l3 + 5)] [] g42 (zI Z)) ∧ (¬ r41 = r42 → Z (0 : Int32) g42)))) ∧ (((X.2 l3.toNatClampNeg) &&& (31 : Int32)) = 15 → vp_in (l3 + (1 : Int32)) X.1 ∧ vp_in (l3 + (2 : Int32)) X.1 ∧ ∃ a43, l1 = some a43 ∧ nnMT X M_Net_waiting 0 [qr 0 (some a43), qi (X.2 (l3 + (1 : Int32)).toNatClampNeg), qi (X.2 (l3 + (2 : Int32)).toNatClampNeg)] g (zI fun r43 g43 => gExt g g43 → nnAG 0 g g43 → ∃ a44, l2 = some a44 ∧ nnMT X M_Mod_waiting 0 [qr 1 (some a44), qi (X.2 (l3 + (1 : Int32)).toNatClampNeg), qi (X.2 (l3 + (2 : Int32)).toNatClampNeg)] g43 (zI fun r44 g44 => gExt g43 g44 → nnAG 1 g43 g44 → (r43 = r44 → nnWP X M_Law_law k 48 [qa 4095 l0, qr 0 l1, qr 1 l2, qi (l3 + 5)] [] g44 (zI Z)) ∧ (¬ r43 = r44 → Z (0 : Int32) g44)))) ∧ (((X.2 l3.toNatClampNeg) &&& (31 : Int32)) = 16 → vp_in (l3 + (1 : Int32)) X.1 ∧ vp_in (l3 + (2 : Int32)) X.1 ∧ ∃ a45, l1 = some a45 ∧ nnMT X M_Net_stored 0 [qr 0 (some a45), qi (X.2 (l3 + (1 : Int32)).toNatClampNeg), qi (X.2 (l3 + (2 : Int32)).toNatClampNeg)] g (zI fun r45 g45 => gExt g g45 → nnAG 0 g g45 → ∃ a46, l2 = some a46 ∧ nnMT X M_Mod_stored 0 [qr 1 (some a46), qi (X.2 (l3 + (1 : Int32)).toNatClampNeg), qi (X.2 (l3 + (2 : Int32)).toNatClampNeg)] g45 (zI fun r46 g46 => gExt g45 g46 → nnAG 1 g45 g46 → (r45 = r46 → nnWP X M_Law_law k 48 [qa 4095 l0, qr 0 l1, qr 1 l2, qi (l3 + 5)] [] g46 (zI Z)) ∧ (¬ r45 = r46 → Z (0 : Int32) g46)))) ∧ (((X.2 l3.toNatClampNeg) &&& (31 : Int32)) = 17 → vp_in (l3 + (1 : Int32)) X.1 ∧ vp_in (l3 + (2 : Int32)) X.1 ∧ ∃ a47, l1 = some a47 ∧ nnMT X M_Net_request 0 [qr 0 (some a47), qi (X.2 (l3 + (1 : Int32)).toNatClampNeg), qi (X.2 (l3 + (2 : Int32)).toNatClampNeg)] g (zI fun r47 g47 => gExt g g47 → nnAG 0 g g47 → ∃ a48, l2 = some a48 ∧ nnMT X M_Mod_request 0 [qr 1 (some a48), qi (X.2 (l3 + (1 : Int32)).toNatClampNeg), qi (X.2 (l3 + (2 : Int32)).toNatClampNeg)] g47 (zI fun r48 g48 => gExt g47 g48 → nnAG 1 g47 g48 → (r47 = r48 → nnWP X M_Law_law k 48 [qa 4095 l0, qr 0 l1, qr 1 l2, qi (l3 + 5)] [] g48 (zI Z)) ∧ (¬ r47 = r48 → Z (0 : Int32) g48)))) ∧ (¬ ((X.2 l3.toNatClampNeg) &&& (31 : Int32)) = 0 ∧ ¬ ((X.2 l3.toNatClampNeg) &&& (31 : Int32)) = 1 ∧ ¬ ((X.2 l3.toNatClampNeg) &&& (31 : Int32)) = 2 ∧ ¬ ((X.2 l3.toNatClampNeg) &&& (31 : Int32)) = 3 ∧ ¬ ((X.2 l3.toNatClampNeg) &&& (31 : Int32)) = 4 ∧ ¬ ((X.2 l3.toNatClampNeg) &&& (31 : Int32)) = 5 ∧ ¬ ((X.2 l3.toNatClampNeg) &&& (31 : Int32)) = 6 ∧ ¬ ((X.2 l3.toNatClampNeg) &&& (31 : Int32)) = 7 ∧ ¬ ((X.2 l3.toNatClampNeg) &&& (31 : Int32)) = 8 ∧ ¬ ((X.2 l3.toNatClampNeg) &&& (31 : Int32)) = 9 ∧ ¬ ((X.2 l3.toNatClampNeg) &&& (31 : Int32)) = 10 ∧ ¬ ((X.2 l3.toNatClampNeg) &&& (31 : Int32)) = 11 ∧ ¬ ((X.2 l3.toNatClampNeg) &&& (31 : Int32)) = 12 ∧ ¬ ((X.2 l3.toNatClampNeg) &&& (31 : Int32)) = 13 ∧ ¬ ((X.2 l3.toNatClampNeg) &&& (31 : Int32)) = 14 ∧ ¬ ((X.2 l3.toNatClampNeg) &&& (31 : Int32)) = 15 ∧ ¬ ((X.2 l3.toNatClampNeg) &&& (31 : Int32)) = 16 ∧ ¬ ((X.2 l3.toNatClampNeg) &&& (31 : Int32)) = 17 → nnWP X M_Law_law k 48 [qa 4095 l0, qr 0 l1, qr 1 l2, qi (l3 + 5)] [] g (zI Z)))) : nnWP X M_Law_law k 48 [qa 4095 l0, qr 0 l1, qr 1 l2, qi l3] [] g (zI Z) := by
  refine wp_iload_n (i := 3) (x := l3) (dz dl_Law_law_0 28 48 (.iload_n 3) 1 rfl) rfl rfl ?_
  refine wp_aload_n (i := 0) (v := qa 4095 l0) (dz dl_Law_law_0 29 49 (.aload_n 0) 1 rfl) rfl rfl trivial ?_
  refine wp_slen (dz dl_Law_law_0 30 50 (.arraylength) 1 rfl) ?_
  refine wp_iconst (dz dl_Law_law_0 31 51 (.iconst (5)) 1 rfl) (v := (5 : Int32)) (by decide) ?_
  refine wp_isub (dz dl_Law_law_0 32 52 (.isub) 1 rfl) ?_
  refine wp_icmp_gt (tgt := 848) (dz dl_Law_law_0 33 53 (.if_icmp .gt (795)) 3 rfl) (by decide) (fun hc => ?_) (fun hc => ?_)
  · replace h := h.1 hc
    refine wp_iconst (dz dl_Law_law_15 4 848 (.iconst (1)) 1 rfl) (v := (1 : Int32)) (by decide) ?_
    exact wp_rt (qi _) (rt_Z rfl (Or.inr rfl) (dz dl_Law_law_15 5 849 (.ireturn) 1 rfl)) ⟨_, rfl, h⟩
  · replace h := h.2 hc
    refine wp_aload_n (i := 0) (v := qa 4095 l0) (dz dl_Law_law_0 34 56 (.aload_n 0) 1 rfl) rfl rfl trivial ?_
    refine wp_iload_n (i := 3) (x := l3) (dz dl_Law_law_0 35 57 (.iload_n 3) 1 rfl) rfl rfl ?_
    obtain ⟨i1, h⟩ := h
    refine wp_sald (dz dl_Law_law_0 36 58 (.iaload) 1 rfl) i1 ?_
    refine wp_bipush (dz dl_Law_law_0 37 59 (.bipush (31)) 2 rfl) (v := (31 : Int32)) (by decide) ?_
    refine wp_iand (dz dl_Law_law_0 38 61 (.iand) 1 rfl) ?_
    by_cases hc0 : ((X.2 l3.toNatClampNeg) &&& (31 : Int32)) = 0
    · replace h := h.1 hc0
      refine wp_tableInK 0 hc0 (dz dl_Law_law_0 39 62 (.tableswitch (780) (0) (17) #[(86), (111), (124), (147), (200), (259), (318), (371), (424), (457), (516), (529), (582), (605), (638), (681), (714), (747)]) 86 rfl) (by decide) (by decide) (86) (by decide) 148 (by decide) ?_
      refine wp_aload_n (i := 1) (v := qr 0 l1) (dz dl_Law_law_1 0 148 (.aload_n 1) 1 rfl) rfl rfl trivial ?_
      refine wp_aload_n (i := 0) (v := qa 4095 l0) (dz dl_Law_law_1 1 149 (.aload_n 0) 1 rfl) rfl rfl trivial ?_
      refine wp_iload_n (i := 3) (x := l3) (dz dl_Law_law_1 2 150 (.iload_n 3) 1 rfl) rfl rfl ?_
      refine wp_iconst (dz dl_Law_law_1 3 151 (.iconst (1)) 1 rfl) (v := (1 : Int32)) (by decide) ?_
      refine wp_iadd (dz dl_Law_law_1 4 152 (.iadd) 1 rfl) ?_
      obtain ⟨i2, h⟩ := h
      refine wp_sald (dz dl_Law_law_1 5 153 (.iaload) 1 rfl) i2 ?_
      refine wp_i2c (dz dl_Law_law_1 6 154 (.i2c) 1 rfl) ?_
      obtain ⟨a1, e1, h⟩ := h
      refine wp_callV a1 0 [qi (((X.2 (l3 + (1 : Int32)).toNatClampNeg).toUInt32 % 65536).toInt32)] [] (dz dl_Law_law_1 7 155 (.invokevirtual 21) 3 rfl) ok_Net_write lm_Law_21 (by decide) ws_Net_write wv_Net_write ⟨Nat.le_of_ble_eq_true rfl, Nat.le_of_ble_eq_true rfl⟩ pn_Net_write (Nat.le_of_ble_eq_true rfl) (Nat.le_of_ble_eq_true rfl) e1 (Or.inr rfl) (Nat.zero_le _) (mt_mono h ?_)
      rintro _ g1 ⟨r1, rfl, h⟩ y1
      replace h := h y1.1 y1.2
      show nnWP _ _ _ _ _ [qi r1] _ _
      refine wp_aload_n (i := 2) (v := qr 1 l2) (dz dl_Law_law_1 8 158 (.aload_n 2) 1 rfl) rfl rfl trivial ?_
      refine wp_aload_n (i := 0) (v := qa 4095 l0) (dz dl_Law_law_1 9 159 (.aload_n 0) 1 rfl) rfl rfl trivial ?_
      refine wp_iload_n (i := 3) (x := l3) (dz dl_Law_law_1 10 160 (.iload_n 3) 1 rfl) rfl rfl ?_
      refine wp_iconst (dz dl_Law_law_1 11 161 (.iconst (1)) 1 rfl) (v := (1 : Int32)) (by decide) ?_
      refine wp_iadd (dz dl_Law_law_1 12 162 (.iadd) 1 rfl) ?_
      refine wp_sald (dz dl_Law_law_1 13 163 (.iaload) 1 rfl) i2 ?_
      refine wp_i2c (dz dl_Law_law_1 14 164 (.i2c) 1 rfl) ?_
      obtain ⟨a2, e2, h⟩ := h
      refine wp_callV a2 0 [qi (((X.2 (l3 + (1 : Int32)).toNatClampNeg).toUInt32 % 65536).toInt32)] [qi r1] (dz dl_Law_law_1 15 165 (.invokevirtual 25) 3 rfl) ok_Mod_write lm_Law_25 (by decide) ws_Mod_write wv_Mod_write ⟨Nat.le_of_ble_eq_true rfl, Nat.le_of_ble_eq_true rfl⟩ pn_Mod_write (Nat.le_of_ble_eq_true rfl) (Nat.le_of_ble_eq_true rfl) e2 (Or.inr rfl) (Nat.zero_le _) (mt_mono h ?_)
      rintro _ g2 ⟨r2, rfl, h⟩ y2
      replace h := h y2.1 y2.2
      show nnWP _ _ _ _ _ [qi r2, qi r1] _ _
      refine wp_icmp_eq (tgt := 842) (dz dl_Law_law_1 16 168 (.if_icmp .eq (674)) 3 rfl) (by decide) (fun hc => ?_) (fun hc => ?_)
      · replace h := h.1 hc
        refine wp_iinc (i := 3) (v := l3 + 5) (dz dl_Law_law_15 2 842 (.iinc 3 (5)) 3 rfl) rfl (congrArg (fun z => l3 + z) (by decide)) [qa 4095 l0, qr 0 l1, qr 1 l2, qi (l3 + 5)] (by decide) rfl ?_
        refine wp_goto (tgt := 48) (dz dl_Law_law_15 3 845 (.goto (-797)) 3 rfl) (by decide) ?_
        exact wp_cut h ⟨Or.inr rfl, Or.inr rfl, Or.inr rfl, Or.inr rfl, trivial⟩
      · replace h := h.2 hc
        refine wp_iconst (dz dl_Law_law_1 17 171 (.iconst (0)) 1 rfl) (v := (0 : Int32)) (by decide) ?_
        exact wp_rt (qi _) (rt_Z rfl (Or.inl rfl) (dz dl_Law_law_1 18 172 (.ireturn) 1 rfl)) ⟨_, rfl, h⟩
    replace h := h.2
    by_cases hc1 : ((X.2 l3.toNatClampNeg) &&& (31 : Int32)) = 1
    · replace h := h.1 hc1
      refine wp_tableInK 1 hc1 (dz dl_Law_law_0 39 62 (.tableswitch (780) (0) (17) #[(86), (111), (124), (147), (200), (259), (318), (371), (424), (457), (516), (529), (582), (605), (638), (681), (714), (747)]) 86 rfl) (by decide) (by decide) (111) (by decide) 173 (by decide) ?_
      refine wp_aload_n (i := 1) (v := qr 0 l1) (dz dl_Law_law_1 19 173 (.aload_n 1) 1 rfl) rfl rfl trivial ?_
      obtain ⟨a3, e3, h⟩ := h
      refine wp_callV a3 0 [] [] (dz dl_Law_law_1 20 174 (.invokevirtual 26) 3 rfl) ok_Net_name lm_Law_26 (by decide) ws_Net_name wv_Net_name ⟨Nat.le_of_ble_eq_true rfl, Nat.le_of_ble_eq_true rfl⟩ pn_Net_name (Nat.le_of_ble_eq_true rfl) (Nat.le_of_ble_eq_true rfl) e3 (Or.inr rfl) (Nat.zero_le _) (mt_mono h ?_)
      rintro _ g3 ⟨r3, rfl, h⟩ y3
      replace h := h y3.1 y3.2
      show nnWP _ _ _ _ _ [qi r3] _ _
      refine wp_aload_n (i := 2) (v := qr 1 l2) (dz dl_Law_law_1 21 177 (.aload_n 2) 1 rfl) rfl rfl trivial ?_
      obtain ⟨a4, e4, h⟩ := h
      refine wp_callV a4 0 [] [qi r3] (dz dl_Law_law_1 22 178 (.invokevirtual 30) 3 rfl) ok_Mod_name lm_Law_30 (by decide) ws_Mod_name wv_Mod_name ⟨Nat.le_of_ble_eq_true rfl, Nat.le_of_ble_eq_true rfl⟩ pn_Mod_name (Nat.le_of_ble_eq_true rfl) (Nat.le_of_ble_eq_true rfl) e4 (Or.inr rfl) (Nat.zero_le _) (mt_mono h ?_)
      rintro _ g4 ⟨r4, rfl, h⟩ y4
      replace h := h y4.1 y4.2
      show nnWP _ _ _ _ _ [qi r4, qi r3] _ _
      refine wp_icmp_eq (tgt := 842) (dz dl_Law_law_1 23 181 (.if_icmp .eq (661)) 3 rfl) (by decide) (fun hc => ?_) (fun hc => ?_)
      · replace h := h.1 hc
        refine wp_iinc (i := 3) (v := l3 + 5) (dz dl_Law_law_15 2 842 (.iinc 3 (5)) 3 rfl) rfl (congrArg (fun z => l3 + z) (by decide)) [qa 4095 l0, qr 0 l1, qr 1 l2, qi (l3 + 5)] (by decide) rfl ?_
        refine wp_goto (tgt := 48) (dz dl_Law_law_15 3 845 (.goto (-797)) 3 rfl) (by decide) ?_
        exact wp_cut h ⟨Or.inr rfl, Or.inr rfl, Or.inr rfl, Or.inr rfl, trivial⟩
      · replace h := h.2 hc
        refine wp_iconst (dz dl_Law_law_1 24 184 (.iconst (0)) 1 rfl) (v := (0 : Int32)) (by decide) ?_
        exact wp_rt (qi _) (rt_Z rfl (Or.inl rfl) (dz dl_Law_law_1 25 185 (.ireturn) 1 rfl)) ⟨_, rfl, h⟩
    replace h := h.2
    by_cases hc2 : ((X.2 l3.toNatClampNeg) &&& (31 : Int32)) = 2
    · replace h := h.1 hc2
      refine wp_tableInK 2 hc2 (dz dl_Law_law_0 39 62 (.tableswitch (780) (0) (17) #[(86), (111), (124), (147), (200), (259), (318), (371), (424), (457), (516), (529), (582), (605), (638), (681), (714), (747)]) 86 rfl) (by decide) (by decide) (124) (by decide) 186 (by decide) ?_
      refine wp_aload_n (i := 1) (v := qr 0 l1) (dz dl_Law_law_1 26 186 (.aload_n 1) 1 rfl) rfl rfl trivial ?_
      refine wp_aload_n (i := 0) (v := qa 4095 l0) (dz dl_Law_law_1 27 187 (.aload_n 0) 1 rfl) rfl rfl trivial ?_
      refine wp_iload_n (i := 3) (x := l3) (dz dl_Law_law_1 28 188 (.iload_n 3) 1 rfl) rfl rfl ?_
      refine wp_iconst (dz dl_Law_law_1 29 189 (.iconst (1)) 1 rfl) (v := (1 : Int32)) (by decide) ?_
      refine wp_iadd (dz dl_Law_law_1 30 190 (.iadd) 1 rfl) ?_
      obtain ⟨i3, h⟩ := h
      refine wp_sald (dz dl_Law_law_1 31 191 (.iaload) 1 rfl) i3 ?_
      obtain ⟨a5, e5, h⟩ := h
      refine wp_callV a5 0 [qi (X.2 (l3 + (1 : Int32)).toNatClampNeg)] [] (dz dl_Law_law_1 32 192 (.invokevirtual 31) 3 rfl) ok_Net_parent lm_Law_31 (by decide) ws_Net_parent wv_Net_parent ⟨Nat.le_of_ble_eq_true rfl, Nat.le_of_ble_eq_true rfl⟩ pn_Net_parent (Nat.le_of_ble_eq_true rfl) (Nat.le_of_ble_eq_true rfl) e5 (Or.inr rfl) (Nat.zero_le _) (mt_mono h ?_)
      rintro _ g5 ⟨r5, rfl, h⟩ y5
      replace h := h y5.1 y5.2
      show nnWP _ _ _ _ _ [qi r5] _ _
      refine wp_aload_n (i := 2) (v := qr 1 l2) (dz dl_Law_law_1 33 195 (.aload_n 2) 1 rfl) rfl rfl trivial ?_
      refine wp_aload_n (i := 0) (v := qa 4095 l0) (dz dl_Law_law_1 34 196 (.aload_n 0) 1 rfl) rfl rfl trivial ?_
      refine wp_iload_n (i := 3) (x := l3) (dz dl_Law_law_1 35 197 (.iload_n 3) 1 rfl) rfl rfl ?_
      refine wp_iconst (dz dl_Law_law_1 36 198 (.iconst (1)) 1 rfl) (v := (1 : Int32)) (by decide) ?_
      refine wp_iadd (dz dl_Law_law_1 37 199 (.iadd) 1 rfl) ?_
      refine wp_sald (dz dl_Law_law_1 38 200 (.iaload) 1 rfl) i3 ?_
      obtain ⟨a6, e6, h⟩ := h
      refine wp_callV a6 0 [qi (X.2 (l3 + (1 : Int32)).toNatClampNeg)] [qi r5] (dz dl_Law_law_1 39 201 (.invokevirtual 35) 3 rfl) ok_Mod_parent lm_Law_35 (by decide) ws_Mod_parent wv_Mod_parent ⟨Nat.le_of_ble_eq_true rfl, Nat.le_of_ble_eq_true rfl⟩ pn_Mod_parent (Nat.le_of_ble_eq_true rfl) (Nat.le_of_ble_eq_true rfl) e6 (Or.inr rfl) (Nat.zero_le _) (mt_mono h ?_)
      rintro _ g6 ⟨r6, rfl, h⟩ y6
      replace h := h y6.1 y6.2
      show nnWP _ _ _ _ _ [qi r6, qi r5] _ _
      refine wp_icmp_eq (tgt := 842) (dz dl_Law_law_2 0 204 (.if_icmp .eq (638)) 3 rfl) (by decide) (fun hc => ?_) (fun hc => ?_)
      · replace h := h.1 hc
        refine wp_iinc (i := 3) (v := l3 + 5) (dz dl_Law_law_15 2 842 (.iinc 3 (5)) 3 rfl) rfl (congrArg (fun z => l3 + z) (by decide)) [qa 4095 l0, qr 0 l1, qr 1 l2, qi (l3 + 5)] (by decide) rfl ?_
        refine wp_goto (tgt := 48) (dz dl_Law_law_15 3 845 (.goto (-797)) 3 rfl) (by decide) ?_
        exact wp_cut h ⟨Or.inr rfl, Or.inr rfl, Or.inr rfl, Or.inr rfl, trivial⟩
      · replace h := h.2 hc
        refine wp_iconst (dz dl_Law_law_2 1 207 (.iconst (0)) 1 rfl) (v := (0 : Int32)) (by decide) ?_
        exact wp_rt (qi _) (rt_Z rfl (Or.inl rfl) (dz dl_Law_law_2 2 208 (.ireturn) 1 rfl)) ⟨_, rfl, h⟩
    replace h := h.2
    by_cases hc3 : ((X.2 l3.toNatClampNeg) &&& (31 : Int32)) = 3
    · replace h := h.1 hc3
      refine wp_tableInK 3 hc3 (dz dl_Law_law_0 39 62 (.tableswitch (780) (0) (17) #[(86), (111), (124), (147), (200), (259), (318), (371), (424), (457), (516), (529), (582), (605), (638), (681), (714), (747)]) 86 rfl) (by decide) (by decide) (147) (by decide) 209 (by decide) ?_
      refine wp_aload_n (i := 1) (v := qr 0 l1) (dz dl_Law_law_2 3 209 (.aload_n 1) 1 rfl) rfl rfl trivial ?_
      refine wp_aload_n (i := 0) (v := qa 4095 l0) (dz dl_Law_law_2 4 210 (.aload_n 0) 1 rfl) rfl rfl trivial ?_
      refine wp_iload_n (i := 3) (x := l3) (dz dl_Law_law_2 5 211 (.iload_n 3) 1 rfl) rfl rfl ?_
      refine wp_iconst (dz dl_Law_law_2 6 212 (.iconst (1)) 1 rfl) (v := (1 : Int32)) (by decide) ?_
      refine wp_iadd (dz dl_Law_law_2 7 213 (.iadd) 1 rfl) ?_
      obtain ⟨i4, h⟩ := h
      refine wp_sald (dz dl_Law_law_2 8 214 (.iaload) 1 rfl) i4 ?_
      refine wp_aload_n (i := 0) (v := qa 4095 l0) (dz dl_Law_law_2 9 215 (.aload_n 0) 1 rfl) rfl rfl trivial ?_
      refine wp_iload_n (i := 3) (x := l3) (dz dl_Law_law_2 10 216 (.iload_n 3) 1 rfl) rfl rfl ?_
      refine wp_iconst (dz dl_Law_law_2 11 217 (.iconst (2)) 1 rfl) (v := (2 : Int32)) (by decide) ?_
      refine wp_iadd (dz dl_Law_law_2 12 218 (.iadd) 1 rfl) ?_
      obtain ⟨i5, h⟩ := h
      refine wp_sald (dz dl_Law_law_2 13 219 (.iaload) 1 rfl) i5 ?_
      refine wp_aload_n (i := 0) (v := qa 4095 l0) (dz dl_Law_law_2 14 220 (.aload_n 0) 1 rfl) rfl rfl trivial ?_
      refine wp_iload_n (i := 3) (x := l3) (dz dl_Law_law_2 15 221 (.iload_n 3) 1 rfl) rfl rfl ?_
      refine wp_iconst (dz dl_Law_law_2 16 222 (.iconst (3)) 1 rfl) (v := (3 : Int32)) (by decide) ?_
      refine wp_iadd (dz dl_Law_law_2 17 223 (.iadd) 1 rfl) ?_
      obtain ⟨i6, h⟩ := h
      refine wp_sald (dz dl_Law_law_2 18 224 (.iaload) 1 rfl) i6 ?_
      refine wp_aload_n (i := 0) (v := qa 4095 l0) (dz dl_Law_law_2 19 225 (.aload_n 0) 1 rfl) rfl rfl trivial ?_
      refine wp_iload_n (i := 3) (x := l3) (dz dl_Law_law_2 20 226 (.iload_n 3) 1 rfl) rfl rfl ?_
      refine wp_iconst (dz dl_Law_law_2 21 227 (.iconst (4)) 1 rfl) (v := (4 : Int32)) (by decide) ?_
      refine wp_iadd (dz dl_Law_law_2 22 228 (.iadd) 1 rfl) ?_
      obtain ⟨i7, h⟩ := h
      refine wp_sald (dz dl_Law_law_2 23 229 (.iaload) 1 rfl) i7 ?_
      obtain ⟨a7, e7, h⟩ := h
      refine wp_callV a7 0 [qi (X.2 (l3 + (1 : Int32)).toNatClampNeg), qi (X.2 (l3 + (2 : Int32)).toNatClampNeg), qi (X.2 (l3 + (3 : Int32)).toNatClampNeg), qi (X.2 (l3 + (4 : Int32)).toNatClampNeg)] [] (dz dl_Law_law_2 24 230 (.invokevirtual 36) 3 rfl) ok_Net_link lm_Law_36 (by decide) ws_Net_link wv_Net_link ⟨Nat.le_of_ble_eq_true rfl, Nat.le_of_ble_eq_true rfl⟩ pn_Net_link (Nat.le_of_ble_eq_true rfl) (Nat.le_of_ble_eq_true rfl) e7 (Or.inr rfl) (Nat.zero_le _) (mt_mono h ?_)
      rintro _ g7 ⟨r7, rfl, h⟩ y7
      replace h := h y7.1 y7.2
      show nnWP _ _ _ _ _ [qi r7] _ _
      refine wp_aload_n (i := 2) (v := qr 1 l2) (dz dl_Law_law_2 25 233 (.aload_n 2) 1 rfl) rfl rfl trivial ?_
      refine wp_aload_n (i := 0) (v := qa 4095 l0) (dz dl_Law_law_2 26 234 (.aload_n 0) 1 rfl) rfl rfl trivial ?_
      refine wp_iload_n (i := 3) (x := l3) (dz dl_Law_law_2 27 235 (.iload_n 3) 1 rfl) rfl rfl ?_
      refine wp_iconst (dz dl_Law_law_2 28 236 (.iconst (1)) 1 rfl) (v := (1 : Int32)) (by decide) ?_
      refine wp_iadd (dz dl_Law_law_2 29 237 (.iadd) 1 rfl) ?_
      refine wp_sald (dz dl_Law_law_2 30 238 (.iaload) 1 rfl) i4 ?_
      refine wp_aload_n (i := 0) (v := qa 4095 l0) (dz dl_Law_law_2 31 239 (.aload_n 0) 1 rfl) rfl rfl trivial ?_
      refine wp_iload_n (i := 3) (x := l3) (dz dl_Law_law_2 32 240 (.iload_n 3) 1 rfl) rfl rfl ?_
      refine wp_iconst (dz dl_Law_law_2 33 241 (.iconst (2)) 1 rfl) (v := (2 : Int32)) (by decide) ?_
      refine wp_iadd (dz dl_Law_law_2 34 242 (.iadd) 1 rfl) ?_
      refine wp_sald (dz dl_Law_law_2 35 243 (.iaload) 1 rfl) i5 ?_
      refine wp_aload_n (i := 0) (v := qa 4095 l0) (dz dl_Law_law_2 36 244 (.aload_n 0) 1 rfl) rfl rfl trivial ?_
      refine wp_iload_n (i := 3) (x := l3) (dz dl_Law_law_2 37 245 (.iload_n 3) 1 rfl) rfl rfl ?_
      refine wp_iconst (dz dl_Law_law_2 38 246 (.iconst (3)) 1 rfl) (v := (3 : Int32)) (by decide) ?_
      refine wp_iadd (dz dl_Law_law_2 39 247 (.iadd) 1 rfl) ?_
      refine wp_sald (dz dl_Law_law_3 0 248 (.iaload) 1 rfl) i6 ?_
      refine wp_aload_n (i := 0) (v := qa 4095 l0) (dz dl_Law_law_3 1 249 (.aload_n 0) 1 rfl) rfl rfl trivial ?_
      refine wp_iload_n (i := 3) (x := l3) (dz dl_Law_law_3 2 250 (.iload_n 3) 1 rfl) rfl rfl ?_
      refine wp_iconst (dz dl_Law_law_3 3 251 (.iconst (4)) 1 rfl) (v := (4 : Int32)) (by decide) ?_
      refine wp_iadd (dz dl_Law_law_3 4 252 (.iadd) 1 rfl) ?_
      refine wp_sald (dz dl_Law_law_3 5 253 (.iaload) 1 rfl) i7 ?_
      obtain ⟨a8, e8, h⟩ := h
      refine wp_callV a8 0 [qi (X.2 (l3 + (1 : Int32)).toNatClampNeg), qi (X.2 (l3 + (2 : Int32)).toNatClampNeg), qi (X.2 (l3 + (3 : Int32)).toNatClampNeg), qi (X.2 (l3 + (4 : Int32)).toNatClampNeg)] [qi r7] (dz dl_Law_law_3 6 254 (.invokevirtual 40) 3 rfl) ok_Mod_link lm_Law_40 (by decide) ws_Mod_link wv_Mod_link ⟨Nat.le_of_ble_eq_true rfl, Nat.le_of_ble_eq_true rfl⟩ pn_Mod_link (Nat.le_of_ble_eq_true rfl) (Nat.le_of_ble_eq_true rfl) e8 (Or.inr rfl) (Nat.zero_le _) (mt_mono h ?_)
      rintro _ g8 ⟨r8, rfl, h⟩ y8
      replace h := h y8.1 y8.2
      show nnWP _ _ _ _ _ [qi r8, qi r7] _ _
      refine wp_icmp_eq (tgt := 842) (dz dl_Law_law_3 7 257 (.if_icmp .eq (585)) 3 rfl) (by decide) (fun hc => ?_) (fun hc => ?_)
      · replace h := h.1 hc
        refine wp_iinc (i := 3) (v := l3 + 5) (dz dl_Law_law_15 2 842 (.iinc 3 (5)) 3 rfl) rfl (congrArg (fun z => l3 + z) (by decide)) [qa 4095 l0, qr 0 l1, qr 1 l2, qi (l3 + 5)] (by decide) rfl ?_
        refine wp_goto (tgt := 48) (dz dl_Law_law_15 3 845 (.goto (-797)) 3 rfl) (by decide) ?_
        exact wp_cut h ⟨Or.inr rfl, Or.inr rfl, Or.inr rfl, Or.inr rfl, trivial⟩
      · replace h := h.2 hc
        refine wp_iconst (dz dl_Law_law_3 8 260 (.iconst (0)) 1 rfl) (v := (0 : Int32)) (by decide) ?_
        exact wp_rt (qi _) (rt_Z rfl (Or.inl rfl) (dz dl_Law_law_3 9 261 (.ireturn) 1 rfl)) ⟨_, rfl, h⟩
    replace h := h.2
    by_cases hc4 : ((X.2 l3.toNatClampNeg) &&& (31 : Int32)) = 4
    · replace h := h.1 hc4
      refine wp_tableInK 4 hc4 (dz dl_Law_law_0 39 62 (.tableswitch (780) (0) (17) #[(86), (111), (124), (147), (200), (259), (318), (371), (424), (457), (516), (529), (582), (605), (638), (681), (714), (747)]) 86 rfl) (by decide) (by decide) (200) (by decide) 262 (by decide) ?_
      refine wp_aload_n (i := 1) (v := qr 0 l1) (dz dl_Law_law_3 10 262 (.aload_n 1) 1 rfl) rfl rfl trivial ?_
      refine wp_aload_n (i := 0) (v := qa 4095 l0) (dz dl_Law_law_3 11 263 (.aload_n 0) 1 rfl) rfl rfl trivial ?_
      refine wp_iload_n (i := 3) (x := l3) (dz dl_Law_law_3 12 264 (.iload_n 3) 1 rfl) rfl rfl ?_
      refine wp_iconst (dz dl_Law_law_3 13 265 (.iconst (1)) 1 rfl) (v := (1 : Int32)) (by decide) ?_
      refine wp_iadd (dz dl_Law_law_3 14 266 (.iadd) 1 rfl) ?_
      obtain ⟨i8, h⟩ := h
      refine wp_sald (dz dl_Law_law_3 15 267 (.iaload) 1 rfl) i8 ?_
      refine wp_aload_n (i := 0) (v := qa 4095 l0) (dz dl_Law_law_3 16 268 (.aload_n 0) 1 rfl) rfl rfl trivial ?_
      refine wp_iload_n (i := 3) (x := l3) (dz dl_Law_law_3 17 269 (.iload_n 3) 1 rfl) rfl rfl ?_
      refine wp_iconst (dz dl_Law_law_3 18 270 (.iconst (2)) 1 rfl) (v := (2 : Int32)) (by decide) ?_
      refine wp_iadd (dz dl_Law_law_3 19 271 (.iadd) 1 rfl) ?_
      obtain ⟨i9, h⟩ := h
      refine wp_sald (dz dl_Law_law_3 20 272 (.iaload) 1 rfl) i9 ?_
      refine wp_aload_n (i := 0) (v := qa 4095 l0) (dz dl_Law_law_3 21 273 (.aload_n 0) 1 rfl) rfl rfl trivial ?_
      refine wp_iload_n (i := 3) (x := l3) (dz dl_Law_law_3 22 274 (.iload_n 3) 1 rfl) rfl rfl ?_
      refine wp_iconst (dz dl_Law_law_3 23 275 (.iconst (3)) 1 rfl) (v := (3 : Int32)) (by decide) ?_
      refine wp_iadd (dz dl_Law_law_3 24 276 (.iadd) 1 rfl) ?_
      obtain ⟨i10, h⟩ := h
      refine wp_sald (dz dl_Law_law_3 25 277 (.iaload) 1 rfl) i10 ?_
      refine wp_if_eq (tgt := 285) (dz dl_Law_law_3 26 278 (.ifCond .eq (7)) 3 rfl) (by decide) (fun hc => ?_) (fun hc => ?_)
      · replace h := h.1 hc
        refine wp_iconst (dz dl_Law_law_3 29 285 (.iconst (0)) 1 rfl) (v := (0 : Int32)) (by decide) ?_
        obtain ⟨a9, e9, h⟩ := h
        refine wp_callV a9 0 [qi (X.2 (l3 + (1 : Int32)).toNatClampNeg), qi (X.2 (l3 + (2 : Int32)).toNatClampNeg), qi (0 : Int32)] [] (dz dl_Law_law_3 30 286 (.invokevirtual 41) 3 rfl) ok_Net_turn lm_Law_41 (by decide) ws_Net_turn wv_Net_turn ⟨Nat.le_of_ble_eq_true rfl, Nat.le_of_ble_eq_true rfl⟩ pn_Net_turn (Nat.le_of_ble_eq_true rfl) (Nat.le_of_ble_eq_true rfl) e9 (Or.inr rfl) (Nat.zero_le _) (mt_mono h ?_)
        rintro _ g9 ⟨r9, rfl, h⟩ y9
        replace h := h y9.1 y9.2
        show nnWP _ _ _ _ _ [qi r9] _ _
        refine wp_aload_n (i := 2) (v := qr 1 l2) (dz dl_Law_law_3 31 289 (.aload_n 2) 1 rfl) rfl rfl trivial ?_
        refine wp_aload_n (i := 0) (v := qa 4095 l0) (dz dl_Law_law_3 32 290 (.aload_n 0) 1 rfl) rfl rfl trivial ?_
        refine wp_iload_n (i := 3) (x := l3) (dz dl_Law_law_3 33 291 (.iload_n 3) 1 rfl) rfl rfl ?_
        refine wp_iconst (dz dl_Law_law_3 34 292 (.iconst (1)) 1 rfl) (v := (1 : Int32)) (by decide) ?_
        refine wp_iadd (dz dl_Law_law_3 35 293 (.iadd) 1 rfl) ?_
        refine wp_sald (dz dl_Law_law_3 36 294 (.iaload) 1 rfl) i8 ?_
        refine wp_aload_n (i := 0) (v := qa 4095 l0) (dz dl_Law_law_3 37 295 (.aload_n 0) 1 rfl) rfl rfl trivial ?_
        refine wp_iload_n (i := 3) (x := l3) (dz dl_Law_law_3 38 296 (.iload_n 3) 1 rfl) rfl rfl ?_
        refine wp_iconst (dz dl_Law_law_3 39 297 (.iconst (2)) 1 rfl) (v := (2 : Int32)) (by decide) ?_
        refine wp_iadd (dz dl_Law_law_4 0 298 (.iadd) 1 rfl) ?_
        refine wp_sald (dz dl_Law_law_4 1 299 (.iaload) 1 rfl) i9 ?_
        refine wp_aload_n (i := 0) (v := qa 4095 l0) (dz dl_Law_law_4 2 300 (.aload_n 0) 1 rfl) rfl rfl trivial ?_
        refine wp_iload_n (i := 3) (x := l3) (dz dl_Law_law_4 3 301 (.iload_n 3) 1 rfl) rfl rfl ?_
        refine wp_iconst (dz dl_Law_law_4 4 302 (.iconst (3)) 1 rfl) (v := (3 : Int32)) (by decide) ?_
        refine wp_iadd (dz dl_Law_law_4 5 303 (.iadd) 1 rfl) ?_
        refine wp_sald (dz dl_Law_law_4 6 304 (.iaload) 1 rfl) i10 ?_
        refine wp_if_eq (tgt := 312) (dz dl_Law_law_4 7 305 (.ifCond .eq (7)) 3 rfl) (by decide) (fun hc => ?_) (fun hc => ?_)
        · replace h := h.1 hc
          refine wp_iconst (dz dl_Law_law_4 10 312 (.iconst (0)) 1 rfl) (v := (0 : Int32)) (by decide) ?_
          obtain ⟨a10, e10, h⟩ := h
          refine wp_callV a10 0 [qi (X.2 (l3 + (1 : Int32)).toNatClampNeg), qi (X.2 (l3 + (2 : Int32)).toNatClampNeg), qi (0 : Int32)] [qi r9] (dz dl_Law_law_4 11 313 (.invokevirtual 45) 3 rfl) ok_Mod_turn lm_Law_45 (by decide) ws_Mod_turn wv_Mod_turn ⟨Nat.le_of_ble_eq_true rfl, Nat.le_of_ble_eq_true rfl⟩ pn_Mod_turn (Nat.le_of_ble_eq_true rfl) (Nat.le_of_ble_eq_true rfl) e10 (Or.inr rfl) (Nat.zero_le _) (mt_mono h ?_)
          rintro _ g10 ⟨r10, rfl, h⟩ y10
          replace h := h y10.1 y10.2
          show nnWP _ _ _ _ _ [qi r10, qi r9] _ _
          refine wp_icmp_eq (tgt := 842) (dz dl_Law_law_4 12 316 (.if_icmp .eq (526)) 3 rfl) (by decide) (fun hc => ?_) (fun hc => ?_)
          · replace h := h.1 hc
            refine wp_iinc (i := 3) (v := l3 + 5) (dz dl_Law_law_15 2 842 (.iinc 3 (5)) 3 rfl) rfl (congrArg (fun z => l3 + z) (by decide)) [qa 4095 l0, qr 0 l1, qr 1 l2, qi (l3 + 5)] (by decide) rfl ?_
            refine wp_goto (tgt := 48) (dz dl_Law_law_15 3 845 (.goto (-797)) 3 rfl) (by decide) ?_
            exact wp_cut h ⟨Or.inr rfl, Or.inr rfl, Or.inr rfl, Or.inr rfl, trivial⟩
          · replace h := h.2 hc
            refine wp_iconst (dz dl_Law_law_4 13 319 (.iconst (0)) 1 rfl) (v := (0 : Int32)) (by decide) ?_
            exact wp_rt (qi _) (rt_Z rfl (Or.inl rfl) (dz dl_Law_law_4 14 320 (.ireturn) 1 rfl)) ⟨_, rfl, h⟩
        · replace h := h.2 hc
          refine wp_iconst (dz dl_Law_law_4 8 308 (.iconst (1)) 1 rfl) (v := (1 : Int32)) (by decide) ?_
          refine wp_goto (tgt := 313) (dz dl_Law_law_4 9 309 (.goto (4)) 3 rfl) (by decide) ?_
          obtain ⟨a11, e11, h⟩ := h
          refine wp_callV a11 0 [qi (X.2 (l3 + (1 : Int32)).toNatClampNeg), qi (X.2 (l3 + (2 : Int32)).toNatClampNeg), qi (1 : Int32)] [qi r9] (dz dl_Law_law_4 11 313 (.invokevirtual 45) 3 rfl) ok_Mod_turn lm_Law_45 (by decide) ws_Mod_turn wv_Mod_turn ⟨Nat.le_of_ble_eq_true rfl, Nat.le_of_ble_eq_true rfl⟩ pn_Mod_turn (Nat.le_of_ble_eq_true rfl) (Nat.le_of_ble_eq_true rfl) e11 (Or.inr rfl) (Nat.zero_le _) (mt_mono h ?_)
          rintro _ g11 ⟨r11, rfl, h⟩ y11
          replace h := h y11.1 y11.2
          show nnWP _ _ _ _ _ [qi r11, qi r9] _ _
          refine wp_icmp_eq (tgt := 842) (dz dl_Law_law_4 12 316 (.if_icmp .eq (526)) 3 rfl) (by decide) (fun hc => ?_) (fun hc => ?_)
          · replace h := h.1 hc
            refine wp_iinc (i := 3) (v := l3 + 5) (dz dl_Law_law_15 2 842 (.iinc 3 (5)) 3 rfl) rfl (congrArg (fun z => l3 + z) (by decide)) [qa 4095 l0, qr 0 l1, qr 1 l2, qi (l3 + 5)] (by decide) rfl ?_
            refine wp_goto (tgt := 48) (dz dl_Law_law_15 3 845 (.goto (-797)) 3 rfl) (by decide) ?_
            exact wp_cut h ⟨Or.inr rfl, Or.inr rfl, Or.inr rfl, Or.inr rfl, trivial⟩
          · replace h := h.2 hc
            refine wp_iconst (dz dl_Law_law_4 13 319 (.iconst (0)) 1 rfl) (v := (0 : Int32)) (by decide) ?_
            exact wp_rt (qi _) (rt_Z rfl (Or.inl rfl) (dz dl_Law_law_4 14 320 (.ireturn) 1 rfl)) ⟨_, rfl, h⟩
      · replace h := h.2 hc
        refine wp_iconst (dz dl_Law_law_3 27 281 (.iconst (1)) 1 rfl) (v := (1 : Int32)) (by decide) ?_
        refine wp_goto (tgt := 286) (dz dl_Law_law_3 28 282 (.goto (4)) 3 rfl) (by decide) ?_
        obtain ⟨a12, e12, h⟩ := h
        refine wp_callV a12 0 [qi (X.2 (l3 + (1 : Int32)).toNatClampNeg), qi (X.2 (l3 + (2 : Int32)).toNatClampNeg), qi (1 : Int32)] [] (dz dl_Law_law_3 30 286 (.invokevirtual 41) 3 rfl) ok_Net_turn lm_Law_41 (by decide) ws_Net_turn wv_Net_turn ⟨Nat.le_of_ble_eq_true rfl, Nat.le_of_ble_eq_true rfl⟩ pn_Net_turn (Nat.le_of_ble_eq_true rfl) (Nat.le_of_ble_eq_true rfl) e12 (Or.inr rfl) (Nat.zero_le _) (mt_mono h ?_)
        rintro _ g12 ⟨r12, rfl, h⟩ y12
        replace h := h y12.1 y12.2
        show nnWP _ _ _ _ _ [qi r12] _ _
        refine wp_aload_n (i := 2) (v := qr 1 l2) (dz dl_Law_law_3 31 289 (.aload_n 2) 1 rfl) rfl rfl trivial ?_
        refine wp_aload_n (i := 0) (v := qa 4095 l0) (dz dl_Law_law_3 32 290 (.aload_n 0) 1 rfl) rfl rfl trivial ?_
        refine wp_iload_n (i := 3) (x := l3) (dz dl_Law_law_3 33 291 (.iload_n 3) 1 rfl) rfl rfl ?_
        refine wp_iconst (dz dl_Law_law_3 34 292 (.iconst (1)) 1 rfl) (v := (1 : Int32)) (by decide) ?_
        refine wp_iadd (dz dl_Law_law_3 35 293 (.iadd) 1 rfl) ?_
        refine wp_sald (dz dl_Law_law_3 36 294 (.iaload) 1 rfl) i8 ?_
        refine wp_aload_n (i := 0) (v := qa 4095 l0) (dz dl_Law_law_3 37 295 (.aload_n 0) 1 rfl) rfl rfl trivial ?_
        refine wp_iload_n (i := 3) (x := l3) (dz dl_Law_law_3 38 296 (.iload_n 3) 1 rfl) rfl rfl ?_
        refine wp_iconst (dz dl_Law_law_3 39 297 (.iconst (2)) 1 rfl) (v := (2 : Int32)) (by decide) ?_
        refine wp_iadd (dz dl_Law_law_4 0 298 (.iadd) 1 rfl) ?_
        refine wp_sald (dz dl_Law_law_4 1 299 (.iaload) 1 rfl) i9 ?_
        refine wp_aload_n (i := 0) (v := qa 4095 l0) (dz dl_Law_law_4 2 300 (.aload_n 0) 1 rfl) rfl rfl trivial ?_
        refine wp_iload_n (i := 3) (x := l3) (dz dl_Law_law_4 3 301 (.iload_n 3) 1 rfl) rfl rfl ?_
        refine wp_iconst (dz dl_Law_law_4 4 302 (.iconst (3)) 1 rfl) (v := (3 : Int32)) (by decide) ?_
        refine wp_iadd (dz dl_Law_law_4 5 303 (.iadd) 1 rfl) ?_
        refine wp_sald (dz dl_Law_law_4 6 304 (.iaload) 1 rfl) i10 ?_
        refine wp_if_eq (tgt := 312) (dz dl_Law_law_4 7 305 (.ifCond .eq (7)) 3 rfl) (by decide) (fun hc => ?_) (fun hc => ?_)
        · replace h := h.1 hc
          refine wp_iconst (dz dl_Law_law_4 10 312 (.iconst (0)) 1 rfl) (v := (0 : Int32)) (by decide) ?_
          obtain ⟨a13, e13, h⟩ := h
          refine wp_callV a13 0 [qi (X.2 (l3 + (1 : Int32)).toNatClampNeg), qi (X.2 (l3 + (2 : Int32)).toNatClampNeg), qi (0 : Int32)] [qi r12] (dz dl_Law_law_4 11 313 (.invokevirtual 45) 3 rfl) ok_Mod_turn lm_Law_45 (by decide) ws_Mod_turn wv_Mod_turn ⟨Nat.le_of_ble_eq_true rfl, Nat.le_of_ble_eq_true rfl⟩ pn_Mod_turn (Nat.le_of_ble_eq_true rfl) (Nat.le_of_ble_eq_true rfl) e13 (Or.inr rfl) (Nat.zero_le _) (mt_mono h ?_)
          rintro _ g13 ⟨r13, rfl, h⟩ y13
          replace h := h y13.1 y13.2
          show nnWP _ _ _ _ _ [qi r13, qi r12] _ _
          refine wp_icmp_eq (tgt := 842) (dz dl_Law_law_4 12 316 (.if_icmp .eq (526)) 3 rfl) (by decide) (fun hc => ?_) (fun hc => ?_)
          · replace h := h.1 hc
            refine wp_iinc (i := 3) (v := l3 + 5) (dz dl_Law_law_15 2 842 (.iinc 3 (5)) 3 rfl) rfl (congrArg (fun z => l3 + z) (by decide)) [qa 4095 l0, qr 0 l1, qr 1 l2, qi (l3 + 5)] (by decide) rfl ?_
            refine wp_goto (tgt := 48) (dz dl_Law_law_15 3 845 (.goto (-797)) 3 rfl) (by decide) ?_
            exact wp_cut h ⟨Or.inr rfl, Or.inr rfl, Or.inr rfl, Or.inr rfl, trivial⟩
          · replace h := h.2 hc
            refine wp_iconst (dz dl_Law_law_4 13 319 (.iconst (0)) 1 rfl) (v := (0 : Int32)) (by decide) ?_
            exact wp_rt (qi _) (rt_Z rfl (Or.inl rfl) (dz dl_Law_law_4 14 320 (.ireturn) 1 rfl)) ⟨_, rfl, h⟩
        · replace h := h.2 hc
          refine wp_iconst (dz dl_Law_law_4 8 308 (.iconst (1)) 1 rfl) (v := (1 : Int32)) (by decide) ?_
          refine wp_goto (tgt := 313) (dz dl_Law_law_4 9 309 (.goto (4)) 3 rfl) (by decide) ?_
          obtain ⟨a14, e14, h⟩ := h
          refine wp_callV a14 0 [qi (X.2 (l3 + (1 : Int32)).toNatClampNeg), qi (X.2 (l3 + (2 : Int32)).toNatClampNeg), qi (1 : Int32)] [qi r12] (dz dl_Law_law_4 11 313 (.invokevirtual 45) 3 rfl) ok_Mod_turn lm_Law_45 (by decide) ws_Mod_turn wv_Mod_turn ⟨Nat.le_of_ble_eq_true rfl, Nat.le_of_ble_eq_true rfl⟩ pn_Mod_turn (Nat.le_of_ble_eq_true rfl) (Nat.le_of_ble_eq_true rfl) e14 (Or.inr rfl) (Nat.zero_le _) (mt_mono h ?_)
          rintro _ g14 ⟨r14, rfl, h⟩ y14
          replace h := h y14.1 y14.2
          show nnWP _ _ _ _ _ [qi r14, qi r12] _ _
          refine wp_icmp_eq (tgt := 842) (dz dl_Law_law_4 12 316 (.if_icmp .eq (526)) 3 rfl) (by decide) (fun hc => ?_) (fun hc => ?_)
          · replace h := h.1 hc
            refine wp_iinc (i := 3) (v := l3 + 5) (dz dl_Law_law_15 2 842 (.iinc 3 (5)) 3 rfl) rfl (congrArg (fun z => l3 + z) (by decide)) [qa 4095 l0, qr 0 l1, qr 1 l2, qi (l3 + 5)] (by decide) rfl ?_
            refine wp_goto (tgt := 48) (dz dl_Law_law_15 3 845 (.goto (-797)) 3 rfl) (by decide) ?_
            exact wp_cut h ⟨Or.inr rfl, Or.inr rfl, Or.inr rfl, Or.inr rfl, trivial⟩
          · replace h := h.2 hc
            refine wp_iconst (dz dl_Law_law_4 13 319 (.iconst (0)) 1 rfl) (v := (0 : Int32)) (by decide) ?_
            exact wp_rt (qi _) (rt_Z rfl (Or.inl rfl) (dz dl_Law_law_4 14 320 (.ireturn) 1 rfl)) ⟨_, rfl, h⟩
    replace h := h.2
    by_cases hc5 : ((X.2 l3.toNatClampNeg) &&& (31 : Int32)) = 5
    · replace h := h.1 hc5
      refine wp_tableInK 5 hc5 (dz dl_Law_law_0 39 62 (.tableswitch (780) (0) (17) #[(86), (111), (124), (147), (200), (259), (318), (371), (424), (457), (516), (529), (582), (605), (638), (681), (714), (747)]) 86 rfl) (by decide) (by decide) (259) (by decide) 321 (by decide) ?_
      refine wp_aload_n (i := 1) (v := qr 0 l1) (dz dl_Law_law_4 15 321 (.aload_n 1) 1 rfl) rfl rfl trivial ?_
      refine wp_aload_n (i := 0) (v := qa 4095 l0) (dz dl_Law_law_4 16 322 (.aload_n 0) 1 rfl) rfl rfl trivial ?_
      refine wp_iload_n (i := 3) (x := l3) (dz dl_Law_law_4 17 323 (.iload_n 3) 1 rfl) rfl rfl ?_
      refine wp_iconst (dz dl_Law_law_4 18 324 (.iconst (1)) 1 rfl) (v := (1 : Int32)) (by decide) ?_
      refine wp_iadd (dz dl_Law_law_4 19 325 (.iadd) 1 rfl) ?_
      obtain ⟨i11, h⟩ := h
      refine wp_sald (dz dl_Law_law_4 20 326 (.iaload) 1 rfl) i11 ?_
      refine wp_aload_n (i := 0) (v := qa 4095 l0) (dz dl_Law_law_4 21 327 (.aload_n 0) 1 rfl) rfl rfl trivial ?_
      refine wp_iload_n (i := 3) (x := l3) (dz dl_Law_law_4 22 328 (.iload_n 3) 1 rfl) rfl rfl ?_
      refine wp_iconst (dz dl_Law_law_4 23 329 (.iconst (2)) 1 rfl) (v := (2 : Int32)) (by decide) ?_
      refine wp_iadd (dz dl_Law_law_4 24 330 (.iadd) 1 rfl) ?_
      obtain ⟨i12, h⟩ := h
      refine wp_sald (dz dl_Law_law_4 25 331 (.iaload) 1 rfl) i12 ?_
      refine wp_aload_n (i := 0) (v := qa 4095 l0) (dz dl_Law_law_4 26 332 (.aload_n 0) 1 rfl) rfl rfl trivial ?_
      refine wp_iload_n (i := 3) (x := l3) (dz dl_Law_law_4 27 333 (.iload_n 3) 1 rfl) rfl rfl ?_
      refine wp_iconst (dz dl_Law_law_4 28 334 (.iconst (3)) 1 rfl) (v := (3 : Int32)) (by decide) ?_
      refine wp_iadd (dz dl_Law_law_4 29 335 (.iadd) 1 rfl) ?_
      obtain ⟨i13, h⟩ := h
      refine wp_sald (dz dl_Law_law_4 30 336 (.iaload) 1 rfl) i13 ?_
      refine wp_if_eq (tgt := 344) (dz dl_Law_law_4 31 337 (.ifCond .eq (7)) 3 rfl) (by decide) (fun hc => ?_) (fun hc => ?_)
      · replace h := h.1 hc
        refine wp_iconst (dz dl_Law_law_4 34 344 (.iconst (0)) 1 rfl) (v := (0 : Int32)) (by decide) ?_
        obtain ⟨u1, h⟩ := h
        obtain ⟨a15, e15, h⟩ := h
        refine wp_callV a15 3 [qi (X.2 (l3 + (1 : Int32)).toNatClampNeg), qi (X.2 (l3 + (2 : Int32)).toNatClampNeg), qi (0 : Int32)] [] (dz dl_Law_law_4 35 345 (.invokevirtual 46) 3 rfl) ok_Net_announce lm_Law_46 (by decide) ws_Net_announce wv_Net_announce ⟨Nat.le_of_ble_eq_true rfl, Nat.le_of_ble_eq_true rfl⟩ pn_Net_announce (Nat.le_of_ble_eq_true rfl) (Nat.le_of_ble_eq_true rfl) e15 (Or.inr rfl) u1 (mt_mono h ?_)
        rintro _ g15 ⟨r15, rfl, h⟩ y15
        replace h := h y15.1 y15.2
        show nnWP _ _ _ _ _ [qi r15] _ _
        refine wp_aload_n (i := 2) (v := qr 1 l2) (dz dl_Law_law_4 36 348 (.aload_n 2) 1 rfl) rfl rfl trivial ?_
        refine wp_aload_n (i := 0) (v := qa 4095 l0) (dz dl_Law_law_4 37 349 (.aload_n 0) 1 rfl) rfl rfl trivial ?_
        refine wp_iload_n (i := 3) (x := l3) (dz dl_Law_law_4 38 350 (.iload_n 3) 1 rfl) rfl rfl ?_
        refine wp_iconst (dz dl_Law_law_4 39 351 (.iconst (1)) 1 rfl) (v := (1 : Int32)) (by decide) ?_
        refine wp_iadd (dz dl_Law_law_5 0 352 (.iadd) 1 rfl) ?_
        refine wp_sald (dz dl_Law_law_5 1 353 (.iaload) 1 rfl) i11 ?_
        refine wp_aload_n (i := 0) (v := qa 4095 l0) (dz dl_Law_law_5 2 354 (.aload_n 0) 1 rfl) rfl rfl trivial ?_
        refine wp_iload_n (i := 3) (x := l3) (dz dl_Law_law_5 3 355 (.iload_n 3) 1 rfl) rfl rfl ?_
        refine wp_iconst (dz dl_Law_law_5 4 356 (.iconst (2)) 1 rfl) (v := (2 : Int32)) (by decide) ?_
        refine wp_iadd (dz dl_Law_law_5 5 357 (.iadd) 1 rfl) ?_
        refine wp_sald (dz dl_Law_law_5 6 358 (.iaload) 1 rfl) i12 ?_
        refine wp_aload_n (i := 0) (v := qa 4095 l0) (dz dl_Law_law_5 7 359 (.aload_n 0) 1 rfl) rfl rfl trivial ?_
        refine wp_iload_n (i := 3) (x := l3) (dz dl_Law_law_5 8 360 (.iload_n 3) 1 rfl) rfl rfl ?_
        refine wp_iconst (dz dl_Law_law_5 9 361 (.iconst (3)) 1 rfl) (v := (3 : Int32)) (by decide) ?_
        refine wp_iadd (dz dl_Law_law_5 10 362 (.iadd) 1 rfl) ?_
        refine wp_sald (dz dl_Law_law_5 11 363 (.iaload) 1 rfl) i13 ?_
        refine wp_if_eq (tgt := 371) (dz dl_Law_law_5 12 364 (.ifCond .eq (7)) 3 rfl) (by decide) (fun hc => ?_) (fun hc => ?_)
        · replace h := h.1 hc
          refine wp_iconst (dz dl_Law_law_5 15 371 (.iconst (0)) 1 rfl) (v := (0 : Int32)) (by decide) ?_
          obtain ⟨a16, e16, h⟩ := h
          refine wp_callV a16 0 [qi (X.2 (l3 + (1 : Int32)).toNatClampNeg), qi (X.2 (l3 + (2 : Int32)).toNatClampNeg), qi (0 : Int32)] [qi r15] (dz dl_Law_law_5 16 372 (.invokevirtual 50) 3 rfl) ok_Mod_announce lm_Law_50 (by decide) ws_Mod_announce wv_Mod_announce ⟨Nat.le_of_ble_eq_true rfl, Nat.le_of_ble_eq_true rfl⟩ pn_Mod_announce (Nat.le_of_ble_eq_true rfl) (Nat.le_of_ble_eq_true rfl) e16 (Or.inr rfl) (Nat.zero_le _) (mt_mono h ?_)
          rintro _ g16 ⟨r16, rfl, h⟩ y16
          replace h := h y16.1 y16.2
          show nnWP _ _ _ _ _ [qi r16, qi r15] _ _
          refine wp_icmp_eq (tgt := 842) (dz dl_Law_law_5 17 375 (.if_icmp .eq (467)) 3 rfl) (by decide) (fun hc => ?_) (fun hc => ?_)
          · replace h := h.1 hc
            refine wp_iinc (i := 3) (v := l3 + 5) (dz dl_Law_law_15 2 842 (.iinc 3 (5)) 3 rfl) rfl (congrArg (fun z => l3 + z) (by decide)) [qa 4095 l0, qr 0 l1, qr 1 l2, qi (l3 + 5)] (by decide) rfl ?_
            refine wp_goto (tgt := 48) (dz dl_Law_law_15 3 845 (.goto (-797)) 3 rfl) (by decide) ?_
            exact wp_cut h ⟨Or.inr rfl, Or.inr rfl, Or.inr rfl, Or.inr rfl, trivial⟩
          · replace h := h.2 hc
            refine wp_iconst (dz dl_Law_law_5 18 378 (.iconst (0)) 1 rfl) (v := (0 : Int32)) (by decide) ?_
            exact wp_rt (qi _) (rt_Z rfl (Or.inl rfl) (dz dl_Law_law_5 19 379 (.ireturn) 1 rfl)) ⟨_, rfl, h⟩
        · replace h := h.2 hc
          refine wp_iconst (dz dl_Law_law_5 13 367 (.iconst (1)) 1 rfl) (v := (1 : Int32)) (by decide) ?_
          refine wp_goto (tgt := 372) (dz dl_Law_law_5 14 368 (.goto (4)) 3 rfl) (by decide) ?_
          obtain ⟨a17, e17, h⟩ := h
          refine wp_callV a17 0 [qi (X.2 (l3 + (1 : Int32)).toNatClampNeg), qi (X.2 (l3 + (2 : Int32)).toNatClampNeg), qi (1 : Int32)] [qi r15] (dz dl_Law_law_5 16 372 (.invokevirtual 50) 3 rfl) ok_Mod_announce lm_Law_50 (by decide) ws_Mod_announce wv_Mod_announce ⟨Nat.le_of_ble_eq_true rfl, Nat.le_of_ble_eq_true rfl⟩ pn_Mod_announce (Nat.le_of_ble_eq_true rfl) (Nat.le_of_ble_eq_true rfl) e17 (Or.inr rfl) (Nat.zero_le _) (mt_mono h ?_)
          rintro _ g17 ⟨r17, rfl, h⟩ y17
          replace h := h y17.1 y17.2
          show nnWP _ _ _ _ _ [qi r17, qi r15] _ _
          refine wp_icmp_eq (tgt := 842) (dz dl_Law_law_5 17 375 (.if_icmp .eq (467)) 3 rfl) (by decide) (fun hc => ?_) (fun hc => ?_)
          · replace h := h.1 hc
            refine wp_iinc (i := 3) (v := l3 + 5) (dz dl_Law_law_15 2 842 (.iinc 3 (5)) 3 rfl) rfl (congrArg (fun z => l3 + z) (by decide)) [qa 4095 l0, qr 0 l1, qr 1 l2, qi (l3 + 5)] (by decide) rfl ?_
            refine wp_goto (tgt := 48) (dz dl_Law_law_15 3 845 (.goto (-797)) 3 rfl) (by decide) ?_
            exact wp_cut h ⟨Or.inr rfl, Or.inr rfl, Or.inr rfl, Or.inr rfl, trivial⟩
          · replace h := h.2 hc
            refine wp_iconst (dz dl_Law_law_5 18 378 (.iconst (0)) 1 rfl) (v := (0 : Int32)) (by decide) ?_
            exact wp_rt (qi _) (rt_Z rfl (Or.inl rfl) (dz dl_Law_law_5 19 379 (.ireturn) 1 rfl)) ⟨_, rfl, h⟩
      · replace h := h.2 hc
        refine wp_iconst (dz dl_Law_law_4 32 340 (.iconst (1)) 1 rfl) (v := (1 : Int32)) (by decide) ?_
        refine wp_goto (tgt := 345) (dz dl_Law_law_4 33 341 (.goto (4)) 3 rfl) (by decide) ?_
        obtain ⟨u2, h⟩ := h
        obtain ⟨a18, e18, h⟩ := h
        refine wp_callV a18 3 [qi (X.2 (l3 + (1 : Int32)).toNatClampNeg), qi (X.2 (l3 + (2 : Int32)).toNatClampNeg), qi (1 : Int32)] [] (dz dl_Law_law_4 35 345 (.invokevirtual 46) 3 rfl) ok_Net_announce lm_Law_46 (by decide) ws_Net_announce wv_Net_announce ⟨Nat.le_of_ble_eq_true rfl, Nat.le_of_ble_eq_true rfl⟩ pn_Net_announce (Nat.le_of_ble_eq_true rfl) (Nat.le_of_ble_eq_true rfl) e18 (Or.inr rfl) u2 (mt_mono h ?_)
        rintro _ g18 ⟨r18, rfl, h⟩ y18
        replace h := h y18.1 y18.2
        show nnWP _ _ _ _ _ [qi r18] _ _
        refine wp_aload_n (i := 2) (v := qr 1 l2) (dz dl_Law_law_4 36 348 (.aload_n 2) 1 rfl) rfl rfl trivial ?_
        refine wp_aload_n (i := 0) (v := qa 4095 l0) (dz dl_Law_law_4 37 349 (.aload_n 0) 1 rfl) rfl rfl trivial ?_
        refine wp_iload_n (i := 3) (x := l3) (dz dl_Law_law_4 38 350 (.iload_n 3) 1 rfl) rfl rfl ?_
        refine wp_iconst (dz dl_Law_law_4 39 351 (.iconst (1)) 1 rfl) (v := (1 : Int32)) (by decide) ?_
        refine wp_iadd (dz dl_Law_law_5 0 352 (.iadd) 1 rfl) ?_
        refine wp_sald (dz dl_Law_law_5 1 353 (.iaload) 1 rfl) i11 ?_
        refine wp_aload_n (i := 0) (v := qa 4095 l0) (dz dl_Law_law_5 2 354 (.aload_n 0) 1 rfl) rfl rfl trivial ?_
        refine wp_iload_n (i := 3) (x := l3) (dz dl_Law_law_5 3 355 (.iload_n 3) 1 rfl) rfl rfl ?_
        refine wp_iconst (dz dl_Law_law_5 4 356 (.iconst (2)) 1 rfl) (v := (2 : Int32)) (by decide) ?_
        refine wp_iadd (dz dl_Law_law_5 5 357 (.iadd) 1 rfl) ?_
        refine wp_sald (dz dl_Law_law_5 6 358 (.iaload) 1 rfl) i12 ?_
        refine wp_aload_n (i := 0) (v := qa 4095 l0) (dz dl_Law_law_5 7 359 (.aload_n 0) 1 rfl) rfl rfl trivial ?_
        refine wp_iload_n (i := 3) (x := l3) (dz dl_Law_law_5 8 360 (.iload_n 3) 1 rfl) rfl rfl ?_
        refine wp_iconst (dz dl_Law_law_5 9 361 (.iconst (3)) 1 rfl) (v := (3 : Int32)) (by decide) ?_
        refine wp_iadd (dz dl_Law_law_5 10 362 (.iadd) 1 rfl) ?_
        refine wp_sald (dz dl_Law_law_5 11 363 (.iaload) 1 rfl) i13 ?_
        refine wp_if_eq (tgt := 371) (dz dl_Law_law_5 12 364 (.ifCond .eq (7)) 3 rfl) (by decide) (fun hc => ?_) (fun hc => ?_)
        · replace h := h.1 hc
          refine wp_iconst (dz dl_Law_law_5 15 371 (.iconst (0)) 1 rfl) (v := (0 : Int32)) (by decide) ?_
          obtain ⟨a19, e19, h⟩ := h
          refine wp_callV a19 0 [qi (X.2 (l3 + (1 : Int32)).toNatClampNeg), qi (X.2 (l3 + (2 : Int32)).toNatClampNeg), qi (0 : Int32)] [qi r18] (dz dl_Law_law_5 16 372 (.invokevirtual 50) 3 rfl) ok_Mod_announce lm_Law_50 (by decide) ws_Mod_announce wv_Mod_announce ⟨Nat.le_of_ble_eq_true rfl, Nat.le_of_ble_eq_true rfl⟩ pn_Mod_announce (Nat.le_of_ble_eq_true rfl) (Nat.le_of_ble_eq_true rfl) e19 (Or.inr rfl) (Nat.zero_le _) (mt_mono h ?_)
          rintro _ g19 ⟨r19, rfl, h⟩ y19
          replace h := h y19.1 y19.2
          show nnWP _ _ _ _ _ [qi r19, qi r18] _ _
          refine wp_icmp_eq (tgt := 842) (dz dl_Law_law_5 17 375 (.if_icmp .eq (467)) 3 rfl) (by decide) (fun hc => ?_) (fun hc => ?_)
          · replace h := h.1 hc
            refine wp_iinc (i := 3) (v := l3 + 5) (dz dl_Law_law_15 2 842 (.iinc 3 (5)) 3 rfl) rfl (congrArg (fun z => l3 + z) (by decide)) [qa 4095 l0, qr 0 l1, qr 1 l2, qi (l3 + 5)] (by decide) rfl ?_
            refine wp_goto (tgt := 48) (dz dl_Law_law_15 3 845 (.goto (-797)) 3 rfl) (by decide) ?_
            exact wp_cut h ⟨Or.inr rfl, Or.inr rfl, Or.inr rfl, Or.inr rfl, trivial⟩
          · replace h := h.2 hc
            refine wp_iconst (dz dl_Law_law_5 18 378 (.iconst (0)) 1 rfl) (v := (0 : Int32)) (by decide) ?_
            exact wp_rt (qi _) (rt_Z rfl (Or.inl rfl) (dz dl_Law_law_5 19 379 (.ireturn) 1 rfl)) ⟨_, rfl, h⟩
        · replace h := h.2 hc
          refine wp_iconst (dz dl_Law_law_5 13 367 (.iconst (1)) 1 rfl) (v := (1 : Int32)) (by decide) ?_
          refine wp_goto (tgt := 372) (dz dl_Law_law_5 14 368 (.goto (4)) 3 rfl) (by decide) ?_
          obtain ⟨a20, e20, h⟩ := h
          refine wp_callV a20 0 [qi (X.2 (l3 + (1 : Int32)).toNatClampNeg), qi (X.2 (l3 + (2 : Int32)).toNatClampNeg), qi (1 : Int32)] [qi r18] (dz dl_Law_law_5 16 372 (.invokevirtual 50) 3 rfl) ok_Mod_announce lm_Law_50 (by decide) ws_Mod_announce wv_Mod_announce ⟨Nat.le_of_ble_eq_true rfl, Nat.le_of_ble_eq_true rfl⟩ pn_Mod_announce (Nat.le_of_ble_eq_true rfl) (Nat.le_of_ble_eq_true rfl) e20 (Or.inr rfl) (Nat.zero_le _) (mt_mono h ?_)
          rintro _ g20 ⟨r20, rfl, h⟩ y20
          replace h := h y20.1 y20.2
          show nnWP _ _ _ _ _ [qi r20, qi r18] _ _
          refine wp_icmp_eq (tgt := 842) (dz dl_Law_law_5 17 375 (.if_icmp .eq (467)) 3 rfl) (by decide) (fun hc => ?_) (fun hc => ?_)
          · replace h := h.1 hc
            refine wp_iinc (i := 3) (v := l3 + 5) (dz dl_Law_law_15 2 842 (.iinc 3 (5)) 3 rfl) rfl (congrArg (fun z => l3 + z) (by decide)) [qa 4095 l0, qr 0 l1, qr 1 l2, qi (l3 + 5)] (by decide) rfl ?_
            refine wp_goto (tgt := 48) (dz dl_Law_law_15 3 845 (.goto (-797)) 3 rfl) (by decide) ?_
            exact wp_cut h ⟨Or.inr rfl, Or.inr rfl, Or.inr rfl, Or.inr rfl, trivial⟩
          · replace h := h.2 hc
            refine wp_iconst (dz dl_Law_law_5 18 378 (.iconst (0)) 1 rfl) (v := (0 : Int32)) (by decide) ?_
            exact wp_rt (qi _) (rt_Z rfl (Or.inl rfl) (dz dl_Law_law_5 19 379 (.ireturn) 1 rfl)) ⟨_, rfl, h⟩
    replace h := h.2
    by_cases hc6 : ((X.2 l3.toNatClampNeg) &&& (31 : Int32)) = 6
    · replace h := h.1 hc6
      refine wp_tableInK 6 hc6 (dz dl_Law_law_0 39 62 (.tableswitch (780) (0) (17) #[(86), (111), (124), (147), (200), (259), (318), (371), (424), (457), (516), (529), (582), (605), (638), (681), (714), (747)]) 86 rfl) (by decide) (by decide) (318) (by decide) 380 (by decide) ?_
      refine wp_aload_n (i := 1) (v := qr 0 l1) (dz dl_Law_law_5 20 380 (.aload_n 1) 1 rfl) rfl rfl trivial ?_
      refine wp_aload_n (i := 0) (v := qa 4095 l0) (dz dl_Law_law_5 21 381 (.aload_n 0) 1 rfl) rfl rfl trivial ?_
      refine wp_iload_n (i := 3) (x := l3) (dz dl_Law_law_5 22 382 (.iload_n 3) 1 rfl) rfl rfl ?_
      refine wp_iconst (dz dl_Law_law_5 23 383 (.iconst (1)) 1 rfl) (v := (1 : Int32)) (by decide) ?_
      refine wp_iadd (dz dl_Law_law_5 24 384 (.iadd) 1 rfl) ?_
      obtain ⟨i14, h⟩ := h
      refine wp_sald (dz dl_Law_law_5 25 385 (.iaload) 1 rfl) i14 ?_
      refine wp_aload_n (i := 0) (v := qa 4095 l0) (dz dl_Law_law_5 26 386 (.aload_n 0) 1 rfl) rfl rfl trivial ?_
      refine wp_iload_n (i := 3) (x := l3) (dz dl_Law_law_5 27 387 (.iload_n 3) 1 rfl) rfl rfl ?_
      refine wp_iconst (dz dl_Law_law_5 28 388 (.iconst (2)) 1 rfl) (v := (2 : Int32)) (by decide) ?_
      refine wp_iadd (dz dl_Law_law_5 29 389 (.iadd) 1 rfl) ?_
      obtain ⟨i15, h⟩ := h
      refine wp_sald (dz dl_Law_law_5 30 390 (.iaload) 1 rfl) i15 ?_
      refine wp_aload_n (i := 0) (v := qa 4095 l0) (dz dl_Law_law_5 31 391 (.aload_n 0) 1 rfl) rfl rfl trivial ?_
      refine wp_iload_n (i := 3) (x := l3) (dz dl_Law_law_5 32 392 (.iload_n 3) 1 rfl) rfl rfl ?_
      refine wp_iconst (dz dl_Law_law_5 33 393 (.iconst (3)) 1 rfl) (v := (3 : Int32)) (by decide) ?_
      refine wp_iadd (dz dl_Law_law_5 34 394 (.iadd) 1 rfl) ?_
      obtain ⟨i16, h⟩ := h
      refine wp_sald (dz dl_Law_law_5 35 395 (.iaload) 1 rfl) i16 ?_
      refine wp_aload_n (i := 0) (v := qa 4095 l0) (dz dl_Law_law_5 36 396 (.aload_n 0) 1 rfl) rfl rfl trivial ?_
      refine wp_iload_n (i := 3) (x := l3) (dz dl_Law_law_5 37 397 (.iload_n 3) 1 rfl) rfl rfl ?_
      refine wp_iconst (dz dl_Law_law_5 38 398 (.iconst (4)) 1 rfl) (v := (4 : Int32)) (by decide) ?_
      refine wp_iadd (dz dl_Law_law_5 39 399 (.iadd) 1 rfl) ?_
      obtain ⟨i17, h⟩ := h
      refine wp_sald (dz dl_Law_law_6 0 400 (.iaload) 1 rfl) i17 ?_
      obtain ⟨u3, h⟩ := h
      obtain ⟨a21, e21, h⟩ := h
      refine wp_callV a21 1 [qi (X.2 (l3 + (1 : Int32)).toNatClampNeg), qi (X.2 (l3 + (2 : Int32)).toNatClampNeg), qi (X.2 (l3 + (3 : Int32)).toNatClampNeg), qi (X.2 (l3 + (4 : Int32)).toNatClampNeg)] [] (dz dl_Law_law_6 1 401 (.invokevirtual 51) 3 rfl) ok_Net_publish lm_Law_51 (by decide) ws_Net_publish wv_Net_publish ⟨Nat.le_of_ble_eq_true rfl, Nat.le_of_ble_eq_true rfl⟩ pn_Net_publish (Nat.le_of_ble_eq_true rfl) (Nat.le_of_ble_eq_true rfl) e21 (Or.inr rfl) u3 (mt_mono h ?_)
      rintro _ g21 ⟨r21, rfl, h⟩ y21
      replace h := h y21.1 y21.2
      show nnWP _ _ _ _ _ [qi r21] _ _
      refine wp_aload_n (i := 2) (v := qr 1 l2) (dz dl_Law_law_6 2 404 (.aload_n 2) 1 rfl) rfl rfl trivial ?_
      refine wp_aload_n (i := 0) (v := qa 4095 l0) (dz dl_Law_law_6 3 405 (.aload_n 0) 1 rfl) rfl rfl trivial ?_
      refine wp_iload_n (i := 3) (x := l3) (dz dl_Law_law_6 4 406 (.iload_n 3) 1 rfl) rfl rfl ?_
      refine wp_iconst (dz dl_Law_law_6 5 407 (.iconst (1)) 1 rfl) (v := (1 : Int32)) (by decide) ?_
      refine wp_iadd (dz dl_Law_law_6 6 408 (.iadd) 1 rfl) ?_
      refine wp_sald (dz dl_Law_law_6 7 409 (.iaload) 1 rfl) i14 ?_
      refine wp_aload_n (i := 0) (v := qa 4095 l0) (dz dl_Law_law_6 8 410 (.aload_n 0) 1 rfl) rfl rfl trivial ?_
      refine wp_iload_n (i := 3) (x := l3) (dz dl_Law_law_6 9 411 (.iload_n 3) 1 rfl) rfl rfl ?_
      refine wp_iconst (dz dl_Law_law_6 10 412 (.iconst (2)) 1 rfl) (v := (2 : Int32)) (by decide) ?_
      refine wp_iadd (dz dl_Law_law_6 11 413 (.iadd) 1 rfl) ?_
      refine wp_sald (dz dl_Law_law_6 12 414 (.iaload) 1 rfl) i15 ?_
      refine wp_aload_n (i := 0) (v := qa 4095 l0) (dz dl_Law_law_6 13 415 (.aload_n 0) 1 rfl) rfl rfl trivial ?_
      refine wp_iload_n (i := 3) (x := l3) (dz dl_Law_law_6 14 416 (.iload_n 3) 1 rfl) rfl rfl ?_
      refine wp_iconst (dz dl_Law_law_6 15 417 (.iconst (3)) 1 rfl) (v := (3 : Int32)) (by decide) ?_
      refine wp_iadd (dz dl_Law_law_6 16 418 (.iadd) 1 rfl) ?_
      refine wp_sald (dz dl_Law_law_6 17 419 (.iaload) 1 rfl) i16 ?_
      refine wp_aload_n (i := 0) (v := qa 4095 l0) (dz dl_Law_law_6 18 420 (.aload_n 0) 1 rfl) rfl rfl trivial ?_
      refine wp_iload_n (i := 3) (x := l3) (dz dl_Law_law_6 19 421 (.iload_n 3) 1 rfl) rfl rfl ?_
      refine wp_iconst (dz dl_Law_law_6 20 422 (.iconst (4)) 1 rfl) (v := (4 : Int32)) (by decide) ?_
      refine wp_iadd (dz dl_Law_law_6 21 423 (.iadd) 1 rfl) ?_
      refine wp_sald (dz dl_Law_law_6 22 424 (.iaload) 1 rfl) i17 ?_
      obtain ⟨a22, e22, h⟩ := h
      refine wp_callV a22 0 [qi (X.2 (l3 + (1 : Int32)).toNatClampNeg), qi (X.2 (l3 + (2 : Int32)).toNatClampNeg), qi (X.2 (l3 + (3 : Int32)).toNatClampNeg), qi (X.2 (l3 + (4 : Int32)).toNatClampNeg)] [qi r21] (dz dl_Law_law_6 23 425 (.invokevirtual 54) 3 rfl) ok_Mod_publish lm_Law_54 (by decide) ws_Mod_publish wv_Mod_publish ⟨Nat.le_of_ble_eq_true rfl, Nat.le_of_ble_eq_true rfl⟩ pn_Mod_publish (Nat.le_of_ble_eq_true rfl) (Nat.le_of_ble_eq_true rfl) e22 (Or.inr rfl) (Nat.zero_le _) (mt_mono h ?_)
      rintro _ g22 ⟨r22, rfl, h⟩ y22
      replace h := h y22.1 y22.2
      show nnWP _ _ _ _ _ [qi r22, qi r21] _ _
      refine wp_icmp_eq (tgt := 842) (dz dl_Law_law_6 24 428 (.if_icmp .eq (414)) 3 rfl) (by decide) (fun hc => ?_) (fun hc => ?_)
      · replace h := h.1 hc
        refine wp_iinc (i := 3) (v := l3 + 5) (dz dl_Law_law_15 2 842 (.iinc 3 (5)) 3 rfl) rfl (congrArg (fun z => l3 + z) (by decide)) [qa 4095 l0, qr 0 l1, qr 1 l2, qi (l3 + 5)] (by decide) rfl ?_
        refine wp_goto (tgt := 48) (dz dl_Law_law_15 3 845 (.goto (-797)) 3 rfl) (by decide) ?_
        exact wp_cut h ⟨Or.inr rfl, Or.inr rfl, Or.inr rfl, Or.inr rfl, trivial⟩
      · replace h := h.2 hc
        refine wp_iconst (dz dl_Law_law_6 25 431 (.iconst (0)) 1 rfl) (v := (0 : Int32)) (by decide) ?_
        exact wp_rt (qi _) (rt_Z rfl (Or.inl rfl) (dz dl_Law_law_6 26 432 (.ireturn) 1 rfl)) ⟨_, rfl, h⟩
    replace h := h.2
    by_cases hc7 : ((X.2 l3.toNatClampNeg) &&& (31 : Int32)) = 7
    · replace h := h.1 hc7
      refine wp_tableInK 7 hc7 (dz dl_Law_law_0 39 62 (.tableswitch (780) (0) (17) #[(86), (111), (124), (147), (200), (259), (318), (371), (424), (457), (516), (529), (582), (605), (638), (681), (714), (747)]) 86 rfl) (by decide) (by decide) (371) (by decide) 433 (by decide) ?_
      refine wp_aload_n (i := 1) (v := qr 0 l1) (dz dl_Law_law_6 27 433 (.aload_n 1) 1 rfl) rfl rfl trivial ?_
      refine wp_aload_n (i := 0) (v := qa 4095 l0) (dz dl_Law_law_6 28 434 (.aload_n 0) 1 rfl) rfl rfl trivial ?_
      refine wp_iload_n (i := 3) (x := l3) (dz dl_Law_law_6 29 435 (.iload_n 3) 1 rfl) rfl rfl ?_
      refine wp_iconst (dz dl_Law_law_6 30 436 (.iconst (1)) 1 rfl) (v := (1 : Int32)) (by decide) ?_
      refine wp_iadd (dz dl_Law_law_6 31 437 (.iadd) 1 rfl) ?_
      obtain ⟨i18, h⟩ := h
      refine wp_sald (dz dl_Law_law_6 32 438 (.iaload) 1 rfl) i18 ?_
      refine wp_aload_n (i := 0) (v := qa 4095 l0) (dz dl_Law_law_6 33 439 (.aload_n 0) 1 rfl) rfl rfl trivial ?_
      refine wp_iload_n (i := 3) (x := l3) (dz dl_Law_law_6 34 440 (.iload_n 3) 1 rfl) rfl rfl ?_
      refine wp_iconst (dz dl_Law_law_6 35 441 (.iconst (2)) 1 rfl) (v := (2 : Int32)) (by decide) ?_
      refine wp_iadd (dz dl_Law_law_6 36 442 (.iadd) 1 rfl) ?_
      obtain ⟨i19, h⟩ := h
      refine wp_sald (dz dl_Law_law_6 37 443 (.iaload) 1 rfl) i19 ?_
      refine wp_aload_n (i := 0) (v := qa 4095 l0) (dz dl_Law_law_6 38 444 (.aload_n 0) 1 rfl) rfl rfl trivial ?_
      refine wp_iload_n (i := 3) (x := l3) (dz dl_Law_law_6 39 445 (.iload_n 3) 1 rfl) rfl rfl ?_
      refine wp_iconst (dz dl_Law_law_7 0 446 (.iconst (3)) 1 rfl) (v := (3 : Int32)) (by decide) ?_
      refine wp_iadd (dz dl_Law_law_7 1 447 (.iadd) 1 rfl) ?_
      obtain ⟨i20, h⟩ := h
      refine wp_sald (dz dl_Law_law_7 2 448 (.iaload) 1 rfl) i20 ?_
      refine wp_aload_n (i := 0) (v := qa 4095 l0) (dz dl_Law_law_7 3 449 (.aload_n 0) 1 rfl) rfl rfl trivial ?_
      refine wp_iload_n (i := 3) (x := l3) (dz dl_Law_law_7 4 450 (.iload_n 3) 1 rfl) rfl rfl ?_
      refine wp_iconst (dz dl_Law_law_7 5 451 (.iconst (4)) 1 rfl) (v := (4 : Int32)) (by decide) ?_
      refine wp_iadd (dz dl_Law_law_7 6 452 (.iadd) 1 rfl) ?_
      obtain ⟨i21, h⟩ := h
      refine wp_sald (dz dl_Law_law_7 7 453 (.iaload) 1 rfl) i21 ?_
      obtain ⟨u4, h⟩ := h
      obtain ⟨a23, e23, h⟩ := h
      refine wp_callV a23 7 [qi (X.2 (l3 + (1 : Int32)).toNatClampNeg), qi (X.2 (l3 + (2 : Int32)).toNatClampNeg), qi (X.2 (l3 + (3 : Int32)).toNatClampNeg), qi (X.2 (l3 + (4 : Int32)).toNatClampNeg)] [] (dz dl_Law_law_7 8 454 (.invokevirtual 55) 3 rfl) ok_Net_ask lm_Law_55 (by decide) ws_Net_ask wv_Net_ask ⟨Nat.le_of_ble_eq_true rfl, Nat.le_of_ble_eq_true rfl⟩ pn_Net_ask (Nat.le_of_ble_eq_true rfl) (Nat.le_of_ble_eq_true rfl) e23 (Or.inr rfl) u4 (mt_mono h ?_)
      rintro _ g23 ⟨r23, rfl, h⟩ y23
      replace h := h y23.1 y23.2
      show nnWP _ _ _ _ _ [qi r23] _ _
      refine wp_aload_n (i := 2) (v := qr 1 l2) (dz dl_Law_law_7 9 457 (.aload_n 2) 1 rfl) rfl rfl trivial ?_
      refine wp_aload_n (i := 0) (v := qa 4095 l0) (dz dl_Law_law_7 10 458 (.aload_n 0) 1 rfl) rfl rfl trivial ?_
      refine wp_iload_n (i := 3) (x := l3) (dz dl_Law_law_7 11 459 (.iload_n 3) 1 rfl) rfl rfl ?_
      refine wp_iconst (dz dl_Law_law_7 12 460 (.iconst (1)) 1 rfl) (v := (1 : Int32)) (by decide) ?_
      refine wp_iadd (dz dl_Law_law_7 13 461 (.iadd) 1 rfl) ?_
      refine wp_sald (dz dl_Law_law_7 14 462 (.iaload) 1 rfl) i18 ?_
      refine wp_aload_n (i := 0) (v := qa 4095 l0) (dz dl_Law_law_7 15 463 (.aload_n 0) 1 rfl) rfl rfl trivial ?_
      refine wp_iload_n (i := 3) (x := l3) (dz dl_Law_law_7 16 464 (.iload_n 3) 1 rfl) rfl rfl ?_
      refine wp_iconst (dz dl_Law_law_7 17 465 (.iconst (2)) 1 rfl) (v := (2 : Int32)) (by decide) ?_
      refine wp_iadd (dz dl_Law_law_7 18 466 (.iadd) 1 rfl) ?_
      refine wp_sald (dz dl_Law_law_7 19 467 (.iaload) 1 rfl) i19 ?_
      refine wp_aload_n (i := 0) (v := qa 4095 l0) (dz dl_Law_law_7 20 468 (.aload_n 0) 1 rfl) rfl rfl trivial ?_
      refine wp_iload_n (i := 3) (x := l3) (dz dl_Law_law_7 21 469 (.iload_n 3) 1 rfl) rfl rfl ?_
      refine wp_iconst (dz dl_Law_law_7 22 470 (.iconst (3)) 1 rfl) (v := (3 : Int32)) (by decide) ?_
      refine wp_iadd (dz dl_Law_law_7 23 471 (.iadd) 1 rfl) ?_
      refine wp_sald (dz dl_Law_law_7 24 472 (.iaload) 1 rfl) i20 ?_
      refine wp_aload_n (i := 0) (v := qa 4095 l0) (dz dl_Law_law_7 25 473 (.aload_n 0) 1 rfl) rfl rfl trivial ?_
      refine wp_iload_n (i := 3) (x := l3) (dz dl_Law_law_7 26 474 (.iload_n 3) 1 rfl) rfl rfl ?_
      refine wp_iconst (dz dl_Law_law_7 27 475 (.iconst (4)) 1 rfl) (v := (4 : Int32)) (by decide) ?_
      refine wp_iadd (dz dl_Law_law_7 28 476 (.iadd) 1 rfl) ?_
      refine wp_sald (dz dl_Law_law_7 29 477 (.iaload) 1 rfl) i21 ?_
      obtain ⟨a24, e24, h⟩ := h
      refine wp_callV a24 0 [qi (X.2 (l3 + (1 : Int32)).toNatClampNeg), qi (X.2 (l3 + (2 : Int32)).toNatClampNeg), qi (X.2 (l3 + (3 : Int32)).toNatClampNeg), qi (X.2 (l3 + (4 : Int32)).toNatClampNeg)] [qi r23] (dz dl_Law_law_7 30 478 (.invokevirtual 59) 3 rfl) ok_Mod_ask lm_Law_59 (by decide) ws_Mod_ask wv_Mod_ask ⟨Nat.le_of_ble_eq_true rfl, Nat.le_of_ble_eq_true rfl⟩ pn_Mod_ask (Nat.le_of_ble_eq_true rfl) (Nat.le_of_ble_eq_true rfl) e24 (Or.inr rfl) (Nat.zero_le _) (mt_mono h ?_)
      rintro _ g24 ⟨r24, rfl, h⟩ y24
      replace h := h y24.1 y24.2
      show nnWP _ _ _ _ _ [qi r24, qi r23] _ _
      refine wp_icmp_eq (tgt := 842) (dz dl_Law_law_7 31 481 (.if_icmp .eq (361)) 3 rfl) (by decide) (fun hc => ?_) (fun hc => ?_)
      · replace h := h.1 hc
        refine wp_iinc (i := 3) (v := l3 + 5) (dz dl_Law_law_15 2 842 (.iinc 3 (5)) 3 rfl) rfl (congrArg (fun z => l3 + z) (by decide)) [qa 4095 l0, qr 0 l1, qr 1 l2, qi (l3 + 5)] (by decide) rfl ?_
        refine wp_goto (tgt := 48) (dz dl_Law_law_15 3 845 (.goto (-797)) 3 rfl) (by decide) ?_
        exact wp_cut h ⟨Or.inr rfl, Or.inr rfl, Or.inr rfl, Or.inr rfl, trivial⟩
      · replace h := h.2 hc
        refine wp_iconst (dz dl_Law_law_7 32 484 (.iconst (0)) 1 rfl) (v := (0 : Int32)) (by decide) ?_
        exact wp_rt (qi _) (rt_Z rfl (Or.inl rfl) (dz dl_Law_law_7 33 485 (.ireturn) 1 rfl)) ⟨_, rfl, h⟩
    replace h := h.2
    by_cases hc8 : ((X.2 l3.toNatClampNeg) &&& (31 : Int32)) = 8
    · replace h := h.1 hc8
      refine wp_tableInK 8 hc8 (dz dl_Law_law_0 39 62 (.tableswitch (780) (0) (17) #[(86), (111), (124), (147), (200), (259), (318), (371), (424), (457), (516), (529), (582), (605), (638), (681), (714), (747)]) 86 rfl) (by decide) (by decide) (424) (by decide) 486 (by decide) ?_
      refine wp_aload_n (i := 1) (v := qr 0 l1) (dz dl_Law_law_7 34 486 (.aload_n 1) 1 rfl) rfl rfl trivial ?_
      refine wp_aload_n (i := 0) (v := qa 4095 l0) (dz dl_Law_law_7 35 487 (.aload_n 0) 1 rfl) rfl rfl trivial ?_
      refine wp_iload_n (i := 3) (x := l3) (dz dl_Law_law_7 36 488 (.iload_n 3) 1 rfl) rfl rfl ?_
      refine wp_iconst (dz dl_Law_law_7 37 489 (.iconst (1)) 1 rfl) (v := (1 : Int32)) (by decide) ?_
      refine wp_iadd (dz dl_Law_law_7 38 490 (.iadd) 1 rfl) ?_
      obtain ⟨i22, h⟩ := h
      refine wp_sald (dz dl_Law_law_7 39 491 (.iaload) 1 rfl) i22 ?_
      refine wp_aload_n (i := 0) (v := qa 4095 l0) (dz dl_Law_law_8 0 492 (.aload_n 0) 1 rfl) rfl rfl trivial ?_
      refine wp_iload_n (i := 3) (x := l3) (dz dl_Law_law_8 1 493 (.iload_n 3) 1 rfl) rfl rfl ?_
      refine wp_iconst (dz dl_Law_law_8 2 494 (.iconst (2)) 1 rfl) (v := (2 : Int32)) (by decide) ?_
      refine wp_iadd (dz dl_Law_law_8 3 495 (.iadd) 1 rfl) ?_
      obtain ⟨i23, h⟩ := h
      refine wp_sald (dz dl_Law_law_8 4 496 (.iaload) 1 rfl) i23 ?_
      obtain ⟨u5, h⟩ := h
      obtain ⟨a25, e25, h⟩ := h
      refine wp_callV a25 5 [qi (X.2 (l3 + (1 : Int32)).toNatClampNeg), qi (X.2 (l3 + (2 : Int32)).toNatClampNeg)] [] (dz dl_Law_law_8 5 497 (.invokevirtual 60) 3 rfl) ok_Net_carry lm_Law_60 (by decide) ws_Net_carry wv_Net_carry ⟨Nat.le_of_ble_eq_true rfl, Nat.le_of_ble_eq_true rfl⟩ pn_Net_carry (Nat.le_of_ble_eq_true rfl) (Nat.le_of_ble_eq_true rfl) e25 (Or.inr rfl) u5 (mt_mono h ?_)
      rintro _ g25 ⟨r25, rfl, h⟩ y25
      replace h := h y25.1 y25.2
      show nnWP _ _ _ _ _ [qi r25] _ _
      refine wp_aload_n (i := 2) (v := qr 1 l2) (dz dl_Law_law_8 6 500 (.aload_n 2) 1 rfl) rfl rfl trivial ?_
      refine wp_aload_n (i := 0) (v := qa 4095 l0) (dz dl_Law_law_8 7 501 (.aload_n 0) 1 rfl) rfl rfl trivial ?_
      refine wp_iload_n (i := 3) (x := l3) (dz dl_Law_law_8 8 502 (.iload_n 3) 1 rfl) rfl rfl ?_
      refine wp_iconst (dz dl_Law_law_8 9 503 (.iconst (1)) 1 rfl) (v := (1 : Int32)) (by decide) ?_
      refine wp_iadd (dz dl_Law_law_8 10 504 (.iadd) 1 rfl) ?_
      refine wp_sald (dz dl_Law_law_8 11 505 (.iaload) 1 rfl) i22 ?_
      refine wp_aload_n (i := 0) (v := qa 4095 l0) (dz dl_Law_law_8 12 506 (.aload_n 0) 1 rfl) rfl rfl trivial ?_
      refine wp_iload_n (i := 3) (x := l3) (dz dl_Law_law_8 13 507 (.iload_n 3) 1 rfl) rfl rfl ?_
      refine wp_iconst (dz dl_Law_law_8 14 508 (.iconst (2)) 1 rfl) (v := (2 : Int32)) (by decide) ?_
      refine wp_iadd (dz dl_Law_law_8 15 509 (.iadd) 1 rfl) ?_
      refine wp_sald (dz dl_Law_law_8 16 510 (.iaload) 1 rfl) i23 ?_
      obtain ⟨a26, e26, h⟩ := h
      refine wp_callV a26 0 [qi (X.2 (l3 + (1 : Int32)).toNatClampNeg), qi (X.2 (l3 + (2 : Int32)).toNatClampNeg)] [qi r25] (dz dl_Law_law_8 17 511 (.invokevirtual 64) 3 rfl) ok_Mod_carry lm_Law_64 (by decide) ws_Mod_carry wv_Mod_carry ⟨Nat.le_of_ble_eq_true rfl, Nat.le_of_ble_eq_true rfl⟩ pn_Mod_carry (Nat.le_of_ble_eq_true rfl) (Nat.le_of_ble_eq_true rfl) e26 (Or.inr rfl) (Nat.zero_le _) (mt_mono h ?_)
      rintro _ g26 ⟨r26, rfl, h⟩ y26
      replace h := h y26.1 y26.2
      show nnWP _ _ _ _ _ [qi r26, qi r25] _ _
      refine wp_icmp_eq (tgt := 842) (dz dl_Law_law_8 18 514 (.if_icmp .eq (328)) 3 rfl) (by decide) (fun hc => ?_) (fun hc => ?_)
      · replace h := h.1 hc
        refine wp_iinc (i := 3) (v := l3 + 5) (dz dl_Law_law_15 2 842 (.iinc 3 (5)) 3 rfl) rfl (congrArg (fun z => l3 + z) (by decide)) [qa 4095 l0, qr 0 l1, qr 1 l2, qi (l3 + 5)] (by decide) rfl ?_
        refine wp_goto (tgt := 48) (dz dl_Law_law_15 3 845 (.goto (-797)) 3 rfl) (by decide) ?_
        exact wp_cut h ⟨Or.inr rfl, Or.inr rfl, Or.inr rfl, Or.inr rfl, trivial⟩
      · replace h := h.2 hc
        refine wp_iconst (dz dl_Law_law_8 19 517 (.iconst (0)) 1 rfl) (v := (0 : Int32)) (by decide) ?_
        exact wp_rt (qi _) (rt_Z rfl (Or.inl rfl) (dz dl_Law_law_8 20 518 (.ireturn) 1 rfl)) ⟨_, rfl, h⟩
    replace h := h.2
    by_cases hc9 : ((X.2 l3.toNatClampNeg) &&& (31 : Int32)) = 9
    · replace h := h.1 hc9
      refine wp_tableInK 9 hc9 (dz dl_Law_law_0 39 62 (.tableswitch (780) (0) (17) #[(86), (111), (124), (147), (200), (259), (318), (371), (424), (457), (516), (529), (582), (605), (638), (681), (714), (747)]) 86 rfl) (by decide) (by decide) (457) (by decide) 519 (by decide) ?_
      refine wp_aload_n (i := 1) (v := qr 0 l1) (dz dl_Law_law_8 21 519 (.aload_n 1) 1 rfl) rfl rfl trivial ?_
      refine wp_aload_n (i := 0) (v := qa 4095 l0) (dz dl_Law_law_8 22 520 (.aload_n 0) 1 rfl) rfl rfl trivial ?_
      refine wp_iload_n (i := 3) (x := l3) (dz dl_Law_law_8 23 521 (.iload_n 3) 1 rfl) rfl rfl ?_
      refine wp_iconst (dz dl_Law_law_8 24 522 (.iconst (1)) 1 rfl) (v := (1 : Int32)) (by decide) ?_
      refine wp_iadd (dz dl_Law_law_8 25 523 (.iadd) 1 rfl) ?_
      obtain ⟨i24, h⟩ := h
      refine wp_sald (dz dl_Law_law_8 26 524 (.iaload) 1 rfl) i24 ?_
      refine wp_aload_n (i := 0) (v := qa 4095 l0) (dz dl_Law_law_8 27 525 (.aload_n 0) 1 rfl) rfl rfl trivial ?_
      refine wp_iload_n (i := 3) (x := l3) (dz dl_Law_law_8 28 526 (.iload_n 3) 1 rfl) rfl rfl ?_
      refine wp_iconst (dz dl_Law_law_8 29 527 (.iconst (2)) 1 rfl) (v := (2 : Int32)) (by decide) ?_
      refine wp_iadd (dz dl_Law_law_8 30 528 (.iadd) 1 rfl) ?_
      obtain ⟨i25, h⟩ := h
      refine wp_sald (dz dl_Law_law_8 31 529 (.iaload) 1 rfl) i25 ?_
      refine wp_aload_n (i := 0) (v := qa 4095 l0) (dz dl_Law_law_8 32 530 (.aload_n 0) 1 rfl) rfl rfl trivial ?_
      refine wp_iload_n (i := 3) (x := l3) (dz dl_Law_law_8 33 531 (.iload_n 3) 1 rfl) rfl rfl ?_
      refine wp_iconst (dz dl_Law_law_8 34 532 (.iconst (3)) 1 rfl) (v := (3 : Int32)) (by decide) ?_
      refine wp_iadd (dz dl_Law_law_8 35 533 (.iadd) 1 rfl) ?_
      obtain ⟨i26, h⟩ := h
      refine wp_sald (dz dl_Law_law_8 36 534 (.iaload) 1 rfl) i26 ?_
      refine wp_if_eq (tgt := 542) (dz dl_Law_law_8 37 535 (.ifCond .eq (7)) 3 rfl) (by decide) (fun hc => ?_) (fun hc => ?_)
      · replace h := h.1 hc
        refine wp_iconst (dz dl_Law_law_9 0 542 (.iconst (0)) 1 rfl) (v := (0 : Int32)) (by decide) ?_
        obtain ⟨a27, e27, h⟩ := h
        refine wp_callV a27 0 [qi (X.2 (l3 + (1 : Int32)).toNatClampNeg), qi (X.2 (l3 + (2 : Int32)).toNatClampNeg), qi (0 : Int32)] [] (dz dl_Law_law_9 1 543 (.invokevirtual 65) 3 rfl) ok_Net_alter lm_Law_65 (by decide) ws_Net_alter wv_Net_alter ⟨Nat.le_of_ble_eq_true rfl, Nat.le_of_ble_eq_true rfl⟩ pn_Net_alter (Nat.le_of_ble_eq_true rfl) (Nat.le_of_ble_eq_true rfl) e27 (Or.inr rfl) (Nat.zero_le _) (mt_mono h ?_)
        rintro _ g27 ⟨r27, rfl, h⟩ y27
        replace h := h y27.1 y27.2
        show nnWP _ _ _ _ _ [qi r27] _ _
        refine wp_aload_n (i := 2) (v := qr 1 l2) (dz dl_Law_law_9 2 546 (.aload_n 2) 1 rfl) rfl rfl trivial ?_
        refine wp_aload_n (i := 0) (v := qa 4095 l0) (dz dl_Law_law_9 3 547 (.aload_n 0) 1 rfl) rfl rfl trivial ?_
        refine wp_iload_n (i := 3) (x := l3) (dz dl_Law_law_9 4 548 (.iload_n 3) 1 rfl) rfl rfl ?_
        refine wp_iconst (dz dl_Law_law_9 5 549 (.iconst (1)) 1 rfl) (v := (1 : Int32)) (by decide) ?_
        refine wp_iadd (dz dl_Law_law_9 6 550 (.iadd) 1 rfl) ?_
        refine wp_sald (dz dl_Law_law_9 7 551 (.iaload) 1 rfl) i24 ?_
        refine wp_aload_n (i := 0) (v := qa 4095 l0) (dz dl_Law_law_9 8 552 (.aload_n 0) 1 rfl) rfl rfl trivial ?_
        refine wp_iload_n (i := 3) (x := l3) (dz dl_Law_law_9 9 553 (.iload_n 3) 1 rfl) rfl rfl ?_
        refine wp_iconst (dz dl_Law_law_9 10 554 (.iconst (2)) 1 rfl) (v := (2 : Int32)) (by decide) ?_
        refine wp_iadd (dz dl_Law_law_9 11 555 (.iadd) 1 rfl) ?_
        refine wp_sald (dz dl_Law_law_9 12 556 (.iaload) 1 rfl) i25 ?_
        refine wp_aload_n (i := 0) (v := qa 4095 l0) (dz dl_Law_law_9 13 557 (.aload_n 0) 1 rfl) rfl rfl trivial ?_
        refine wp_iload_n (i := 3) (x := l3) (dz dl_Law_law_9 14 558 (.iload_n 3) 1 rfl) rfl rfl ?_
        refine wp_iconst (dz dl_Law_law_9 15 559 (.iconst (3)) 1 rfl) (v := (3 : Int32)) (by decide) ?_
        refine wp_iadd (dz dl_Law_law_9 16 560 (.iadd) 1 rfl) ?_
        refine wp_sald (dz dl_Law_law_9 17 561 (.iaload) 1 rfl) i26 ?_
        refine wp_if_eq (tgt := 569) (dz dl_Law_law_9 18 562 (.ifCond .eq (7)) 3 rfl) (by decide) (fun hc => ?_) (fun hc => ?_)
        · replace h := h.1 hc
          refine wp_iconst (dz dl_Law_law_9 21 569 (.iconst (0)) 1 rfl) (v := (0 : Int32)) (by decide) ?_
          obtain ⟨a28, e28, h⟩ := h
          refine wp_callV a28 0 [qi (X.2 (l3 + (1 : Int32)).toNatClampNeg), qi (X.2 (l3 + (2 : Int32)).toNatClampNeg), qi (0 : Int32)] [qi r27] (dz dl_Law_law_9 22 570 (.invokevirtual 68) 3 rfl) ok_Mod_alter lm_Law_68 (by decide) ws_Mod_alter wv_Mod_alter ⟨Nat.le_of_ble_eq_true rfl, Nat.le_of_ble_eq_true rfl⟩ pn_Mod_alter (Nat.le_of_ble_eq_true rfl) (Nat.le_of_ble_eq_true rfl) e28 (Or.inr rfl) (Nat.zero_le _) (mt_mono h ?_)
          rintro _ g28 ⟨r28, rfl, h⟩ y28
          replace h := h y28.1 y28.2
          show nnWP _ _ _ _ _ [qi r28, qi r27] _ _
          refine wp_icmp_eq (tgt := 842) (dz dl_Law_law_9 23 573 (.if_icmp .eq (269)) 3 rfl) (by decide) (fun hc => ?_) (fun hc => ?_)
          · replace h := h.1 hc
            refine wp_iinc (i := 3) (v := l3 + 5) (dz dl_Law_law_15 2 842 (.iinc 3 (5)) 3 rfl) rfl (congrArg (fun z => l3 + z) (by decide)) [qa 4095 l0, qr 0 l1, qr 1 l2, qi (l3 + 5)] (by decide) rfl ?_
            refine wp_goto (tgt := 48) (dz dl_Law_law_15 3 845 (.goto (-797)) 3 rfl) (by decide) ?_
            exact wp_cut h ⟨Or.inr rfl, Or.inr rfl, Or.inr rfl, Or.inr rfl, trivial⟩
          · replace h := h.2 hc
            refine wp_iconst (dz dl_Law_law_9 24 576 (.iconst (0)) 1 rfl) (v := (0 : Int32)) (by decide) ?_
            exact wp_rt (qi _) (rt_Z rfl (Or.inl rfl) (dz dl_Law_law_9 25 577 (.ireturn) 1 rfl)) ⟨_, rfl, h⟩
        · replace h := h.2 hc
          refine wp_iconst (dz dl_Law_law_9 19 565 (.iconst (1)) 1 rfl) (v := (1 : Int32)) (by decide) ?_
          refine wp_goto (tgt := 570) (dz dl_Law_law_9 20 566 (.goto (4)) 3 rfl) (by decide) ?_
          obtain ⟨a29, e29, h⟩ := h
          refine wp_callV a29 0 [qi (X.2 (l3 + (1 : Int32)).toNatClampNeg), qi (X.2 (l3 + (2 : Int32)).toNatClampNeg), qi (1 : Int32)] [qi r27] (dz dl_Law_law_9 22 570 (.invokevirtual 68) 3 rfl) ok_Mod_alter lm_Law_68 (by decide) ws_Mod_alter wv_Mod_alter ⟨Nat.le_of_ble_eq_true rfl, Nat.le_of_ble_eq_true rfl⟩ pn_Mod_alter (Nat.le_of_ble_eq_true rfl) (Nat.le_of_ble_eq_true rfl) e29 (Or.inr rfl) (Nat.zero_le _) (mt_mono h ?_)
          rintro _ g29 ⟨r29, rfl, h⟩ y29
          replace h := h y29.1 y29.2
          show nnWP _ _ _ _ _ [qi r29, qi r27] _ _
          refine wp_icmp_eq (tgt := 842) (dz dl_Law_law_9 23 573 (.if_icmp .eq (269)) 3 rfl) (by decide) (fun hc => ?_) (fun hc => ?_)
          · replace h := h.1 hc
            refine wp_iinc (i := 3) (v := l3 + 5) (dz dl_Law_law_15 2 842 (.iinc 3 (5)) 3 rfl) rfl (congrArg (fun z => l3 + z) (by decide)) [qa 4095 l0, qr 0 l1, qr 1 l2, qi (l3 + 5)] (by decide) rfl ?_
            refine wp_goto (tgt := 48) (dz dl_Law_law_15 3 845 (.goto (-797)) 3 rfl) (by decide) ?_
            exact wp_cut h ⟨Or.inr rfl, Or.inr rfl, Or.inr rfl, Or.inr rfl, trivial⟩
          · replace h := h.2 hc
            refine wp_iconst (dz dl_Law_law_9 24 576 (.iconst (0)) 1 rfl) (v := (0 : Int32)) (by decide) ?_
            exact wp_rt (qi _) (rt_Z rfl (Or.inl rfl) (dz dl_Law_law_9 25 577 (.ireturn) 1 rfl)) ⟨_, rfl, h⟩
      · replace h := h.2 hc
        refine wp_iconst (dz dl_Law_law_8 38 538 (.iconst (1)) 1 rfl) (v := (1 : Int32)) (by decide) ?_
        refine wp_goto (tgt := 543) (dz dl_Law_law_8 39 539 (.goto (4)) 3 rfl) (by decide) ?_
        obtain ⟨a30, e30, h⟩ := h
        refine wp_callV a30 0 [qi (X.2 (l3 + (1 : Int32)).toNatClampNeg), qi (X.2 (l3 + (2 : Int32)).toNatClampNeg), qi (1 : Int32)] [] (dz dl_Law_law_9 1 543 (.invokevirtual 65) 3 rfl) ok_Net_alter lm_Law_65 (by decide) ws_Net_alter wv_Net_alter ⟨Nat.le_of_ble_eq_true rfl, Nat.le_of_ble_eq_true rfl⟩ pn_Net_alter (Nat.le_of_ble_eq_true rfl) (Nat.le_of_ble_eq_true rfl) e30 (Or.inr rfl) (Nat.zero_le _) (mt_mono h ?_)
        rintro _ g30 ⟨r30, rfl, h⟩ y30
        replace h := h y30.1 y30.2
        show nnWP _ _ _ _ _ [qi r30] _ _
        refine wp_aload_n (i := 2) (v := qr 1 l2) (dz dl_Law_law_9 2 546 (.aload_n 2) 1 rfl) rfl rfl trivial ?_
        refine wp_aload_n (i := 0) (v := qa 4095 l0) (dz dl_Law_law_9 3 547 (.aload_n 0) 1 rfl) rfl rfl trivial ?_
        refine wp_iload_n (i := 3) (x := l3) (dz dl_Law_law_9 4 548 (.iload_n 3) 1 rfl) rfl rfl ?_
        refine wp_iconst (dz dl_Law_law_9 5 549 (.iconst (1)) 1 rfl) (v := (1 : Int32)) (by decide) ?_
        refine wp_iadd (dz dl_Law_law_9 6 550 (.iadd) 1 rfl) ?_
        refine wp_sald (dz dl_Law_law_9 7 551 (.iaload) 1 rfl) i24 ?_
        refine wp_aload_n (i := 0) (v := qa 4095 l0) (dz dl_Law_law_9 8 552 (.aload_n 0) 1 rfl) rfl rfl trivial ?_
        refine wp_iload_n (i := 3) (x := l3) (dz dl_Law_law_9 9 553 (.iload_n 3) 1 rfl) rfl rfl ?_
        refine wp_iconst (dz dl_Law_law_9 10 554 (.iconst (2)) 1 rfl) (v := (2 : Int32)) (by decide) ?_
        refine wp_iadd (dz dl_Law_law_9 11 555 (.iadd) 1 rfl) ?_
        refine wp_sald (dz dl_Law_law_9 12 556 (.iaload) 1 rfl) i25 ?_
        refine wp_aload_n (i := 0) (v := qa 4095 l0) (dz dl_Law_law_9 13 557 (.aload_n 0) 1 rfl) rfl rfl trivial ?_
        refine wp_iload_n (i := 3) (x := l3) (dz dl_Law_law_9 14 558 (.iload_n 3) 1 rfl) rfl rfl ?_
        refine wp_iconst (dz dl_Law_law_9 15 559 (.iconst (3)) 1 rfl) (v := (3 : Int32)) (by decide) ?_
        refine wp_iadd (dz dl_Law_law_9 16 560 (.iadd) 1 rfl) ?_
        refine wp_sald (dz dl_Law_law_9 17 561 (.iaload) 1 rfl) i26 ?_
        refine wp_if_eq (tgt := 569) (dz dl_Law_law_9 18 562 (.ifCond .eq (7)) 3 rfl) (by decide) (fun hc => ?_) (fun hc => ?_)
        · replace h := h.1 hc
          refine wp_iconst (dz dl_Law_law_9 21 569 (.iconst (0)) 1 rfl) (v := (0 : Int32)) (by decide) ?_
          obtain ⟨a31, e31, h⟩ := h
          refine wp_callV a31 0 [qi (X.2 (l3 + (1 : Int32)).toNatClampNeg), qi (X.2 (l3 + (2 : Int32)).toNatClampNeg), qi (0 : Int32)] [qi r30] (dz dl_Law_law_9 22 570 (.invokevirtual 68) 3 rfl) ok_Mod_alter lm_Law_68 (by decide) ws_Mod_alter wv_Mod_alter ⟨Nat.le_of_ble_eq_true rfl, Nat.le_of_ble_eq_true rfl⟩ pn_Mod_alter (Nat.le_of_ble_eq_true rfl) (Nat.le_of_ble_eq_true rfl) e31 (Or.inr rfl) (Nat.zero_le _) (mt_mono h ?_)
          rintro _ g31 ⟨r31, rfl, h⟩ y31
          replace h := h y31.1 y31.2
          show nnWP _ _ _ _ _ [qi r31, qi r30] _ _
          refine wp_icmp_eq (tgt := 842) (dz dl_Law_law_9 23 573 (.if_icmp .eq (269)) 3 rfl) (by decide) (fun hc => ?_) (fun hc => ?_)
          · replace h := h.1 hc
            refine wp_iinc (i := 3) (v := l3 + 5) (dz dl_Law_law_15 2 842 (.iinc 3 (5)) 3 rfl) rfl (congrArg (fun z => l3 + z) (by decide)) [qa 4095 l0, qr 0 l1, qr 1 l2, qi (l3 + 5)] (by decide) rfl ?_
            refine wp_goto (tgt := 48) (dz dl_Law_law_15 3 845 (.goto (-797)) 3 rfl) (by decide) ?_
            exact wp_cut h ⟨Or.inr rfl, Or.inr rfl, Or.inr rfl, Or.inr rfl, trivial⟩
          · replace h := h.2 hc
            refine wp_iconst (dz dl_Law_law_9 24 576 (.iconst (0)) 1 rfl) (v := (0 : Int32)) (by decide) ?_
            exact wp_rt (qi _) (rt_Z rfl (Or.inl rfl) (dz dl_Law_law_9 25 577 (.ireturn) 1 rfl)) ⟨_, rfl, h⟩
        · replace h := h.2 hc
          refine wp_iconst (dz dl_Law_law_9 19 565 (.iconst (1)) 1 rfl) (v := (1 : Int32)) (by decide) ?_
          refine wp_goto (tgt := 570) (dz dl_Law_law_9 20 566 (.goto (4)) 3 rfl) (by decide) ?_
          obtain ⟨a32, e32, h⟩ := h
          refine wp_callV a32 0 [qi (X.2 (l3 + (1 : Int32)).toNatClampNeg), qi (X.2 (l3 + (2 : Int32)).toNatClampNeg), qi (1 : Int32)] [qi r30] (dz dl_Law_law_9 22 570 (.invokevirtual 68) 3 rfl) ok_Mod_alter lm_Law_68 (by decide) ws_Mod_alter wv_Mod_alter ⟨Nat.le_of_ble_eq_true rfl, Nat.le_of_ble_eq_true rfl⟩ pn_Mod_alter (Nat.le_of_ble_eq_true rfl) (Nat.le_of_ble_eq_true rfl) e32 (Or.inr rfl) (Nat.zero_le _) (mt_mono h ?_)
          rintro _ g32 ⟨r32, rfl, h⟩ y32
          replace h := h y32.1 y32.2
          show nnWP _ _ _ _ _ [qi r32, qi r30] _ _
          refine wp_icmp_eq (tgt := 842) (dz dl_Law_law_9 23 573 (.if_icmp .eq (269)) 3 rfl) (by decide) (fun hc => ?_) (fun hc => ?_)
          · replace h := h.1 hc
            refine wp_iinc (i := 3) (v := l3 + 5) (dz dl_Law_law_15 2 842 (.iinc 3 (5)) 3 rfl) rfl (congrArg (fun z => l3 + z) (by decide)) [qa 4095 l0, qr 0 l1, qr 1 l2, qi (l3 + 5)] (by decide) rfl ?_
            refine wp_goto (tgt := 48) (dz dl_Law_law_15 3 845 (.goto (-797)) 3 rfl) (by decide) ?_
            exact wp_cut h ⟨Or.inr rfl, Or.inr rfl, Or.inr rfl, Or.inr rfl, trivial⟩
          · replace h := h.2 hc
            refine wp_iconst (dz dl_Law_law_9 24 576 (.iconst (0)) 1 rfl) (v := (0 : Int32)) (by decide) ?_
            exact wp_rt (qi _) (rt_Z rfl (Or.inl rfl) (dz dl_Law_law_9 25 577 (.ireturn) 1 rfl)) ⟨_, rfl, h⟩
    replace h := h.2
    by_cases hc10 : ((X.2 l3.toNatClampNeg) &&& (31 : Int32)) = 10
    · replace h := h.1 hc10
      refine wp_tableInK 10 hc10 (dz dl_Law_law_0 39 62 (.tableswitch (780) (0) (17) #[(86), (111), (124), (147), (200), (259), (318), (371), (424), (457), (516), (529), (582), (605), (638), (681), (714), (747)]) 86 rfl) (by decide) (by decide) (516) (by decide) 578 (by decide) ?_
      refine wp_aload_n (i := 1) (v := qr 0 l1) (dz dl_Law_law_9 26 578 (.aload_n 1) 1 rfl) rfl rfl trivial ?_
      obtain ⟨a33, e33, h⟩ := h
      refine wp_callV a33 0 [] [] (dz dl_Law_law_9 27 579 (.invokevirtual 69) 3 rfl) ok_Net_tick lm_Law_69 (by decide) ws_Net_tick wv_Net_tick ⟨Nat.le_of_ble_eq_true rfl, Nat.le_of_ble_eq_true rfl⟩ pn_Net_tick (Nat.le_of_ble_eq_true rfl) (Nat.le_of_ble_eq_true rfl) e33 (Or.inr rfl) (Nat.zero_le _) (mt_mono h ?_)
      rintro _ g33 ⟨r33, rfl, h⟩ y33
      replace h := h y33.1 y33.2
      show nnWP _ _ _ _ _ [qi r33] _ _
      refine wp_aload_n (i := 2) (v := qr 1 l2) (dz dl_Law_law_9 28 582 (.aload_n 2) 1 rfl) rfl rfl trivial ?_
      obtain ⟨a34, e34, h⟩ := h
      refine wp_callV a34 0 [] [qi r33] (dz dl_Law_law_9 29 583 (.invokevirtual 72) 3 rfl) ok_Mod_tick lm_Law_72 (by decide) ws_Mod_tick wv_Mod_tick ⟨Nat.le_of_ble_eq_true rfl, Nat.le_of_ble_eq_true rfl⟩ pn_Mod_tick (Nat.le_of_ble_eq_true rfl) (Nat.le_of_ble_eq_true rfl) e34 (Or.inr rfl) (Nat.zero_le _) (mt_mono h ?_)
      rintro _ g34 ⟨r34, rfl, h⟩ y34
      replace h := h y34.1 y34.2
      show nnWP _ _ _ _ _ [qi r34, qi r33] _ _
      refine wp_icmp_eq (tgt := 842) (dz dl_Law_law_9 30 586 (.if_icmp .eq (256)) 3 rfl) (by decide) (fun hc => ?_) (fun hc => ?_)
      · replace h := h.1 hc
        refine wp_iinc (i := 3) (v := l3 + 5) (dz dl_Law_law_15 2 842 (.iinc 3 (5)) 3 rfl) rfl (congrArg (fun z => l3 + z) (by decide)) [qa 4095 l0, qr 0 l1, qr 1 l2, qi (l3 + 5)] (by decide) rfl ?_
        refine wp_goto (tgt := 48) (dz dl_Law_law_15 3 845 (.goto (-797)) 3 rfl) (by decide) ?_
        exact wp_cut h ⟨Or.inr rfl, Or.inr rfl, Or.inr rfl, Or.inr rfl, trivial⟩
      · replace h := h.2 hc
        refine wp_iconst (dz dl_Law_law_9 31 589 (.iconst (0)) 1 rfl) (v := (0 : Int32)) (by decide) ?_
        exact wp_rt (qi _) (rt_Z rfl (Or.inl rfl) (dz dl_Law_law_9 32 590 (.ireturn) 1 rfl)) ⟨_, rfl, h⟩
    replace h := h.2
    by_cases hc11 : ((X.2 l3.toNatClampNeg) &&& (31 : Int32)) = 11
    · replace h := h.1 hc11
      refine wp_tableInK 11 hc11 (dz dl_Law_law_0 39 62 (.tableswitch (780) (0) (17) #[(86), (111), (124), (147), (200), (259), (318), (371), (424), (457), (516), (529), (582), (605), (638), (681), (714), (747)]) 86 rfl) (by decide) (by decide) (529) (by decide) 591 (by decide) ?_
      refine wp_aload_n (i := 1) (v := qr 0 l1) (dz dl_Law_law_9 33 591 (.aload_n 1) 1 rfl) rfl rfl trivial ?_
      refine wp_aload_n (i := 0) (v := qa 4095 l0) (dz dl_Law_law_9 34 592 (.aload_n 0) 1 rfl) rfl rfl trivial ?_
      refine wp_iload_n (i := 3) (x := l3) (dz dl_Law_law_9 35 593 (.iload_n 3) 1 rfl) rfl rfl ?_
      refine wp_iconst (dz dl_Law_law_9 36 594 (.iconst (1)) 1 rfl) (v := (1 : Int32)) (by decide) ?_
      refine wp_iadd (dz dl_Law_law_9 37 595 (.iadd) 1 rfl) ?_
      obtain ⟨i27, h⟩ := h
      refine wp_sald (dz dl_Law_law_9 38 596 (.iaload) 1 rfl) i27 ?_
      refine wp_aload_n (i := 0) (v := qa 4095 l0) (dz dl_Law_law_9 39 597 (.aload_n 0) 1 rfl) rfl rfl trivial ?_
      refine wp_iload_n (i := 3) (x := l3) (dz dl_Law_law_10 0 598 (.iload_n 3) 1 rfl) rfl rfl ?_
      refine wp_iconst (dz dl_Law_law_10 1 599 (.iconst (2)) 1 rfl) (v := (2 : Int32)) (by decide) ?_
      refine wp_iadd (dz dl_Law_law_10 2 600 (.iadd) 1 rfl) ?_
      obtain ⟨i28, h⟩ := h
      refine wp_sald (dz dl_Law_law_10 3 601 (.iaload) 1 rfl) i28 ?_
      refine wp_aload_n (i := 0) (v := qa 4095 l0) (dz dl_Law_law_10 4 602 (.aload_n 0) 1 rfl) rfl rfl trivial ?_
      refine wp_iload_n (i := 3) (x := l3) (dz dl_Law_law_10 5 603 (.iload_n 3) 1 rfl) rfl rfl ?_
      refine wp_iconst (dz dl_Law_law_10 6 604 (.iconst (3)) 1 rfl) (v := (3 : Int32)) (by decide) ?_
      refine wp_iadd (dz dl_Law_law_10 7 605 (.iadd) 1 rfl) ?_
      obtain ⟨i29, h⟩ := h
      refine wp_sald (dz dl_Law_law_10 8 606 (.iaload) 1 rfl) i29 ?_
      refine wp_aload_n (i := 0) (v := qa 4095 l0) (dz dl_Law_law_10 9 607 (.aload_n 0) 1 rfl) rfl rfl trivial ?_
      refine wp_iload_n (i := 3) (x := l3) (dz dl_Law_law_10 10 608 (.iload_n 3) 1 rfl) rfl rfl ?_
      refine wp_iconst (dz dl_Law_law_10 11 609 (.iconst (4)) 1 rfl) (v := (4 : Int32)) (by decide) ?_
      refine wp_iadd (dz dl_Law_law_10 12 610 (.iadd) 1 rfl) ?_
      obtain ⟨i30, h⟩ := h
      refine wp_sald (dz dl_Law_law_10 13 611 (.iaload) 1 rfl) i30 ?_
      obtain ⟨a35, e35, h⟩ := h
      refine wp_callV a35 0 [qi (X.2 (l3 + (1 : Int32)).toNatClampNeg), qi (X.2 (l3 + (2 : Int32)).toNatClampNeg), qi (X.2 (l3 + (3 : Int32)).toNatClampNeg), qi (X.2 (l3 + (4 : Int32)).toNatClampNeg)] [] (dz dl_Law_law_10 14 612 (.invokevirtual 73) 3 rfl) ok_Net_fetch lm_Law_73 (by decide) ws_Net_fetch wv_Net_fetch ⟨Nat.le_of_ble_eq_true rfl, Nat.le_of_ble_eq_true rfl⟩ pn_Net_fetch (Nat.le_of_ble_eq_true rfl) (Nat.le_of_ble_eq_true rfl) e35 (Or.inr rfl) (Nat.zero_le _) (mt_mono h ?_)
      rintro _ g35 ⟨r35, rfl, h⟩ y35
      replace h := h y35.1 y35.2
      show nnWP _ _ _ _ _ [qi r35] _ _
      refine wp_aload_n (i := 2) (v := qr 1 l2) (dz dl_Law_law_10 15 615 (.aload_n 2) 1 rfl) rfl rfl trivial ?_
      refine wp_aload_n (i := 0) (v := qa 4095 l0) (dz dl_Law_law_10 16 616 (.aload_n 0) 1 rfl) rfl rfl trivial ?_
      refine wp_iload_n (i := 3) (x := l3) (dz dl_Law_law_10 17 617 (.iload_n 3) 1 rfl) rfl rfl ?_
      refine wp_iconst (dz dl_Law_law_10 18 618 (.iconst (1)) 1 rfl) (v := (1 : Int32)) (by decide) ?_
      refine wp_iadd (dz dl_Law_law_10 19 619 (.iadd) 1 rfl) ?_
      refine wp_sald (dz dl_Law_law_10 20 620 (.iaload) 1 rfl) i27 ?_
      refine wp_aload_n (i := 0) (v := qa 4095 l0) (dz dl_Law_law_10 21 621 (.aload_n 0) 1 rfl) rfl rfl trivial ?_
      refine wp_iload_n (i := 3) (x := l3) (dz dl_Law_law_10 22 622 (.iload_n 3) 1 rfl) rfl rfl ?_
      refine wp_iconst (dz dl_Law_law_10 23 623 (.iconst (2)) 1 rfl) (v := (2 : Int32)) (by decide) ?_
      refine wp_iadd (dz dl_Law_law_10 24 624 (.iadd) 1 rfl) ?_
      refine wp_sald (dz dl_Law_law_10 25 625 (.iaload) 1 rfl) i28 ?_
      refine wp_aload_n (i := 0) (v := qa 4095 l0) (dz dl_Law_law_10 26 626 (.aload_n 0) 1 rfl) rfl rfl trivial ?_
      refine wp_iload_n (i := 3) (x := l3) (dz dl_Law_law_10 27 627 (.iload_n 3) 1 rfl) rfl rfl ?_
      refine wp_iconst (dz dl_Law_law_10 28 628 (.iconst (3)) 1 rfl) (v := (3 : Int32)) (by decide) ?_
      refine wp_iadd (dz dl_Law_law_10 29 629 (.iadd) 1 rfl) ?_
      refine wp_sald (dz dl_Law_law_10 30 630 (.iaload) 1 rfl) i29 ?_
      refine wp_aload_n (i := 0) (v := qa 4095 l0) (dz dl_Law_law_10 31 631 (.aload_n 0) 1 rfl) rfl rfl trivial ?_
      refine wp_iload_n (i := 3) (x := l3) (dz dl_Law_law_10 32 632 (.iload_n 3) 1 rfl) rfl rfl ?_
      refine wp_iconst (dz dl_Law_law_10 33 633 (.iconst (4)) 1 rfl) (v := (4 : Int32)) (by decide) ?_
      refine wp_iadd (dz dl_Law_law_10 34 634 (.iadd) 1 rfl) ?_
      refine wp_sald (dz dl_Law_law_10 35 635 (.iaload) 1 rfl) i30 ?_
      obtain ⟨a36, e36, h⟩ := h
      refine wp_callV a36 0 [qi (X.2 (l3 + (1 : Int32)).toNatClampNeg), qi (X.2 (l3 + (2 : Int32)).toNatClampNeg), qi (X.2 (l3 + (3 : Int32)).toNatClampNeg), qi (X.2 (l3 + (4 : Int32)).toNatClampNeg)] [qi r35] (dz dl_Law_law_10 36 636 (.invokevirtual 76) 3 rfl) ok_Mod_fetch lm_Law_76 (by decide) ws_Mod_fetch wv_Mod_fetch ⟨Nat.le_of_ble_eq_true rfl, Nat.le_of_ble_eq_true rfl⟩ pn_Mod_fetch (Nat.le_of_ble_eq_true rfl) (Nat.le_of_ble_eq_true rfl) e36 (Or.inr rfl) (Nat.zero_le _) (mt_mono h ?_)
      rintro _ g36 ⟨r36, rfl, h⟩ y36
      replace h := h y36.1 y36.2
      show nnWP _ _ _ _ _ [qi r36, qi r35] _ _
      refine wp_icmp_eq (tgt := 842) (dz dl_Law_law_10 37 639 (.if_icmp .eq (203)) 3 rfl) (by decide) (fun hc => ?_) (fun hc => ?_)
      · replace h := h.1 hc
        refine wp_iinc (i := 3) (v := l3 + 5) (dz dl_Law_law_15 2 842 (.iinc 3 (5)) 3 rfl) rfl (congrArg (fun z => l3 + z) (by decide)) [qa 4095 l0, qr 0 l1, qr 1 l2, qi (l3 + 5)] (by decide) rfl ?_
        refine wp_goto (tgt := 48) (dz dl_Law_law_15 3 845 (.goto (-797)) 3 rfl) (by decide) ?_
        exact wp_cut h ⟨Or.inr rfl, Or.inr rfl, Or.inr rfl, Or.inr rfl, trivial⟩
      · replace h := h.2 hc
        refine wp_iconst (dz dl_Law_law_10 38 642 (.iconst (0)) 1 rfl) (v := (0 : Int32)) (by decide) ?_
        exact wp_rt (qi _) (rt_Z rfl (Or.inl rfl) (dz dl_Law_law_10 39 643 (.ireturn) 1 rfl)) ⟨_, rfl, h⟩
    replace h := h.2
    by_cases hc12 : ((X.2 l3.toNatClampNeg) &&& (31 : Int32)) = 12
    · replace h := h.1 hc12
      refine wp_tableInK 12 hc12 (dz dl_Law_law_0 39 62 (.tableswitch (780) (0) (17) #[(86), (111), (124), (147), (200), (259), (318), (371), (424), (457), (516), (529), (582), (605), (638), (681), (714), (747)]) 86 rfl) (by decide) (by decide) (582) (by decide) 644 (by decide) ?_
      refine wp_aload_n (i := 1) (v := qr 0 l1) (dz dl_Law_law_11 0 644 (.aload_n 1) 1 rfl) rfl rfl trivial ?_
      refine wp_aload_n (i := 0) (v := qa 4095 l0) (dz dl_Law_law_11 1 645 (.aload_n 0) 1 rfl) rfl rfl trivial ?_
      refine wp_iload_n (i := 3) (x := l3) (dz dl_Law_law_11 2 646 (.iload_n 3) 1 rfl) rfl rfl ?_
      refine wp_iconst (dz dl_Law_law_11 3 647 (.iconst (1)) 1 rfl) (v := (1 : Int32)) (by decide) ?_
      refine wp_iadd (dz dl_Law_law_11 4 648 (.iadd) 1 rfl) ?_
      obtain ⟨i31, h⟩ := h
      refine wp_sald (dz dl_Law_law_11 5 649 (.iaload) 1 rfl) i31 ?_
      obtain ⟨u6, h⟩ := h
      obtain ⟨a37, e37, h⟩ := h
      refine wp_callV a37 70 [qi (X.2 (l3 + (1 : Int32)).toNatClampNeg)] [] (dz dl_Law_law_11 6 650 (.invokevirtual 77) 3 rfl) ok_Net_pump lm_Law_77 (by decide) ws_Net_pump wv_Net_pump ⟨Nat.le_of_ble_eq_true rfl, Nat.le_of_ble_eq_true rfl⟩ pn_Net_pump (Nat.le_of_ble_eq_true rfl) (Nat.le_of_ble_eq_true rfl) e37 (Or.inr rfl) u6 (mt_mono h ?_)
      rintro _ g37 ⟨r37, rfl, h⟩ y37
      replace h := h y37.1 y37.2
      show nnWP _ _ _ _ _ [qi r37] _ _
      refine wp_aload_n (i := 2) (v := qr 1 l2) (dz dl_Law_law_11 7 653 (.aload_n 2) 1 rfl) rfl rfl trivial ?_
      refine wp_aload_n (i := 0) (v := qa 4095 l0) (dz dl_Law_law_11 8 654 (.aload_n 0) 1 rfl) rfl rfl trivial ?_
      refine wp_iload_n (i := 3) (x := l3) (dz dl_Law_law_11 9 655 (.iload_n 3) 1 rfl) rfl rfl ?_
      refine wp_iconst (dz dl_Law_law_11 10 656 (.iconst (1)) 1 rfl) (v := (1 : Int32)) (by decide) ?_
      refine wp_iadd (dz dl_Law_law_11 11 657 (.iadd) 1 rfl) ?_
      refine wp_sald (dz dl_Law_law_11 12 658 (.iaload) 1 rfl) i31 ?_
      obtain ⟨a38, e38, h⟩ := h
      refine wp_callV a38 0 [qi (X.2 (l3 + (1 : Int32)).toNatClampNeg)] [qi r37] (dz dl_Law_law_11 13 659 (.invokevirtual 80) 3 rfl) ok_Mod_pump lm_Law_80 (by decide) ws_Mod_pump wv_Mod_pump ⟨Nat.le_of_ble_eq_true rfl, Nat.le_of_ble_eq_true rfl⟩ pn_Mod_pump (Nat.le_of_ble_eq_true rfl) (Nat.le_of_ble_eq_true rfl) e38 (Or.inr rfl) (Nat.zero_le _) (mt_mono h ?_)
      rintro _ g38 ⟨r38, rfl, h⟩ y38
      replace h := h y38.1 y38.2
      show nnWP _ _ _ _ _ [qi r38, qi r37] _ _
      refine wp_icmp_eq (tgt := 842) (dz dl_Law_law_11 14 662 (.if_icmp .eq (180)) 3 rfl) (by decide) (fun hc => ?_) (fun hc => ?_)
      · replace h := h.1 hc
        refine wp_iinc (i := 3) (v := l3 + 5) (dz dl_Law_law_15 2 842 (.iinc 3 (5)) 3 rfl) rfl (congrArg (fun z => l3 + z) (by decide)) [qa 4095 l0, qr 0 l1, qr 1 l2, qi (l3 + 5)] (by decide) rfl ?_
        refine wp_goto (tgt := 48) (dz dl_Law_law_15 3 845 (.goto (-797)) 3 rfl) (by decide) ?_
        exact wp_cut h ⟨Or.inr rfl, Or.inr rfl, Or.inr rfl, Or.inr rfl, trivial⟩
      · replace h := h.2 hc
        refine wp_iconst (dz dl_Law_law_11 15 665 (.iconst (0)) 1 rfl) (v := (0 : Int32)) (by decide) ?_
        exact wp_rt (qi _) (rt_Z rfl (Or.inl rfl) (dz dl_Law_law_11 16 666 (.ireturn) 1 rfl)) ⟨_, rfl, h⟩
    replace h := h.2
    by_cases hc13 : ((X.2 l3.toNatClampNeg) &&& (31 : Int32)) = 13
    · replace h := h.1 hc13
      refine wp_tableInK 13 hc13 (dz dl_Law_law_0 39 62 (.tableswitch (780) (0) (17) #[(86), (111), (124), (147), (200), (259), (318), (371), (424), (457), (516), (529), (582), (605), (638), (681), (714), (747)]) 86 rfl) (by decide) (by decide) (605) (by decide) 667 (by decide) ?_
      refine wp_aload_n (i := 1) (v := qr 0 l1) (dz dl_Law_law_11 17 667 (.aload_n 1) 1 rfl) rfl rfl trivial ?_
      refine wp_aload_n (i := 0) (v := qa 4095 l0) (dz dl_Law_law_11 18 668 (.aload_n 0) 1 rfl) rfl rfl trivial ?_
      refine wp_iload_n (i := 3) (x := l3) (dz dl_Law_law_11 19 669 (.iload_n 3) 1 rfl) rfl rfl ?_
      refine wp_iconst (dz dl_Law_law_11 20 670 (.iconst (1)) 1 rfl) (v := (1 : Int32)) (by decide) ?_
      refine wp_iadd (dz dl_Law_law_11 21 671 (.iadd) 1 rfl) ?_
      obtain ⟨i32, h⟩ := h
      refine wp_sald (dz dl_Law_law_11 22 672 (.iaload) 1 rfl) i32 ?_
      refine wp_aload_n (i := 0) (v := qa 4095 l0) (dz dl_Law_law_11 23 673 (.aload_n 0) 1 rfl) rfl rfl trivial ?_
      refine wp_iload_n (i := 3) (x := l3) (dz dl_Law_law_11 24 674 (.iload_n 3) 1 rfl) rfl rfl ?_
      refine wp_iconst (dz dl_Law_law_11 25 675 (.iconst (2)) 1 rfl) (v := (2 : Int32)) (by decide) ?_
      refine wp_iadd (dz dl_Law_law_11 26 676 (.iadd) 1 rfl) ?_
      obtain ⟨i33, h⟩ := h
      refine wp_sald (dz dl_Law_law_11 27 677 (.iaload) 1 rfl) i33 ?_
      obtain ⟨a39, e39, h⟩ := h
      refine wp_callV a39 0 [qi (X.2 (l3 + (1 : Int32)).toNatClampNeg), qi (X.2 (l3 + (2 : Int32)).toNatClampNeg)] [] (dz dl_Law_law_11 28 678 (.invokevirtual 81) 3 rfl) ok_Net_fetched lm_Law_81 (by decide) ws_Net_fetched wv_Net_fetched ⟨Nat.le_of_ble_eq_true rfl, Nat.le_of_ble_eq_true rfl⟩ pn_Net_fetched (Nat.le_of_ble_eq_true rfl) (Nat.le_of_ble_eq_true rfl) e39 (Or.inr rfl) (Nat.zero_le _) (mt_mono h ?_)
      rintro _ g39 ⟨r39, rfl, h⟩ y39
      replace h := h y39.1 y39.2
      show nnWP _ _ _ _ _ [qi r39] _ _
      refine wp_aload_n (i := 2) (v := qr 1 l2) (dz dl_Law_law_11 29 681 (.aload_n 2) 1 rfl) rfl rfl trivial ?_
      refine wp_aload_n (i := 0) (v := qa 4095 l0) (dz dl_Law_law_11 30 682 (.aload_n 0) 1 rfl) rfl rfl trivial ?_
      refine wp_iload_n (i := 3) (x := l3) (dz dl_Law_law_11 31 683 (.iload_n 3) 1 rfl) rfl rfl ?_
      refine wp_iconst (dz dl_Law_law_11 32 684 (.iconst (1)) 1 rfl) (v := (1 : Int32)) (by decide) ?_
      refine wp_iadd (dz dl_Law_law_11 33 685 (.iadd) 1 rfl) ?_
      refine wp_sald (dz dl_Law_law_11 34 686 (.iaload) 1 rfl) i32 ?_
      refine wp_aload_n (i := 0) (v := qa 4095 l0) (dz dl_Law_law_11 35 687 (.aload_n 0) 1 rfl) rfl rfl trivial ?_
      refine wp_iload_n (i := 3) (x := l3) (dz dl_Law_law_11 36 688 (.iload_n 3) 1 rfl) rfl rfl ?_
      refine wp_iconst (dz dl_Law_law_11 37 689 (.iconst (2)) 1 rfl) (v := (2 : Int32)) (by decide) ?_
      refine wp_iadd (dz dl_Law_law_11 38 690 (.iadd) 1 rfl) ?_
      refine wp_sald (dz dl_Law_law_11 39 691 (.iaload) 1 rfl) i33 ?_
      obtain ⟨a40, e40, h⟩ := h
      refine wp_callV a40 0 [qi (X.2 (l3 + (1 : Int32)).toNatClampNeg), qi (X.2 (l3 + (2 : Int32)).toNatClampNeg)] [qi r39] (dz dl_Law_law_12 0 692 (.invokevirtual 84) 3 rfl) ok_Mod_fetched lm_Law_84 (by decide) ws_Mod_fetched wv_Mod_fetched ⟨Nat.le_of_ble_eq_true rfl, Nat.le_of_ble_eq_true rfl⟩ pn_Mod_fetched (Nat.le_of_ble_eq_true rfl) (Nat.le_of_ble_eq_true rfl) e40 (Or.inr rfl) (Nat.zero_le _) (mt_mono h ?_)
      rintro _ g40 ⟨r40, rfl, h⟩ y40
      replace h := h y40.1 y40.2
      show nnWP _ _ _ _ _ [qi r40, qi r39] _ _
      refine wp_icmp_eq (tgt := 842) (dz dl_Law_law_12 1 695 (.if_icmp .eq (147)) 3 rfl) (by decide) (fun hc => ?_) (fun hc => ?_)
      · replace h := h.1 hc
        refine wp_iinc (i := 3) (v := l3 + 5) (dz dl_Law_law_15 2 842 (.iinc 3 (5)) 3 rfl) rfl (congrArg (fun z => l3 + z) (by decide)) [qa 4095 l0, qr 0 l1, qr 1 l2, qi (l3 + 5)] (by decide) rfl ?_
        refine wp_goto (tgt := 48) (dz dl_Law_law_15 3 845 (.goto (-797)) 3 rfl) (by decide) ?_
        exact wp_cut h ⟨Or.inr rfl, Or.inr rfl, Or.inr rfl, Or.inr rfl, trivial⟩
      · replace h := h.2 hc
        refine wp_iconst (dz dl_Law_law_12 2 698 (.iconst (0)) 1 rfl) (v := (0 : Int32)) (by decide) ?_
        exact wp_rt (qi _) (rt_Z rfl (Or.inl rfl) (dz dl_Law_law_12 3 699 (.ireturn) 1 rfl)) ⟨_, rfl, h⟩
    replace h := h.2
    by_cases hc14 : ((X.2 l3.toNatClampNeg) &&& (31 : Int32)) = 14
    · replace h := h.1 hc14
      refine wp_tableInK 14 hc14 (dz dl_Law_law_0 39 62 (.tableswitch (780) (0) (17) #[(86), (111), (124), (147), (200), (259), (318), (371), (424), (457), (516), (529), (582), (605), (638), (681), (714), (747)]) 86 rfl) (by decide) (by decide) (638) (by decide) 700 (by decide) ?_
      refine wp_aload_n (i := 1) (v := qr 0 l1) (dz dl_Law_law_12 4 700 (.aload_n 1) 1 rfl) rfl rfl trivial ?_
      refine wp_aload_n (i := 0) (v := qa 4095 l0) (dz dl_Law_law_12 5 701 (.aload_n 0) 1 rfl) rfl rfl trivial ?_
      refine wp_iload_n (i := 3) (x := l3) (dz dl_Law_law_12 6 702 (.iload_n 3) 1 rfl) rfl rfl ?_
      refine wp_iconst (dz dl_Law_law_12 7 703 (.iconst (1)) 1 rfl) (v := (1 : Int32)) (by decide) ?_
      refine wp_iadd (dz dl_Law_law_12 8 704 (.iadd) 1 rfl) ?_
      obtain ⟨i34, h⟩ := h
      refine wp_sald (dz dl_Law_law_12 9 705 (.iaload) 1 rfl) i34 ?_
      refine wp_aload_n (i := 0) (v := qa 4095 l0) (dz dl_Law_law_12 10 706 (.aload_n 0) 1 rfl) rfl rfl trivial ?_
      refine wp_iload_n (i := 3) (x := l3) (dz dl_Law_law_12 11 707 (.iload_n 3) 1 rfl) rfl rfl ?_
      refine wp_iconst (dz dl_Law_law_12 12 708 (.iconst (2)) 1 rfl) (v := (2 : Int32)) (by decide) ?_
      refine wp_iadd (dz dl_Law_law_12 13 709 (.iadd) 1 rfl) ?_
      obtain ⟨i35, h⟩ := h
      refine wp_sald (dz dl_Law_law_12 14 710 (.iaload) 1 rfl) i35 ?_
      refine wp_aload_n (i := 0) (v := qa 4095 l0) (dz dl_Law_law_12 15 711 (.aload_n 0) 1 rfl) rfl rfl trivial ?_
      refine wp_iload_n (i := 3) (x := l3) (dz dl_Law_law_12 16 712 (.iload_n 3) 1 rfl) rfl rfl ?_
      refine wp_iconst (dz dl_Law_law_12 17 713 (.iconst (3)) 1 rfl) (v := (3 : Int32)) (by decide) ?_
      refine wp_iadd (dz dl_Law_law_12 18 714 (.iadd) 1 rfl) ?_
      obtain ⟨i36, h⟩ := h
      refine wp_sald (dz dl_Law_law_12 19 715 (.iaload) 1 rfl) i36 ?_
      obtain ⟨a41, e41, h⟩ := h
      refine wp_callV a41 0 [qi (X.2 (l3 + (1 : Int32)).toNatClampNeg), qi (X.2 (l3 + (2 : Int32)).toNatClampNeg), qi (X.2 (l3 + (3 : Int32)).toNatClampNeg)] [] (dz dl_Law_law_12 20 716 (.invokevirtual 85) 3 rfl) ok_Net_cost lm_Law_85 (by decide) ws_Net_cost wv_Net_cost ⟨Nat.le_of_ble_eq_true rfl, Nat.le_of_ble_eq_true rfl⟩ pn_Net_cost (Nat.le_of_ble_eq_true rfl) (Nat.le_of_ble_eq_true rfl) e41 (Or.inr rfl) (Nat.zero_le _) (mt_mono h ?_)
      rintro _ g41 ⟨r41, rfl, h⟩ y41
      replace h := h y41.1 y41.2
      show nnWP _ _ _ _ _ [qi r41] _ _
      refine wp_aload_n (i := 2) (v := qr 1 l2) (dz dl_Law_law_12 21 719 (.aload_n 2) 1 rfl) rfl rfl trivial ?_
      refine wp_aload_n (i := 0) (v := qa 4095 l0) (dz dl_Law_law_12 22 720 (.aload_n 0) 1 rfl) rfl rfl trivial ?_
      refine wp_iload_n (i := 3) (x := l3) (dz dl_Law_law_12 23 721 (.iload_n 3) 1 rfl) rfl rfl ?_
      refine wp_iconst (dz dl_Law_law_12 24 722 (.iconst (1)) 1 rfl) (v := (1 : Int32)) (by decide) ?_
      refine wp_iadd (dz dl_Law_law_12 25 723 (.iadd) 1 rfl) ?_
      refine wp_sald (dz dl_Law_law_12 26 724 (.iaload) 1 rfl) i34 ?_
      refine wp_aload_n (i := 0) (v := qa 4095 l0) (dz dl_Law_law_12 27 725 (.aload_n 0) 1 rfl) rfl rfl trivial ?_
      refine wp_iload_n (i := 3) (x := l3) (dz dl_Law_law_12 28 726 (.iload_n 3) 1 rfl) rfl rfl ?_
      refine wp_iconst (dz dl_Law_law_12 29 727 (.iconst (2)) 1 rfl) (v := (2 : Int32)) (by decide) ?_
      refine wp_iadd (dz dl_Law_law_12 30 728 (.iadd) 1 rfl) ?_
      refine wp_sald (dz dl_Law_law_12 31 729 (.iaload) 1 rfl) i35 ?_
      refine wp_aload_n (i := 0) (v := qa 4095 l0) (dz dl_Law_law_12 32 730 (.aload_n 0) 1 rfl) rfl rfl trivial ?_
      refine wp_iload_n (i := 3) (x := l3) (dz dl_Law_law_12 33 731 (.iload_n 3) 1 rfl) rfl rfl ?_
      refine wp_iconst (dz dl_Law_law_12 34 732 (.iconst (3)) 1 rfl) (v := (3 : Int32)) (by decide) ?_
      refine wp_iadd (dz dl_Law_law_12 35 733 (.iadd) 1 rfl) ?_
      refine wp_sald (dz dl_Law_law_12 36 734 (.iaload) 1 rfl) i36 ?_
      obtain ⟨a42, e42, h⟩ := h
      refine wp_callV a42 0 [qi (X.2 (l3 + (1 : Int32)).toNatClampNeg), qi (X.2 (l3 + (2 : Int32)).toNatClampNeg), qi (X.2 (l3 + (3 : Int32)).toNatClampNeg)] [qi r41] (dz dl_Law_law_12 37 735 (.invokevirtual 89) 3 rfl) ok_Mod_cost lm_Law_89 (by decide) ws_Mod_cost wv_Mod_cost ⟨Nat.le_of_ble_eq_true rfl, Nat.le_of_ble_eq_true rfl⟩ pn_Mod_cost (Nat.le_of_ble_eq_true rfl) (Nat.le_of_ble_eq_true rfl) e42 (Or.inr rfl) (Nat.zero_le _) (mt_mono h ?_)
      rintro _ g42 ⟨r42, rfl, h⟩ y42
      replace h := h y42.1 y42.2
      show nnWP _ _ _ _ _ [qi r42, qi r41] _ _
      refine wp_icmp_eq (tgt := 842) (dz dl_Law_law_12 38 738 (.if_icmp .eq (104)) 3 rfl) (by decide) (fun hc => ?_) (fun hc => ?_)
      · replace h := h.1 hc
        refine wp_iinc (i := 3) (v := l3 + 5) (dz dl_Law_law_15 2 842 (.iinc 3 (5)) 3 rfl) rfl (congrArg (fun z => l3 + z) (by decide)) [qa 4095 l0, qr 0 l1, qr 1 l2, qi (l3 + 5)] (by decide) rfl ?_
        refine wp_goto (tgt := 48) (dz dl_Law_law_15 3 845 (.goto (-797)) 3 rfl) (by decide) ?_
        exact wp_cut h ⟨Or.inr rfl, Or.inr rfl, Or.inr rfl, Or.inr rfl, trivial⟩
      · replace h := h.2 hc
        refine wp_iconst (dz dl_Law_law_12 39 741 (.iconst (0)) 1 rfl) (v := (0 : Int32)) (by decide) ?_
        exact wp_rt (qi _) (rt_Z rfl (Or.inl rfl) (dz dl_Law_law_13 0 742 (.ireturn) 1 rfl)) ⟨_, rfl, h⟩
    replace h := h.2
    by_cases hc15 : ((X.2 l3.toNatClampNeg) &&& (31 : Int32)) = 15
    · replace h := h.1 hc15
      refine wp_tableInK 15 hc15 (dz dl_Law_law_0 39 62 (.tableswitch (780) (0) (17) #[(86), (111), (124), (147), (200), (259), (318), (371), (424), (457), (516), (529), (582), (605), (638), (681), (714), (747)]) 86 rfl) (by decide) (by decide) (681) (by decide) 743 (by decide) ?_
      refine wp_aload_n (i := 1) (v := qr 0 l1) (dz dl_Law_law_13 1 743 (.aload_n 1) 1 rfl) rfl rfl trivial ?_
      refine wp_aload_n (i := 0) (v := qa 4095 l0) (dz dl_Law_law_13 2 744 (.aload_n 0) 1 rfl) rfl rfl trivial ?_
      refine wp_iload_n (i := 3) (x := l3) (dz dl_Law_law_13 3 745 (.iload_n 3) 1 rfl) rfl rfl ?_
      refine wp_iconst (dz dl_Law_law_13 4 746 (.iconst (1)) 1 rfl) (v := (1 : Int32)) (by decide) ?_
      refine wp_iadd (dz dl_Law_law_13 5 747 (.iadd) 1 rfl) ?_
      obtain ⟨i37, h⟩ := h
      refine wp_sald (dz dl_Law_law_13 6 748 (.iaload) 1 rfl) i37 ?_
      refine wp_aload_n (i := 0) (v := qa 4095 l0) (dz dl_Law_law_13 7 749 (.aload_n 0) 1 rfl) rfl rfl trivial ?_
      refine wp_iload_n (i := 3) (x := l3) (dz dl_Law_law_13 8 750 (.iload_n 3) 1 rfl) rfl rfl ?_
      refine wp_iconst (dz dl_Law_law_13 9 751 (.iconst (2)) 1 rfl) (v := (2 : Int32)) (by decide) ?_
      refine wp_iadd (dz dl_Law_law_13 10 752 (.iadd) 1 rfl) ?_
      obtain ⟨i38, h⟩ := h
      refine wp_sald (dz dl_Law_law_13 11 753 (.iaload) 1 rfl) i38 ?_
      obtain ⟨a43, e43, h⟩ := h
      refine wp_callV a43 0 [qi (X.2 (l3 + (1 : Int32)).toNatClampNeg), qi (X.2 (l3 + (2 : Int32)).toNatClampNeg)] [] (dz dl_Law_law_13 12 754 (.invokevirtual 90) 3 rfl) ok_Net_waiting lm_Law_90 (by decide) ws_Net_waiting wv_Net_waiting ⟨Nat.le_of_ble_eq_true rfl, Nat.le_of_ble_eq_true rfl⟩ pn_Net_waiting (Nat.le_of_ble_eq_true rfl) (Nat.le_of_ble_eq_true rfl) e43 (Or.inr rfl) (Nat.zero_le _) (mt_mono h ?_)
      rintro _ g43 ⟨r43, rfl, h⟩ y43
      replace h := h y43.1 y43.2
      show nnWP _ _ _ _ _ [qi r43] _ _
      refine wp_aload_n (i := 2) (v := qr 1 l2) (dz dl_Law_law_13 13 757 (.aload_n 2) 1 rfl) rfl rfl trivial ?_
      refine wp_aload_n (i := 0) (v := qa 4095 l0) (dz dl_Law_law_13 14 758 (.aload_n 0) 1 rfl) rfl rfl trivial ?_
      refine wp_iload_n (i := 3) (x := l3) (dz dl_Law_law_13 15 759 (.iload_n 3) 1 rfl) rfl rfl ?_
      refine wp_iconst (dz dl_Law_law_13 16 760 (.iconst (1)) 1 rfl) (v := (1 : Int32)) (by decide) ?_
      refine wp_iadd (dz dl_Law_law_13 17 761 (.iadd) 1 rfl) ?_
      refine wp_sald (dz dl_Law_law_13 18 762 (.iaload) 1 rfl) i37 ?_
      refine wp_aload_n (i := 0) (v := qa 4095 l0) (dz dl_Law_law_13 19 763 (.aload_n 0) 1 rfl) rfl rfl trivial ?_
      refine wp_iload_n (i := 3) (x := l3) (dz dl_Law_law_13 20 764 (.iload_n 3) 1 rfl) rfl rfl ?_
      refine wp_iconst (dz dl_Law_law_13 21 765 (.iconst (2)) 1 rfl) (v := (2 : Int32)) (by decide) ?_
      refine wp_iadd (dz dl_Law_law_13 22 766 (.iadd) 1 rfl) ?_
      refine wp_sald (dz dl_Law_law_13 23 767 (.iaload) 1 rfl) i38 ?_
      obtain ⟨a44, e44, h⟩ := h
      refine wp_callV a44 0 [qi (X.2 (l3 + (1 : Int32)).toNatClampNeg), qi (X.2 (l3 + (2 : Int32)).toNatClampNeg)] [qi r43] (dz dl_Law_law_13 24 768 (.invokevirtual 93) 3 rfl) ok_Mod_waiting lm_Law_93 (by decide) ws_Mod_waiting wv_Mod_waiting ⟨Nat.le_of_ble_eq_true rfl, Nat.le_of_ble_eq_true rfl⟩ pn_Mod_waiting (Nat.le_of_ble_eq_true rfl) (Nat.le_of_ble_eq_true rfl) e44 (Or.inr rfl) (Nat.zero_le _) (mt_mono h ?_)
      rintro _ g44 ⟨r44, rfl, h⟩ y44
      replace h := h y44.1 y44.2
      show nnWP _ _ _ _ _ [qi r44, qi r43] _ _
      refine wp_icmp_eq (tgt := 842) (dz dl_Law_law_13 25 771 (.if_icmp .eq (71)) 3 rfl) (by decide) (fun hc => ?_) (fun hc => ?_)
      · replace h := h.1 hc
        refine wp_iinc (i := 3) (v := l3 + 5) (dz dl_Law_law_15 2 842 (.iinc 3 (5)) 3 rfl) rfl (congrArg (fun z => l3 + z) (by decide)) [qa 4095 l0, qr 0 l1, qr 1 l2, qi (l3 + 5)] (by decide) rfl ?_
        refine wp_goto (tgt := 48) (dz dl_Law_law_15 3 845 (.goto (-797)) 3 rfl) (by decide) ?_
        exact wp_cut h ⟨Or.inr rfl, Or.inr rfl, Or.inr rfl, Or.inr rfl, trivial⟩
      · replace h := h.2 hc
        refine wp_iconst (dz dl_Law_law_13 26 774 (.iconst (0)) 1 rfl) (v := (0 : Int32)) (by decide) ?_
        exact wp_rt (qi _) (rt_Z rfl (Or.inl rfl) (dz dl_Law_law_13 27 775 (.ireturn) 1 rfl)) ⟨_, rfl, h⟩
    replace h := h.2
    by_cases hc16 : ((X.2 l3.toNatClampNeg) &&& (31 : Int32)) = 16
    · replace h := h.1 hc16
      refine wp_tableInK 16 hc16 (dz dl_Law_law_0 39 62 (.tableswitch (780) (0) (17) #[(86), (111), (124), (147), (200), (259), (318), (371), (424), (457), (516), (529), (582), (605), (638), (681), (714), (747)]) 86 rfl) (by decide) (by decide) (714) (by decide) 776 (by decide) ?_
      refine wp_aload_n (i := 1) (v := qr 0 l1) (dz dl_Law_law_13 28 776 (.aload_n 1) 1 rfl) rfl rfl trivial ?_
      refine wp_aload_n (i := 0) (v := qa 4095 l0) (dz dl_Law_law_13 29 777 (.aload_n 0) 1 rfl) rfl rfl trivial ?_
      refine wp_iload_n (i := 3) (x := l3) (dz dl_Law_law_13 30 778 (.iload_n 3) 1 rfl) rfl rfl ?_
      refine wp_iconst (dz dl_Law_law_13 31 779 (.iconst (1)) 1 rfl) (v := (1 : Int32)) (by decide) ?_
      refine wp_iadd (dz dl_Law_law_13 32 780 (.iadd) 1 rfl) ?_
      obtain ⟨i39, h⟩ := h
      refine wp_sald (dz dl_Law_law_13 33 781 (.iaload) 1 rfl) i39 ?_
      refine wp_aload_n (i := 0) (v := qa 4095 l0) (dz dl_Law_law_13 34 782 (.aload_n 0) 1 rfl) rfl rfl trivial ?_
      refine wp_iload_n (i := 3) (x := l3) (dz dl_Law_law_13 35 783 (.iload_n 3) 1 rfl) rfl rfl ?_
      refine wp_iconst (dz dl_Law_law_13 36 784 (.iconst (2)) 1 rfl) (v := (2 : Int32)) (by decide) ?_
      refine wp_iadd (dz dl_Law_law_13 37 785 (.iadd) 1 rfl) ?_
      obtain ⟨i40, h⟩ := h
      refine wp_sald (dz dl_Law_law_13 38 786 (.iaload) 1 rfl) i40 ?_
      obtain ⟨a45, e45, h⟩ := h
      refine wp_callV a45 0 [qi (X.2 (l3 + (1 : Int32)).toNatClampNeg), qi (X.2 (l3 + (2 : Int32)).toNatClampNeg)] [] (dz dl_Law_law_13 39 787 (.invokevirtual 94) 3 rfl) ok_Net_stored lm_Law_94 (by decide) ws_Net_stored wv_Net_stored ⟨Nat.le_of_ble_eq_true rfl, Nat.le_of_ble_eq_true rfl⟩ pn_Net_stored (Nat.le_of_ble_eq_true rfl) (Nat.le_of_ble_eq_true rfl) e45 (Or.inr rfl) (Nat.zero_le _) (mt_mono h ?_)
      rintro _ g45 ⟨r45, rfl, h⟩ y45
      replace h := h y45.1 y45.2
      show nnWP _ _ _ _ _ [qi r45] _ _
      refine wp_aload_n (i := 2) (v := qr 1 l2) (dz dl_Law_law_14 0 790 (.aload_n 2) 1 rfl) rfl rfl trivial ?_
      refine wp_aload_n (i := 0) (v := qa 4095 l0) (dz dl_Law_law_14 1 791 (.aload_n 0) 1 rfl) rfl rfl trivial ?_
      refine wp_iload_n (i := 3) (x := l3) (dz dl_Law_law_14 2 792 (.iload_n 3) 1 rfl) rfl rfl ?_
      refine wp_iconst (dz dl_Law_law_14 3 793 (.iconst (1)) 1 rfl) (v := (1 : Int32)) (by decide) ?_
      refine wp_iadd (dz dl_Law_law_14 4 794 (.iadd) 1 rfl) ?_
      refine wp_sald (dz dl_Law_law_14 5 795 (.iaload) 1 rfl) i39 ?_
      refine wp_aload_n (i := 0) (v := qa 4095 l0) (dz dl_Law_law_14 6 796 (.aload_n 0) 1 rfl) rfl rfl trivial ?_
      refine wp_iload_n (i := 3) (x := l3) (dz dl_Law_law_14 7 797 (.iload_n 3) 1 rfl) rfl rfl ?_
      refine wp_iconst (dz dl_Law_law_14 8 798 (.iconst (2)) 1 rfl) (v := (2 : Int32)) (by decide) ?_
      refine wp_iadd (dz dl_Law_law_14 9 799 (.iadd) 1 rfl) ?_
      refine wp_sald (dz dl_Law_law_14 10 800 (.iaload) 1 rfl) i40 ?_
      obtain ⟨a46, e46, h⟩ := h
      refine wp_callV a46 0 [qi (X.2 (l3 + (1 : Int32)).toNatClampNeg), qi (X.2 (l3 + (2 : Int32)).toNatClampNeg)] [qi r45] (dz dl_Law_law_14 11 801 (.invokevirtual 97) 3 rfl) ok_Mod_stored lm_Law_97 (by decide) ws_Mod_stored wv_Mod_stored ⟨Nat.le_of_ble_eq_true rfl, Nat.le_of_ble_eq_true rfl⟩ pn_Mod_stored (Nat.le_of_ble_eq_true rfl) (Nat.le_of_ble_eq_true rfl) e46 (Or.inr rfl) (Nat.zero_le _) (mt_mono h ?_)
      rintro _ g46 ⟨r46, rfl, h⟩ y46
      replace h := h y46.1 y46.2
      show nnWP _ _ _ _ _ [qi r46, qi r45] _ _
      refine wp_icmp_eq (tgt := 842) (dz dl_Law_law_14 12 804 (.if_icmp .eq (38)) 3 rfl) (by decide) (fun hc => ?_) (fun hc => ?_)
      · replace h := h.1 hc
        refine wp_iinc (i := 3) (v := l3 + 5) (dz dl_Law_law_15 2 842 (.iinc 3 (5)) 3 rfl) rfl (congrArg (fun z => l3 + z) (by decide)) [qa 4095 l0, qr 0 l1, qr 1 l2, qi (l3 + 5)] (by decide) rfl ?_
        refine wp_goto (tgt := 48) (dz dl_Law_law_15 3 845 (.goto (-797)) 3 rfl) (by decide) ?_
        exact wp_cut h ⟨Or.inr rfl, Or.inr rfl, Or.inr rfl, Or.inr rfl, trivial⟩
      · replace h := h.2 hc
        refine wp_iconst (dz dl_Law_law_14 13 807 (.iconst (0)) 1 rfl) (v := (0 : Int32)) (by decide) ?_
        exact wp_rt (qi _) (rt_Z rfl (Or.inl rfl) (dz dl_Law_law_14 14 808 (.ireturn) 1 rfl)) ⟨_, rfl, h⟩
    replace h := h.2
    by_cases hc17 : ((X.2 l3.toNatClampNeg) &&& (31 : Int32)) = 17
    · replace h := h.1 hc17
      refine wp_tableInK 17 hc17 (dz dl_Law_law_0 39 62 (.tableswitch (780) (0) (17) #[(86), (111), (124), (147), (200), (259), (318), (371), (424), (457), (516), (529), (582), (605), (638), (681), (714), (747)]) 86 rfl) (by decide) (by decide) (747) (by decide) 809 (by decide) ?_
      refine wp_aload_n (i := 1) (v := qr 0 l1) (dz dl_Law_law_14 15 809 (.aload_n 1) 1 rfl) rfl rfl trivial ?_
      refine wp_aload_n (i := 0) (v := qa 4095 l0) (dz dl_Law_law_14 16 810 (.aload_n 0) 1 rfl) rfl rfl trivial ?_
      refine wp_iload_n (i := 3) (x := l3) (dz dl_Law_law_14 17 811 (.iload_n 3) 1 rfl) rfl rfl ?_
      refine wp_iconst (dz dl_Law_law_14 18 812 (.iconst (1)) 1 rfl) (v := (1 : Int32)) (by decide) ?_
      refine wp_iadd (dz dl_Law_law_14 19 813 (.iadd) 1 rfl) ?_
      obtain ⟨i41, h⟩ := h
      refine wp_sald (dz dl_Law_law_14 20 814 (.iaload) 1 rfl) i41 ?_
      refine wp_aload_n (i := 0) (v := qa 4095 l0) (dz dl_Law_law_14 21 815 (.aload_n 0) 1 rfl) rfl rfl trivial ?_
      refine wp_iload_n (i := 3) (x := l3) (dz dl_Law_law_14 22 816 (.iload_n 3) 1 rfl) rfl rfl ?_
      refine wp_iconst (dz dl_Law_law_14 23 817 (.iconst (2)) 1 rfl) (v := (2 : Int32)) (by decide) ?_
      refine wp_iadd (dz dl_Law_law_14 24 818 (.iadd) 1 rfl) ?_
      obtain ⟨i42, h⟩ := h
      refine wp_sald (dz dl_Law_law_14 25 819 (.iaload) 1 rfl) i42 ?_
      obtain ⟨a47, e47, h⟩ := h
      refine wp_callV a47 0 [qi (X.2 (l3 + (1 : Int32)).toNatClampNeg), qi (X.2 (l3 + (2 : Int32)).toNatClampNeg)] [] (dz dl_Law_law_14 26 820 (.invokevirtual 98) 3 rfl) ok_Net_request lm_Law_98 (by decide) ws_Net_request wv_Net_request ⟨Nat.le_of_ble_eq_true rfl, Nat.le_of_ble_eq_true rfl⟩ pn_Net_request (Nat.le_of_ble_eq_true rfl) (Nat.le_of_ble_eq_true rfl) e47 (Or.inr rfl) (Nat.zero_le _) (mt_mono h ?_)
      rintro _ g47 ⟨r47, rfl, h⟩ y47
      replace h := h y47.1 y47.2
      show nnWP _ _ _ _ _ [qi r47] _ _
      refine wp_aload_n (i := 2) (v := qr 1 l2) (dz dl_Law_law_14 27 823 (.aload_n 2) 1 rfl) rfl rfl trivial ?_
      refine wp_aload_n (i := 0) (v := qa 4095 l0) (dz dl_Law_law_14 28 824 (.aload_n 0) 1 rfl) rfl rfl trivial ?_
      refine wp_iload_n (i := 3) (x := l3) (dz dl_Law_law_14 29 825 (.iload_n 3) 1 rfl) rfl rfl ?_
      refine wp_iconst (dz dl_Law_law_14 30 826 (.iconst (1)) 1 rfl) (v := (1 : Int32)) (by decide) ?_
      refine wp_iadd (dz dl_Law_law_14 31 827 (.iadd) 1 rfl) ?_
      refine wp_sald (dz dl_Law_law_14 32 828 (.iaload) 1 rfl) i41 ?_
      refine wp_aload_n (i := 0) (v := qa 4095 l0) (dz dl_Law_law_14 33 829 (.aload_n 0) 1 rfl) rfl rfl trivial ?_
      refine wp_iload_n (i := 3) (x := l3) (dz dl_Law_law_14 34 830 (.iload_n 3) 1 rfl) rfl rfl ?_
      refine wp_iconst (dz dl_Law_law_14 35 831 (.iconst (2)) 1 rfl) (v := (2 : Int32)) (by decide) ?_
      refine wp_iadd (dz dl_Law_law_14 36 832 (.iadd) 1 rfl) ?_
      refine wp_sald (dz dl_Law_law_14 37 833 (.iaload) 1 rfl) i42 ?_
      obtain ⟨a48, e48, h⟩ := h
      refine wp_callV a48 0 [qi (X.2 (l3 + (1 : Int32)).toNatClampNeg), qi (X.2 (l3 + (2 : Int32)).toNatClampNeg)] [qi r47] (dz dl_Law_law_14 38 834 (.invokevirtual 101) 3 rfl) ok_Mod_request lm_Law_101 (by decide) ws_Mod_request wv_Mod_request ⟨Nat.le_of_ble_eq_true rfl, Nat.le_of_ble_eq_true rfl⟩ pn_Mod_request (Nat.le_of_ble_eq_true rfl) (Nat.le_of_ble_eq_true rfl) e48 (Or.inr rfl) (Nat.zero_le _) (mt_mono h ?_)
      rintro _ g48 ⟨r48, rfl, h⟩ y48
      replace h := h y48.1 y48.2
      show nnWP _ _ _ _ _ [qi r48, qi r47] _ _
      refine wp_icmp_eq (tgt := 842) (dz dl_Law_law_14 39 837 (.if_icmp .eq (5)) 3 rfl) (by decide) (fun hc => ?_) (fun hc => ?_)
      · replace h := h.1 hc
        refine wp_iinc (i := 3) (v := l3 + 5) (dz dl_Law_law_15 2 842 (.iinc 3 (5)) 3 rfl) rfl (congrArg (fun z => l3 + z) (by decide)) [qa 4095 l0, qr 0 l1, qr 1 l2, qi (l3 + 5)] (by decide) rfl ?_
        refine wp_goto (tgt := 48) (dz dl_Law_law_15 3 845 (.goto (-797)) 3 rfl) (by decide) ?_
        exact wp_cut h ⟨Or.inr rfl, Or.inr rfl, Or.inr rfl, Or.inr rfl, trivial⟩
      · replace h := h.2 hc
        refine wp_iconst (dz dl_Law_law_15 0 840 (.iconst (0)) 1 rfl) (v := (0 : Int32)) (by decide) ?_
        exact wp_rt (qi _) (rt_Z rfl (Or.inl rfl) (dz dl_Law_law_15 1 841 (.ireturn) 1 rfl)) ⟨_, rfl, h⟩
    replace h := h.2
    replace h := h ⟨hc0, hc1, hc2, hc3, hc4, hc5, hc6, hc7, hc8, hc9, hc10, hc11, hc12, hc13, hc14, hc15, hc16, hc17⟩
    have hd0 := lv_neT (a := 0) hc0 (by decide)
    have hd1 := lv_neT (a := 1) hc1 (by decide)
    have hd2 := lv_neT (a := 2) hc2 (by decide)
    have hd3 := lv_neT (a := 3) hc3 (by decide)
    have hd4 := lv_neT (a := 4) hc4 (by decide)
    have hd5 := lv_neT (a := 5) hc5 (by decide)
    have hd6 := lv_neT (a := 6) hc6 (by decide)
    have hd7 := lv_neT (a := 7) hc7 (by decide)
    have hd8 := lv_neT (a := 8) hc8 (by decide)
    have hd9 := lv_neT (a := 9) hc9 (by decide)
    have hd10 := lv_neT (a := 10) hc10 (by decide)
    have hd11 := lv_neT (a := 11) hc11 (by decide)
    have hd12 := lv_neT (a := 12) hc12 (by decide)
    have hd13 := lv_neT (a := 13) hc13 (by decide)
    have hd14 := lv_neT (a := 14) hc14 (by decide)
    have hd15 := lv_neT (a := 15) hc15 (by decide)
    have hd16 := lv_neT (a := 16) hc16 (by decide)
    have hd17 := lv_neT (a := 17) hc17 (by decide)
    refine wp_tableOut (tgt := 842) (dz dl_Law_law_0 39 62 (.tableswitch (780) (0) (17) #[(86), (111), (124), (147), (200), (259), (318), (371), (424), (457), (516), (529), (582), (605), (638), (681), (714), (747)]) 86 rfl) (by omega) (by decide) ?_
    refine wp_iinc (i := 3) (v := l3 + 5) (dz dl_Law_law_15 2 842 (.iinc 3 (5)) 3 rfl) rfl (congrArg (fun z => l3 + z) (by decide)) [qa 4095 l0, qr 0 l1, qr 1 l2, qi (l3 + 5)] (by decide) rfl ?_
    refine wp_goto (tgt := 48) (dz dl_Law_law_15 3 845 (.goto (-797)) 3 rfl) (by decide) ?_
    exact wp_cut h ⟨Or.inr rfl, Or.inr rfl, Or.inr rfl, Or.inr rfl, trivial⟩
