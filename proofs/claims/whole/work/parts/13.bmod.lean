theorem b_Mod_init_0 {X : Nat × (Nat → Int32)} {k : Nat} {g : sg} {l0 : Nat} {l1 : Int32} {l2 : Int32} {l3 : Int32} {Z : sg → Prop} (h : 2 ≤ k ∧ gA g 69 l0 = none ∧ ∀ g1, g1 = pA g 69 l0 24 → ∀ g2, g2 = pI g1 70 l0 0 (1 : Int32) → 3 ≤ (k - 2) ∧ gA g2 71 l0 = none ∧ ∀ g3, g3 = pA g2 71 l0 48 → 3 ≤ (k - 2 - 3) ∧ gA g3 72 l0 = none ∧ ∀ g4, g4 = pA g3 72 l0 48 → 9 ≤ (k - 2 - 3 - 3) ∧ gA g4 73 l0 = none ∧ ∀ g5, g5 = pA g4 73 l0 144 → 2 ≤ (k - 2 - 3 - 3 - 9) ∧ gA g5 74 l0 = none ∧ ∀ g6, g6 = pA g5 74 l0 20 → 2 ≤ (k - 2 - 3 - 3 - 9 - 2) ∧ gA g6 75 l0 = none ∧ ∀ g7, g7 = pA g6 75 l0 20 → 2 ≤ (k - 2 - 3 - 3 - 9 - 2 - 2) ∧ gA g7 76 l0 = none ∧ ∀ g8, g8 = pA g7 76 l0 20 → 50 ≤ (k - 2 - 3 - 3 - 9 - 2 - 2 - 2) ∧ gA g8 77 l0 = none ∧ ∀ g9, g9 = pA g8 77 l0 800 → 1 ≤ (k - 2 - 3 - 3 - 9 - 2 - 2 - 2 - 50) ∧ gA g9 78 l0 = none ∧ ∀ g10, g10 = pA g9 78 l0 5 → 4 ≤ (k - 2 - 3 - 3 - 9 - 2 - 2 - 2 - 50 - 1) ∧ gA g10 80 l0 = none ∧ ∀ g11, g11 = pA g10 80 l0 50 → 4 ≤ (k - 2 - 3 - 3 - 9 - 2 - 2 - 2 - 50 - 1 - 4) ∧ gA g11 81 l0 = none ∧ ∀ g12, g12 = pA g11 81 l0 50 → 16 ≤ (k - 2 - 3 - 3 - 9 - 2 - 2 - 2 - 50 - 1 - 4 - 4) ∧ gA g12 82 l0 = none ∧ ∀ g13, g13 = pA g12 82 l0 250 → 79 ≤ (k - 2 - 3 - 3 - 9 - 2 - 2 - 2 - 50 - 1 - 4 - 4 - 16) ∧ gA g13 83 l0 = none ∧ ∀ g14, g14 = pA g13 83 l0 1250 → 1 ≤ (k - 2 - 3 - 3 - 9 - 2 - 2 - 2 - 50 - 1 - 4 - 4 - 16 - 79) ∧ gA g14 84 l0 = none ∧ ∀ g15, g15 = pA g14 84 l0 5 → 2 ≤ (k - 2 - 3 - 3 - 9 - 2 - 2 - 2 - 50 - 1 - 4 - 4 - 16 - 79 - 1) ∧ gA g15 85 l0 = none ∧ ∀ g16, g16 = pA g15 85 l0 30 → 2 ≤ (k - 2 - 3 - 3 - 9 - 2 - 2 - 2 - 50 - 1 - 4 - 4 - 16 - 79 - 1 - 2) ∧ gA g16 86 l0 = none ∧ ∀ g17, g17 = pA g16 86 l0 30 → 2 ≤ (k - 2 - 3 - 3 - 9 - 2 - 2 - 2 - 50 - 1 - 4 - 4 - 16 - 79 - 1 - 2 - 2) ∧ gA g17 87 l0 = none ∧ ∀ g18, g18 = pA g17 87 l0 30 → 2 ≤ (k - 2 - 3 - 3 - 9 - 2 - 2 - 2 - 50 - 1 - 4 - 4 - 16 - 79 - 1 - 2 - 2 - 2) ∧ gA g18 88 l0 = none ∧ ∀ g19, g19 = pA g18 88 l0 30 → 3 ≤ (k - 2 - 3 - 3 - 9 - 2 - 2 - 2 - 50 - 1 - 4 - 4 - 16 - 79 - 1 - 2 - 2 - 2 - 2) ∧ gA g19 89 l0 = none ∧ ∀ g20, g20 = pA g19 89 l0 48 → 3 ≤ (k - 2 - 3 - 3 - 9 - 2 - 2 - 2 - 50 - 1 - 4 - 4 - 16 - 79 - 1 - 2 - 2 - 2 - 2 - 3) ∧ gA g20 90 l0 = none ∧ ∀ g21, g21 = pA g20 90 l0 48 → 3 ≤ (k - 2 - 3 - 3 - 9 - 2 - 2 - 2 - 50 - 1 - 4 - 4 - 16 - 79 - 1 - 2 - 2 - 2 - 2 - 3 - 3) ∧ gA g21 91 l0 = none ∧ ∀ g22, g22 = pA g21 91 l0 48 → 1 ≤ (k - 2 - 3 - 3 - 9 - 2 - 2 - 2 - 50 - 1 - 4 - 4 - 16 - 79 - 1 - 2 - 2 - 2 - 2 - 3 - 3 - 3) ∧ gA g22 92 l0 = none ∧ ∀ g23, g23 = pA g22 92 l0 5 → 2 ≤ (k - 2 - 3 - 3 - 9 - 2 - 2 - 2 - 50 - 1 - 4 - 4 - 16 - 79 - 1 - 2 - 2 - 2 - 2 - 3 - 3 - 3 - 1) ∧ gA g23 93 l0 = none ∧ ∀ g24, g24 = pA g23 93 l0 30 → 2 ≤ (k - 2 - 3 - 3 - 9 - 2 - 2 - 2 - 50 - 1 - 4 - 4 - 16 - 79 - 1 - 2 - 2 - 2 - 2 - 3 - 3 - 3 - 1 - 2) ∧ gA g24 94 l0 = none ∧ ∀ g25, g25 = pA g24 94 l0 30 → 2 ≤ (k - 2 - 3 - 3 - 9 - 2 - 2 - 2 - 50 - 1 - 4 - 4 - 16 - 79 - 1 - 2 - 2 - 2 - 2 - 3 - 3 - 3 - 1 - 2 - 2) ∧ gA g25 95 l0 = none ∧ ∀ g26, g26 = pA g25 95 l0 30 → 10 ≤ (k - 2 - 3 - 3 - 9 - 2 - 2 - 2 - 50 - 1 - 4 - 4 - 16 - 79 - 1 - 2 - 2 - 2 - 2 - 3 - 3 - 3 - 1 - 2 - 2 - 2) ∧ gA g26 96 l0 = none ∧ ∀ g27, g27 = pA g26 96 l0 150 → 10 ≤ (k - 2 - 3 - 3 - 9 - 2 - 2 - 2 - 50 - 1 - 4 - 4 - 16 - 79 - 1 - 2 - 2 - 2 - 2 - 3 - 3 - 3 - 1 - 2 - 2 - 2 - 10) ∧ gA g27 97 l0 = none ∧ ∀ g28, g28 = pA g27 97 l0 150 → 10 ≤ (k - 2 - 3 - 3 - 9 - 2 - 2 - 2 - 50 - 1 - 4 - 4 - 16 - 79 - 1 - 2 - 2 - 2 - 2 - 3 - 3 - 3 - 1 - 2 - 2 - 2 - 10 - 10) ∧ gA g28 98 l0 = none ∧ ∀ g29, g29 = pA g28 98 l0 150 → 10 ≤ (k - 2 - 3 - 3 - 9 - 2 - 2 - 2 - 50 - 1 - 4 - 4 - 16 - 79 - 1 - 2 - 2 - 2 - 2 - 3 - 3 - 3 - 1 - 2 - 2 - 2 - 10 - 10 - 10) ∧ gA g29 99 l0 = none ∧ ∀ g30, g30 = pA g29 99 l0 150 → 10 ≤ (k - 2 - 3 - 3 - 9 - 2 - 2 - 2 - 50 - 1 - 4 - 4 - 16 - 79 - 1 - 2 - 2 - 2 - 2 - 3 - 3 - 3 - 1 - 2 - 2 - 2 - 10 - 10 - 10 - 10) ∧ gA g30 100 l0 = none ∧ ∀ g31, g31 = pA g30 100 l0 150 → 8 ≤ (k - 2 - 3 - 3 - 9 - 2 - 2 - 2 - 50 - 1 - 4 - 4 - 16 - 79 - 1 - 2 - 2 - 2 - 2 - 3 - 3 - 3 - 1 - 2 - 2 - 2 - 10 - 10 - 10 - 10 - 10) ∧ gA g31 102 l0 = none ∧ ∀ g32, g32 = pA g31 102 l0 120 → 8 ≤ (k - 2 - 3 - 3 - 9 - 2 - 2 - 2 - 50 - 1 - 4 - 4 - 16 - 79 - 1 - 2 - 2 - 2 - 2 - 3 - 3 - 3 - 1 - 2 - 2 - 2 - 10 - 10 - 10 - 10 - 10 - 8) ∧ gA g32 103 l0 = none ∧ ∀ g33, g33 = pA g32 103 l0 120 → 8 ≤ (k - 2 - 3 - 3 - 9 - 2 - 2 - 2 - 50 - 1 - 4 - 4 - 16 - 79 - 1 - 2 - 2 - 2 - 2 - 3 - 3 - 3 - 1 - 2 - 2 - 2 - 10 - 10 - 10 - 10 - 10 - 8 - 8) ∧ gA g33 104 l0 = none ∧ ∀ g34, g34 = pA g33 104 l0 120 → 8 ≤ (k - 2 - 3 - 3 - 9 - 2 - 2 - 2 - 50 - 1 - 4 - 4 - 16 - 79 - 1 - 2 - 2 - 2 - 2 - 3 - 3 - 3 - 1 - 2 - 2 - 2 - 10 - 10 - 10 - 10 - 10 - 8 - 8 - 8) ∧ gA g34 105 l0 = none ∧ ∀ g35, g35 = pA g34 105 l0 120 → 8 ≤ (k - 2 - 3 - 3 - 9 - 2 - 2 - 2 - 50 - 1 - 4 - 4 - 16 - 79 - 1 - 2 - 2 - 2 - 2 - 3 - 3 - 3 - 1 - 2 - 2 - 2 - 10 - 10 - 10 - 10 - 10 - 8 - 8 - 8 - 8) ∧ gA g35 106 l0 = none ∧ ∀ g36, g36 = pA g35 106 l0 120 → 8 ≤ (k - 2 - 3 - 3 - 9 - 2 - 2 - 2 - 50 - 1 - 4 - 4 - 16 - 79 - 1 - 2 - 2 - 2 - 2 - 3 - 3 - 3 - 1 - 2 - 2 - 2 - 10 - 10 - 10 - 10 - 10 - 8 - 8 - 8 - 8 - 8) ∧ gA g36 107 l0 = none ∧ ∀ g37, g37 = pA g36 107 l0 120 → 8 ≤ (k - 2 - 3 - 3 - 9 - 2 - 2 - 2 - 50 - 1 - 4 - 4 - 16 - 79 - 1 - 2 - 2 - 2 - 2 - 3 - 3 - 3 - 1 - 2 - 2 - 2 - 10 - 10 - 10 - 10 - 10 - 8 - 8 - 8 - 8 - 8 - 8) ∧ gA g37 108 l0 = none ∧ ∀ g38, g38 = pA g37 108 l0 120 → 1 ≤ (k - 2 - 3 - 3 - 9 - 2 - 2 - 2 - 50 - 1 - 4 - 4 - 16 - 79 - 1 - 2 - 2 - 2 - 2 - 3 - 3 - 3 - 1 - 2 - 2 - 2 - 10 - 10 - 10 - 10 - 10 - 8 - 8 - 8 - 8 - 8 - 8 - 8) ∧ gA g38 109 l0 = none ∧ ∀ g39, g39 = pA g38 109 l0 5 → 1 ≤ (k - 2 - 3 - 3 - 9 - 2 - 2 - 2 - 50 - 1 - 4 - 4 - 16 - 79 - 1 - 2 - 2 - 2 - 2 - 3 - 3 - 3 - 1 - 2 - 2 - 2 - 10 - 10 - 10 - 10 - 10 - 8 - 8 - 8 - 8 - 8 - 8 - 8 - 1) ∧ gA g39 110 l0 = none ∧ ∀ g40, g40 = pA g39 110 l0 5 → 1 ≤ (k - 2 - 3 - 3 - 9 - 2 - 2 - 2 - 50 - 1 - 4 - 4 - 16 - 79 - 1 - 2 - 2 - 2 - 2 - 3 - 3 - 3 - 1 - 2 - 2 - 2 - 10 - 10 - 10 - 10 - 10 - 8 - 8 - 8 - 8 - 8 - 8 - 8 - 1 - 1) ∧ gA g40 111 l0 = none ∧ ∀ g41, g41 = pA g40 111 l0 5 → 4 ≤ (k - 2 - 3 - 3 - 9 - 2 - 2 - 2 - 50 - 1 - 4 - 4 - 16 - 79 - 1 - 2 - 2 - 2 - 2 - 3 - 3 - 3 - 1 - 2 - 2 - 2 - 10 - 10 - 10 - 10 - 10 - 8 - 8 - 8 - 8 - 8 - 8 - 8 - 1 - 1 - 1) ∧ gA g41 112 l0 = none ∧ ∀ g42, g42 = pA g41 112 l0 50 → 4 ≤ (k - 2 - 3 - 3 - 9 - 2 - 2 - 2 - 50 - 1 - 4 - 4 - 16 - 79 - 1 - 2 - 2 - 2 - 2 - 3 - 3 - 3 - 1 - 2 - 2 - 2 - 10 - 10 - 10 - 10 - 10 - 8 - 8 - 8 - 8 - 8 - 8 - 8 - 1 - 1 - 1 - 4) ∧ gA g42 113 l0 = none ∧ ∀ g43, g43 = pA g42 113 l0 50 → 4 ≤ (k - 2 - 3 - 3 - 9 - 2 - 2 - 2 - 50 - 1 - 4 - 4 - 16 - 79 - 1 - 2 - 2 - 2 - 2 - 3 - 3 - 3 - 1 - 2 - 2 - 2 - 10 - 10 - 10 - 10 - 10 - 8 - 8 - 8 - 8 - 8 - 8 - 8 - 1 - 1 - 1 - 4 - 4) ∧ gA g43 114 l0 = none ∧ ∀ g44, g44 = pA g43 114 l0 50 → 4 ≤ (k - 2 - 3 - 3 - 9 - 2 - 2 - 2 - 50 - 1 - 4 - 4 - 16 - 79 - 1 - 2 - 2 - 2 - 2 - 3 - 3 - 3 - 1 - 2 - 2 - 2 - 10 - 10 - 10 - 10 - 10 - 8 - 8 - 8 - 8 - 8 - 8 - 8 - 1 - 1 - 1 - 4 - 4 - 4) ∧ gA g44 115 l0 = none ∧ ∀ g45, g45 = pA g44 115 l0 50 → nnMT X M_Mod_within 0 [qi l1, qi (0 : Int32), qi (6 : Int32)] g45 (zI fun r1 g46 => gExt g45 g46 → ∀ g47, g47 = pI g46 64 l0 0 r1 → nnMT X M_Mod_within 0 [qi l2, qi (1 : Int32), qi (6 : Int32)] g47 (zI fun r2 g48 => gExt g47 g48 → ∀ g49, g49 = pI g48 65 l0 0 r2 → nnMT X M_Mod_within 0 [qi l3, qi (1 : Int32), qi (9 : Int32)] g49 (zI fun r3 g50 => gExt g49 g50 → ∀ g51, g51 = pI g50 66 l0 0 r3 → Z g51)))) : nnWP X M_Mod_init k 0 [qr 1 (some l0), qi l1, qi l2, qi l3] [] g (zV Z) := by
  refine wp_aload_n (i := 0) (v := qr 1 (some l0)) (dz dl_Mod_init_0 0 0 (.aload_n 0) 1 rfl) rfl rfl trivial ?_
  refine wp_objInit l0 (dz dl_Mod_init_0 1 1 (.invokespecial 1) 3 rfl) wm_Mod_1 w_oi w_oc (by decide) (by decide) (Nat.le_of_ble_eq_true rfl) rfl ?_
  refine wp_aload_n (i := 0) (v := qr 1 (some l0)) (dz dl_Mod_init_0 2 4 (.aload_n 0) 1 rfl) rfl rfl trivial ?_
  refine wp_bipush (dz dl_Mod_init_0 3 5 (.bipush (24)) 2 rfl) (v := (24 : Int32)) (by decide) ?_
  obtain ⟨u1, h⟩ := h
  obtain ⟨q1, h⟩ := h
  have h := h _ rfl
  refine wp_newA (n := 24) l0 2 (dz dl_Mod_init_0 4 7 (.newarray .char) 2 rfl) (dz dl_Mod_init_0 5 9 (.putfield 7) 3 rfl) wf_Mod_7 kd_69 rfl (by decide) (by decide) wa_1 rfl rfl rfl (by decide) (by decide) (by decide) u1 q1 rfl ?_
  refine wp_aload_n (i := 0) (v := qr 1 (some l0)) (dz dl_Mod_init_0 6 12 (.aload_n 0) 1 rfl) rfl rfl trivial ?_
  refine wp_iconst (dz dl_Mod_init_0 7 13 (.iconst (1)) 1 rfl) (v := (1 : Int32)) (by decide) ?_
  have h := h _ rfl
  refine wp_putI l0 (dz dl_Mod_init_0 8 14 (.putfield 13) 3 rfl) lk_Mod_13 kd_70 rfl rfl rfl (okI_0 _) rfl ?_
  refine wp_aload_n (i := 0) (v := qr 1 (some l0)) (dz dl_Mod_init_0 9 17 (.aload_n 0) 1 rfl) rfl rfl trivial ?_
  refine wp_bipush (dz dl_Mod_init_0 10 18 (.bipush (48)) 2 rfl) (v := (48 : Int32)) (by decide) ?_
  obtain ⟨u2, h⟩ := h
  obtain ⟨q2, h⟩ := h
  have h := h _ rfl
  refine wp_newA (n := 48) l0 3 (dz dl_Mod_init_0 11 20 (.newarray .int) 2 rfl) (dz dl_Mod_init_0 12 22 (.putfield 17) 3 rfl) wf_Mod_17 kd_71 rfl (by decide) (by decide) wa_0 rfl rfl rfl (by decide) (by decide) (by decide) u2 q2 rfl ?_
  refine wp_aload_n (i := 0) (v := qr 1 (some l0)) (dz dl_Mod_init_0 13 25 (.aload_n 0) 1 rfl) rfl rfl trivial ?_
  refine wp_bipush (dz dl_Mod_init_0 14 26 (.bipush (48)) 2 rfl) (v := (48 : Int32)) (by decide) ?_
  obtain ⟨u3, h⟩ := h
  obtain ⟨q3, h⟩ := h
  have h := h _ rfl
  refine wp_newA (n := 48) l0 3 (dz dl_Mod_init_0 15 28 (.newarray .int) 2 rfl) (dz dl_Mod_init_0 16 30 (.putfield 21) 3 rfl) wf_Mod_21 kd_72 rfl (by decide) (by decide) wa_0 rfl rfl rfl (by decide) (by decide) (by decide) u3 q3 rfl ?_
  refine wp_aload_n (i := 0) (v := qr 1 (some l0)) (dz dl_Mod_init_0 17 33 (.aload_n 0) 1 rfl) rfl rfl trivial ?_
  refine wp_sipush (dz dl_Mod_init_0 18 34 (.sipush (144)) 3 rfl) (v := (144 : Int32)) (by decide) ?_
  obtain ⟨u4, h⟩ := h
  obtain ⟨q4, h⟩ := h
  have h := h _ rfl
  refine wp_newA (n := 144) l0 9 (dz dl_Mod_init_0 19 37 (.newarray .char) 2 rfl) (dz dl_Mod_init_0 20 39 (.putfield 24) 3 rfl) wf_Mod_24 kd_73 rfl (by decide) (by decide) wa_1 rfl rfl rfl (by decide) (by decide) (by decide) u4 q4 rfl ?_
  refine wp_aload_n (i := 0) (v := qr 1 (some l0)) (dz dl_Mod_init_0 21 42 (.aload_n 0) 1 rfl) rfl rfl trivial ?_
  refine wp_bipush (dz dl_Mod_init_0 22 43 (.bipush (20)) 2 rfl) (v := (20 : Int32)) (by decide) ?_
  obtain ⟨u5, h⟩ := h
  obtain ⟨q5, h⟩ := h
  have h := h _ rfl
  refine wp_newA (n := 20) l0 2 (dz dl_Mod_init_0 23 45 (.newarray .int) 2 rfl) (dz dl_Mod_init_0 24 47 (.putfield 27) 3 rfl) wf_Mod_27 kd_74 rfl (by decide) (by decide) wa_0 rfl rfl rfl (by decide) (by decide) (by decide) u5 q5 rfl ?_
  refine wp_aload_n (i := 0) (v := qr 1 (some l0)) (dz dl_Mod_init_0 25 50 (.aload_n 0) 1 rfl) rfl rfl trivial ?_
  refine wp_bipush (dz dl_Mod_init_0 26 51 (.bipush (20)) 2 rfl) (v := (20 : Int32)) (by decide) ?_
  obtain ⟨u6, h⟩ := h
  obtain ⟨q6, h⟩ := h
  have h := h _ rfl
  refine wp_newA (n := 20) l0 2 (dz dl_Mod_init_0 27 53 (.newarray .boolean) 2 rfl) (dz dl_Mod_init_0 28 55 (.putfield 30) 3 rfl) wf_Mod_30 kd_75 rfl (by decide) (by decide) wa_2 rfl rfl rfl (by decide) (by decide) (by decide) u6 q6 rfl ?_
  refine wp_aload_n (i := 0) (v := qr 1 (some l0)) (dz dl_Mod_init_0 29 58 (.aload_n 0) 1 rfl) rfl rfl trivial ?_
  refine wp_bipush (dz dl_Mod_init_0 30 59 (.bipush (20)) 2 rfl) (v := (20 : Int32)) (by decide) ?_
  obtain ⟨u7, h⟩ := h
  obtain ⟨q7, h⟩ := h
  have h := h _ rfl
  refine wp_newA (n := 20) l0 2 (dz dl_Mod_init_0 31 61 (.newarray .int) 2 rfl) (dz dl_Mod_init_0 32 63 (.putfield 34) 3 rfl) wf_Mod_34 kd_76 rfl (by decide) (by decide) wa_0 rfl rfl rfl (by decide) (by decide) (by decide) u7 q7 rfl ?_
  refine wp_aload_n (i := 0) (v := qr 1 (some l0)) (dz dl_Mod_init_0 33 66 (.aload_n 0) 1 rfl) rfl rfl trivial ?_
  refine wp_sipush (dz dl_Mod_init_0 34 67 (.sipush (800)) 3 rfl) (v := (800 : Int32)) (by decide) ?_
  obtain ⟨u8, h⟩ := h
  obtain ⟨q8, h⟩ := h
  have h := h _ rfl
  refine wp_newA (n := 800) l0 50 (dz dl_Mod_init_0 35 70 (.newarray .int) 2 rfl) (dz dl_Mod_init_0 36 72 (.putfield 37) 3 rfl) wf_Mod_37 kd_77 rfl (by decide) (by decide) wa_0 rfl rfl rfl (by decide) (by decide) (by decide) u8 q8 rfl ?_
  refine wp_aload_n (i := 0) (v := qr 1 (some l0)) (dz dl_Mod_init_0 37 75 (.aload_n 0) 1 rfl) rfl rfl trivial ?_
  refine wp_iconst (dz dl_Mod_init_0 38 76 (.iconst (5)) 1 rfl) (v := (5 : Int32)) (by decide) ?_
  obtain ⟨u9, h⟩ := h
  obtain ⟨q9, h⟩ := h
  have h := h _ rfl
  refine wp_newA (n := 5) l0 1 (dz dl_Mod_init_0 39 77 (.newarray .int) 2 rfl) (dz dl_Mod_init_1 0 79 (.putfield 40) 3 rfl) wf_Mod_40 kd_78 rfl (by decide) (by decide) wa_0 rfl rfl rfl (by decide) (by decide) (by decide) u9 q9 rfl ?_
  refine wp_aload_n (i := 0) (v := qr 1 (some l0)) (dz dl_Mod_init_1 1 82 (.aload_n 0) 1 rfl) rfl rfl trivial ?_
  refine wp_bipush (dz dl_Mod_init_1 2 83 (.bipush (50)) 2 rfl) (v := (50 : Int32)) (by decide) ?_
  obtain ⟨u10, h⟩ := h
  obtain ⟨q10, h⟩ := h
  have h := h _ rfl
  refine wp_newA (n := 50) l0 4 (dz dl_Mod_init_1 3 85 (.newarray .int) 2 rfl) (dz dl_Mod_init_1 4 87 (.putfield 43) 3 rfl) wf_Mod_43 kd_80 rfl (by decide) (by decide) wa_0 rfl rfl rfl (by decide) (by decide) (by decide) u10 q10 rfl ?_
  refine wp_aload_n (i := 0) (v := qr 1 (some l0)) (dz dl_Mod_init_1 5 90 (.aload_n 0) 1 rfl) rfl rfl trivial ?_
  refine wp_bipush (dz dl_Mod_init_1 6 91 (.bipush (50)) 2 rfl) (v := (50 : Int32)) (by decide) ?_
  obtain ⟨u11, h⟩ := h
  obtain ⟨q11, h⟩ := h
  have h := h _ rfl
  refine wp_newA (n := 50) l0 4 (dz dl_Mod_init_1 7 93 (.newarray .int) 2 rfl) (dz dl_Mod_init_1 8 95 (.putfield 46) 3 rfl) wf_Mod_46 kd_81 rfl (by decide) (by decide) wa_0 rfl rfl rfl (by decide) (by decide) (by decide) u11 q11 rfl ?_
  refine wp_aload_n (i := 0) (v := qr 1 (some l0)) (dz dl_Mod_init_1 9 98 (.aload_n 0) 1 rfl) rfl rfl trivial ?_
  refine wp_sipush (dz dl_Mod_init_1 10 99 (.sipush (250)) 3 rfl) (v := (250 : Int32)) (by decide) ?_
  obtain ⟨u12, h⟩ := h
  obtain ⟨q12, h⟩ := h
  have h := h _ rfl
  refine wp_newA (n := 250) l0 16 (dz dl_Mod_init_1 11 102 (.newarray .int) 2 rfl) (dz dl_Mod_init_1 12 104 (.putfield 49) 3 rfl) wf_Mod_49 kd_82 rfl (by decide) (by decide) wa_0 rfl rfl rfl (by decide) (by decide) (by decide) u12 q12 rfl ?_
  refine wp_aload_n (i := 0) (v := qr 1 (some l0)) (dz dl_Mod_init_1 13 107 (.aload_n 0) 1 rfl) rfl rfl trivial ?_
  refine wp_sipush (dz dl_Mod_init_1 14 108 (.sipush (1250)) 3 rfl) (v := (1250 : Int32)) (by decide) ?_
  obtain ⟨u13, h⟩ := h
  obtain ⟨q13, h⟩ := h
  have h := h _ rfl
  refine wp_newA (n := 1250) l0 79 (dz dl_Mod_init_1 15 111 (.newarray .int) 2 rfl) (dz dl_Mod_init_1 16 113 (.putfield 52) 3 rfl) wf_Mod_52 kd_83 rfl (by decide) (by decide) wa_0 rfl rfl rfl (by decide) (by decide) (by decide) u13 q13 rfl ?_
  refine wp_aload_n (i := 0) (v := qr 1 (some l0)) (dz dl_Mod_init_1 17 116 (.aload_n 0) 1 rfl) rfl rfl trivial ?_
  refine wp_iconst (dz dl_Mod_init_1 18 117 (.iconst (5)) 1 rfl) (v := (5 : Int32)) (by decide) ?_
  obtain ⟨u14, h⟩ := h
  obtain ⟨q14, h⟩ := h
  have h := h _ rfl
  refine wp_newA (n := 5) l0 1 (dz dl_Mod_init_1 19 118 (.newarray .int) 2 rfl) (dz dl_Mod_init_1 20 120 (.putfield 55) 3 rfl) wf_Mod_55 kd_84 rfl (by decide) (by decide) wa_0 rfl rfl rfl (by decide) (by decide) (by decide) u14 q14 rfl ?_
  refine wp_aload_n (i := 0) (v := qr 1 (some l0)) (dz dl_Mod_init_1 21 123 (.aload_n 0) 1 rfl) rfl rfl trivial ?_
  refine wp_bipush (dz dl_Mod_init_1 22 124 (.bipush (30)) 2 rfl) (v := (30 : Int32)) (by decide) ?_
  obtain ⟨u15, h⟩ := h
  obtain ⟨q15, h⟩ := h
  have h := h _ rfl
  refine wp_newA (n := 30) l0 2 (dz dl_Mod_init_1 23 126 (.newarray .int) 2 rfl) (dz dl_Mod_init_1 24 128 (.putfield 58) 3 rfl) wf_Mod_58 kd_85 rfl (by decide) (by decide) wa_0 rfl rfl rfl (by decide) (by decide) (by decide) u15 q15 rfl ?_
  refine wp_aload_n (i := 0) (v := qr 1 (some l0)) (dz dl_Mod_init_1 25 131 (.aload_n 0) 1 rfl) rfl rfl trivial ?_
  refine wp_bipush (dz dl_Mod_init_1 26 132 (.bipush (30)) 2 rfl) (v := (30 : Int32)) (by decide) ?_
  obtain ⟨u16, h⟩ := h
  obtain ⟨q16, h⟩ := h
  have h := h _ rfl
  refine wp_newA (n := 30) l0 2 (dz dl_Mod_init_1 27 134 (.newarray .int) 2 rfl) (dz dl_Mod_init_1 28 136 (.putfield 61) 3 rfl) wf_Mod_61 kd_86 rfl (by decide) (by decide) wa_0 rfl rfl rfl (by decide) (by decide) (by decide) u16 q16 rfl ?_
  refine wp_aload_n (i := 0) (v := qr 1 (some l0)) (dz dl_Mod_init_1 29 139 (.aload_n 0) 1 rfl) rfl rfl trivial ?_
  refine wp_bipush (dz dl_Mod_init_1 30 140 (.bipush (30)) 2 rfl) (v := (30 : Int32)) (by decide) ?_
  obtain ⟨u17, h⟩ := h
  obtain ⟨q17, h⟩ := h
  have h := h _ rfl
  refine wp_newA (n := 30) l0 2 (dz dl_Mod_init_1 31 142 (.newarray .int) 2 rfl) (dz dl_Mod_init_1 32 144 (.putfield 64) 3 rfl) wf_Mod_64 kd_87 rfl (by decide) (by decide) wa_0 rfl rfl rfl (by decide) (by decide) (by decide) u17 q17 rfl ?_
  refine wp_aload_n (i := 0) (v := qr 1 (some l0)) (dz dl_Mod_init_1 33 147 (.aload_n 0) 1 rfl) rfl rfl trivial ?_
  refine wp_bipush (dz dl_Mod_init_1 34 148 (.bipush (30)) 2 rfl) (v := (30 : Int32)) (by decide) ?_
  obtain ⟨u18, h⟩ := h
  obtain ⟨q18, h⟩ := h
  have h := h _ rfl
  refine wp_newA (n := 30) l0 2 (dz dl_Mod_init_1 35 150 (.newarray .int) 2 rfl) (dz dl_Mod_init_1 36 152 (.putfield 67) 3 rfl) wf_Mod_67 kd_88 rfl (by decide) (by decide) wa_0 rfl rfl rfl (by decide) (by decide) (by decide) u18 q18 rfl ?_
  refine wp_aload_n (i := 0) (v := qr 1 (some l0)) (dz dl_Mod_init_1 37 155 (.aload_n 0) 1 rfl) rfl rfl trivial ?_
  refine wp_bipush (dz dl_Mod_init_1 38 156 (.bipush (48)) 2 rfl) (v := (48 : Int32)) (by decide) ?_
  obtain ⟨u19, h⟩ := h
  obtain ⟨q19, h⟩ := h
  have h := h _ rfl
  refine wp_newA (n := 48) l0 3 (dz dl_Mod_init_1 39 158 (.newarray .int) 2 rfl) (dz dl_Mod_init_2 0 160 (.putfield 70) 3 rfl) wf_Mod_70 kd_89 rfl (by decide) (by decide) wa_0 rfl rfl rfl (by decide) (by decide) (by decide) u19 q19 rfl ?_
  refine wp_aload_n (i := 0) (v := qr 1 (some l0)) (dz dl_Mod_init_2 1 163 (.aload_n 0) 1 rfl) rfl rfl trivial ?_
  refine wp_bipush (dz dl_Mod_init_2 2 164 (.bipush (48)) 2 rfl) (v := (48 : Int32)) (by decide) ?_
  obtain ⟨u20, h⟩ := h
  obtain ⟨q20, h⟩ := h
  have h := h _ rfl
  refine wp_newA (n := 48) l0 3 (dz dl_Mod_init_2 3 166 (.newarray .int) 2 rfl) (dz dl_Mod_init_2 4 168 (.putfield 73) 3 rfl) wf_Mod_73 kd_90 rfl (by decide) (by decide) wa_0 rfl rfl rfl (by decide) (by decide) (by decide) u20 q20 rfl ?_
  refine wp_aload_n (i := 0) (v := qr 1 (some l0)) (dz dl_Mod_init_2 5 171 (.aload_n 0) 1 rfl) rfl rfl trivial ?_
  refine wp_bipush (dz dl_Mod_init_2 6 172 (.bipush (48)) 2 rfl) (v := (48 : Int32)) (by decide) ?_
  obtain ⟨u21, h⟩ := h
  obtain ⟨q21, h⟩ := h
  have h := h _ rfl
  refine wp_newA (n := 48) l0 3 (dz dl_Mod_init_2 7 174 (.newarray .int) 2 rfl) (dz dl_Mod_init_2 8 176 (.putfield 76) 3 rfl) wf_Mod_76 kd_91 rfl (by decide) (by decide) wa_0 rfl rfl rfl (by decide) (by decide) (by decide) u21 q21 rfl ?_
  refine wp_aload_n (i := 0) (v := qr 1 (some l0)) (dz dl_Mod_init_2 9 179 (.aload_n 0) 1 rfl) rfl rfl trivial ?_
  refine wp_iconst (dz dl_Mod_init_2 10 180 (.iconst (5)) 1 rfl) (v := (5 : Int32)) (by decide) ?_
  obtain ⟨u22, h⟩ := h
  obtain ⟨q22, h⟩ := h
  have h := h _ rfl
  refine wp_newA (n := 5) l0 1 (dz dl_Mod_init_2 11 181 (.newarray .int) 2 rfl) (dz dl_Mod_init_2 12 183 (.putfield 79) 3 rfl) wf_Mod_79 kd_92 rfl (by decide) (by decide) wa_0 rfl rfl rfl (by decide) (by decide) (by decide) u22 q22 rfl ?_
  refine wp_aload_n (i := 0) (v := qr 1 (some l0)) (dz dl_Mod_init_2 13 186 (.aload_n 0) 1 rfl) rfl rfl trivial ?_
  refine wp_bipush (dz dl_Mod_init_2 14 187 (.bipush (30)) 2 rfl) (v := (30 : Int32)) (by decide) ?_
  obtain ⟨u23, h⟩ := h
  obtain ⟨q23, h⟩ := h
  have h := h _ rfl
  refine wp_newA (n := 30) l0 2 (dz dl_Mod_init_2 15 189 (.newarray .int) 2 rfl) (dz dl_Mod_init_2 16 191 (.putfield 82) 3 rfl) wf_Mod_82 kd_93 rfl (by decide) (by decide) wa_0 rfl rfl rfl (by decide) (by decide) (by decide) u23 q23 rfl ?_
  refine wp_aload_n (i := 0) (v := qr 1 (some l0)) (dz dl_Mod_init_2 17 194 (.aload_n 0) 1 rfl) rfl rfl trivial ?_
  refine wp_bipush (dz dl_Mod_init_2 18 195 (.bipush (30)) 2 rfl) (v := (30 : Int32)) (by decide) ?_
  obtain ⟨u24, h⟩ := h
  obtain ⟨q24, h⟩ := h
  have h := h _ rfl
  refine wp_newA (n := 30) l0 2 (dz dl_Mod_init_2 19 197 (.newarray .int) 2 rfl) (dz dl_Mod_init_2 20 199 (.putfield 85) 3 rfl) wf_Mod_85 kd_94 rfl (by decide) (by decide) wa_0 rfl rfl rfl (by decide) (by decide) (by decide) u24 q24 rfl ?_
  refine wp_aload_n (i := 0) (v := qr 1 (some l0)) (dz dl_Mod_init_2 21 202 (.aload_n 0) 1 rfl) rfl rfl trivial ?_
  refine wp_bipush (dz dl_Mod_init_2 22 203 (.bipush (30)) 2 rfl) (v := (30 : Int32)) (by decide) ?_
  obtain ⟨u25, h⟩ := h
  obtain ⟨q25, h⟩ := h
  have h := h _ rfl
  refine wp_newA (n := 30) l0 2 (dz dl_Mod_init_2 23 205 (.newarray .int) 2 rfl) (dz dl_Mod_init_2 24 207 (.putfield 88) 3 rfl) wf_Mod_88 kd_95 rfl (by decide) (by decide) wa_0 rfl rfl rfl (by decide) (by decide) (by decide) u25 q25 rfl ?_
  refine wp_aload_n (i := 0) (v := qr 1 (some l0)) (dz dl_Mod_init_2 25 210 (.aload_n 0) 1 rfl) rfl rfl trivial ?_
  refine wp_sipush (dz dl_Mod_init_2 26 211 (.sipush (150)) 3 rfl) (v := (150 : Int32)) (by decide) ?_
  obtain ⟨u26, h⟩ := h
  obtain ⟨q26, h⟩ := h
  have h := h _ rfl
  refine wp_newA (n := 150) l0 10 (dz dl_Mod_init_2 27 214 (.newarray .int) 2 rfl) (dz dl_Mod_init_2 28 216 (.putfield 91) 3 rfl) wf_Mod_91 kd_96 rfl (by decide) (by decide) wa_0 rfl rfl rfl (by decide) (by decide) (by decide) u26 q26 rfl ?_
  refine wp_aload_n (i := 0) (v := qr 1 (some l0)) (dz dl_Mod_init_2 29 219 (.aload_n 0) 1 rfl) rfl rfl trivial ?_
  refine wp_sipush (dz dl_Mod_init_2 30 220 (.sipush (150)) 3 rfl) (v := (150 : Int32)) (by decide) ?_
  obtain ⟨u27, h⟩ := h
  obtain ⟨q27, h⟩ := h
  have h := h _ rfl
  refine wp_newA (n := 150) l0 10 (dz dl_Mod_init_2 31 223 (.newarray .int) 2 rfl) (dz dl_Mod_init_2 32 225 (.putfield 94) 3 rfl) wf_Mod_94 kd_97 rfl (by decide) (by decide) wa_0 rfl rfl rfl (by decide) (by decide) (by decide) u27 q27 rfl ?_
  refine wp_aload_n (i := 0) (v := qr 1 (some l0)) (dz dl_Mod_init_2 33 228 (.aload_n 0) 1 rfl) rfl rfl trivial ?_
  refine wp_sipush (dz dl_Mod_init_2 34 229 (.sipush (150)) 3 rfl) (v := (150 : Int32)) (by decide) ?_
  obtain ⟨u28, h⟩ := h
  obtain ⟨q28, h⟩ := h
  have h := h _ rfl
  refine wp_newA (n := 150) l0 10 (dz dl_Mod_init_2 35 232 (.newarray .int) 2 rfl) (dz dl_Mod_init_2 36 234 (.putfield 97) 3 rfl) wf_Mod_97 kd_98 rfl (by decide) (by decide) wa_0 rfl rfl rfl (by decide) (by decide) (by decide) u28 q28 rfl ?_
  refine wp_aload_n (i := 0) (v := qr 1 (some l0)) (dz dl_Mod_init_2 37 237 (.aload_n 0) 1 rfl) rfl rfl trivial ?_
  refine wp_sipush (dz dl_Mod_init_2 38 238 (.sipush (150)) 3 rfl) (v := (150 : Int32)) (by decide) ?_
  obtain ⟨u29, h⟩ := h
  obtain ⟨q29, h⟩ := h
  have h := h _ rfl
  refine wp_newA (n := 150) l0 10 (dz dl_Mod_init_2 39 241 (.newarray .int) 2 rfl) (dz dl_Mod_init_3 0 243 (.putfield 100) 3 rfl) wf_Mod_100 kd_99 rfl (by decide) (by decide) wa_0 rfl rfl rfl (by decide) (by decide) (by decide) u29 q29 rfl ?_
  refine wp_aload_n (i := 0) (v := qr 1 (some l0)) (dz dl_Mod_init_3 1 246 (.aload_n 0) 1 rfl) rfl rfl trivial ?_
  refine wp_sipush (dz dl_Mod_init_3 2 247 (.sipush (150)) 3 rfl) (v := (150 : Int32)) (by decide) ?_
  obtain ⟨u30, h⟩ := h
  obtain ⟨q30, h⟩ := h
  have h := h _ rfl
  refine wp_newA (n := 150) l0 10 (dz dl_Mod_init_3 3 250 (.newarray .int) 2 rfl) (dz dl_Mod_init_3 4 252 (.putfield 103) 3 rfl) wf_Mod_103 kd_100 rfl (by decide) (by decide) wa_0 rfl rfl rfl (by decide) (by decide) (by decide) u30 q30 rfl ?_
  refine wp_aload_n (i := 0) (v := qr 1 (some l0)) (dz dl_Mod_init_3 5 255 (.aload_n 0) 1 rfl) rfl rfl trivial ?_
  refine wp_bipush (dz dl_Mod_init_3 6 256 (.bipush (120)) 2 rfl) (v := (120 : Int32)) (by decide) ?_
  obtain ⟨u31, h⟩ := h
  obtain ⟨q31, h⟩ := h
  have h := h _ rfl
  refine wp_newA (n := 120) l0 8 (dz dl_Mod_init_3 7 258 (.newarray .int) 2 rfl) (dz dl_Mod_init_3 8 260 (.putfield 106) 3 rfl) wf_Mod_106 kd_102 rfl (by decide) (by decide) wa_0 rfl rfl rfl (by decide) (by decide) (by decide) u31 q31 rfl ?_
  refine wp_aload_n (i := 0) (v := qr 1 (some l0)) (dz dl_Mod_init_3 9 263 (.aload_n 0) 1 rfl) rfl rfl trivial ?_
  refine wp_bipush (dz dl_Mod_init_3 10 264 (.bipush (120)) 2 rfl) (v := (120 : Int32)) (by decide) ?_
  obtain ⟨u32, h⟩ := h
  obtain ⟨q32, h⟩ := h
  have h := h _ rfl
  refine wp_newA (n := 120) l0 8 (dz dl_Mod_init_3 11 266 (.newarray .int) 2 rfl) (dz dl_Mod_init_3 12 268 (.putfield 109) 3 rfl) wf_Mod_109 kd_103 rfl (by decide) (by decide) wa_0 rfl rfl rfl (by decide) (by decide) (by decide) u32 q32 rfl ?_
  refine wp_aload_n (i := 0) (v := qr 1 (some l0)) (dz dl_Mod_init_3 13 271 (.aload_n 0) 1 rfl) rfl rfl trivial ?_
  refine wp_bipush (dz dl_Mod_init_3 14 272 (.bipush (120)) 2 rfl) (v := (120 : Int32)) (by decide) ?_
  obtain ⟨u33, h⟩ := h
  obtain ⟨q33, h⟩ := h
  have h := h _ rfl
  refine wp_newA (n := 120) l0 8 (dz dl_Mod_init_3 15 274 (.newarray .int) 2 rfl) (dz dl_Mod_init_3 16 276 (.putfield 112) 3 rfl) wf_Mod_112 kd_104 rfl (by decide) (by decide) wa_0 rfl rfl rfl (by decide) (by decide) (by decide) u33 q33 rfl ?_
  refine wp_aload_n (i := 0) (v := qr 1 (some l0)) (dz dl_Mod_init_3 17 279 (.aload_n 0) 1 rfl) rfl rfl trivial ?_
  refine wp_bipush (dz dl_Mod_init_3 18 280 (.bipush (120)) 2 rfl) (v := (120 : Int32)) (by decide) ?_
  obtain ⟨u34, h⟩ := h
  obtain ⟨q34, h⟩ := h
  have h := h _ rfl
  refine wp_newA (n := 120) l0 8 (dz dl_Mod_init_3 19 282 (.newarray .int) 2 rfl) (dz dl_Mod_init_3 20 284 (.putfield 115) 3 rfl) wf_Mod_115 kd_105 rfl (by decide) (by decide) wa_0 rfl rfl rfl (by decide) (by decide) (by decide) u34 q34 rfl ?_
  refine wp_aload_n (i := 0) (v := qr 1 (some l0)) (dz dl_Mod_init_3 21 287 (.aload_n 0) 1 rfl) rfl rfl trivial ?_
  refine wp_bipush (dz dl_Mod_init_3 22 288 (.bipush (120)) 2 rfl) (v := (120 : Int32)) (by decide) ?_
  obtain ⟨u35, h⟩ := h
  obtain ⟨q35, h⟩ := h
  have h := h _ rfl
  refine wp_newA (n := 120) l0 8 (dz dl_Mod_init_3 23 290 (.newarray .int) 2 rfl) (dz dl_Mod_init_3 24 292 (.putfield 118) 3 rfl) wf_Mod_118 kd_106 rfl (by decide) (by decide) wa_0 rfl rfl rfl (by decide) (by decide) (by decide) u35 q35 rfl ?_
  refine wp_aload_n (i := 0) (v := qr 1 (some l0)) (dz dl_Mod_init_3 25 295 (.aload_n 0) 1 rfl) rfl rfl trivial ?_
  refine wp_bipush (dz dl_Mod_init_3 26 296 (.bipush (120)) 2 rfl) (v := (120 : Int32)) (by decide) ?_
  obtain ⟨u36, h⟩ := h
  obtain ⟨q36, h⟩ := h
  have h := h _ rfl
  refine wp_newA (n := 120) l0 8 (dz dl_Mod_init_3 27 298 (.newarray .int) 2 rfl) (dz dl_Mod_init_3 28 300 (.putfield 121) 3 rfl) wf_Mod_121 kd_107 rfl (by decide) (by decide) wa_0 rfl rfl rfl (by decide) (by decide) (by decide) u36 q36 rfl ?_
  refine wp_aload_n (i := 0) (v := qr 1 (some l0)) (dz dl_Mod_init_3 29 303 (.aload_n 0) 1 rfl) rfl rfl trivial ?_
  refine wp_bipush (dz dl_Mod_init_3 30 304 (.bipush (120)) 2 rfl) (v := (120 : Int32)) (by decide) ?_
  obtain ⟨u37, h⟩ := h
  obtain ⟨q37, h⟩ := h
  have h := h _ rfl
  refine wp_newA (n := 120) l0 8 (dz dl_Mod_init_3 31 306 (.newarray .int) 2 rfl) (dz dl_Mod_init_3 32 308 (.putfield 124) 3 rfl) wf_Mod_124 kd_108 rfl (by decide) (by decide) wa_0 rfl rfl rfl (by decide) (by decide) (by decide) u37 q37 rfl ?_
  refine wp_aload_n (i := 0) (v := qr 1 (some l0)) (dz dl_Mod_init_3 33 311 (.aload_n 0) 1 rfl) rfl rfl trivial ?_
  refine wp_iconst (dz dl_Mod_init_3 34 312 (.iconst (5)) 1 rfl) (v := (5 : Int32)) (by decide) ?_
  obtain ⟨u38, h⟩ := h
  obtain ⟨q38, h⟩ := h
  have h := h _ rfl
  refine wp_newA (n := 5) l0 1 (dz dl_Mod_init_3 35 313 (.newarray .int) 2 rfl) (dz dl_Mod_init_3 36 315 (.putfield 127) 3 rfl) wf_Mod_127 kd_109 rfl (by decide) (by decide) wa_0 rfl rfl rfl (by decide) (by decide) (by decide) u38 q38 rfl ?_
  refine wp_aload_n (i := 0) (v := qr 1 (some l0)) (dz dl_Mod_init_3 37 318 (.aload_n 0) 1 rfl) rfl rfl trivial ?_
  refine wp_iconst (dz dl_Mod_init_3 38 319 (.iconst (5)) 1 rfl) (v := (5 : Int32)) (by decide) ?_
  obtain ⟨u39, h⟩ := h
  obtain ⟨q39, h⟩ := h
  have h := h _ rfl
  refine wp_newA (n := 5) l0 1 (dz dl_Mod_init_3 39 320 (.newarray .int) 2 rfl) (dz dl_Mod_init_4 0 322 (.putfield 130) 3 rfl) wf_Mod_130 kd_110 rfl (by decide) (by decide) wa_0 rfl rfl rfl (by decide) (by decide) (by decide) u39 q39 rfl ?_
  refine wp_aload_n (i := 0) (v := qr 1 (some l0)) (dz dl_Mod_init_4 1 325 (.aload_n 0) 1 rfl) rfl rfl trivial ?_
  refine wp_iconst (dz dl_Mod_init_4 2 326 (.iconst (5)) 1 rfl) (v := (5 : Int32)) (by decide) ?_
  obtain ⟨u40, h⟩ := h
  obtain ⟨q40, h⟩ := h
  have h := h _ rfl
  refine wp_newA (n := 5) l0 1 (dz dl_Mod_init_4 3 327 (.newarray .boolean) 2 rfl) (dz dl_Mod_init_4 4 329 (.putfield 133) 3 rfl) wf_Mod_133 kd_111 rfl (by decide) (by decide) wa_2 rfl rfl rfl (by decide) (by decide) (by decide) u40 q40 rfl ?_
  refine wp_aload_n (i := 0) (v := qr 1 (some l0)) (dz dl_Mod_init_4 5 332 (.aload_n 0) 1 rfl) rfl rfl trivial ?_
  refine wp_bipush (dz dl_Mod_init_4 6 333 (.bipush (50)) 2 rfl) (v := (50 : Int32)) (by decide) ?_
  obtain ⟨u41, h⟩ := h
  obtain ⟨q41, h⟩ := h
  have h := h _ rfl
  refine wp_newA (n := 50) l0 4 (dz dl_Mod_init_4 7 335 (.newarray .int) 2 rfl) (dz dl_Mod_init_4 8 337 (.putfield 136) 3 rfl) wf_Mod_136 kd_112 rfl (by decide) (by decide) wa_0 rfl rfl rfl (by decide) (by decide) (by decide) u41 q41 rfl ?_
  refine wp_aload_n (i := 0) (v := qr 1 (some l0)) (dz dl_Mod_init_4 9 340 (.aload_n 0) 1 rfl) rfl rfl trivial ?_
  refine wp_bipush (dz dl_Mod_init_4 10 341 (.bipush (50)) 2 rfl) (v := (50 : Int32)) (by decide) ?_
  obtain ⟨u42, h⟩ := h
  obtain ⟨q42, h⟩ := h
  have h := h _ rfl
  refine wp_newA (n := 50) l0 4 (dz dl_Mod_init_4 11 343 (.newarray .int) 2 rfl) (dz dl_Mod_init_4 12 345 (.putfield 139) 3 rfl) wf_Mod_139 kd_113 rfl (by decide) (by decide) wa_0 rfl rfl rfl (by decide) (by decide) (by decide) u42 q42 rfl ?_
  refine wp_aload_n (i := 0) (v := qr 1 (some l0)) (dz dl_Mod_init_4 13 348 (.aload_n 0) 1 rfl) rfl rfl trivial ?_
  refine wp_bipush (dz dl_Mod_init_4 14 349 (.bipush (50)) 2 rfl) (v := (50 : Int32)) (by decide) ?_
  obtain ⟨u43, h⟩ := h
  obtain ⟨q43, h⟩ := h
  have h := h _ rfl
  refine wp_newA (n := 50) l0 4 (dz dl_Mod_init_4 15 351 (.newarray .int) 2 rfl) (dz dl_Mod_init_4 16 353 (.putfield 142) 3 rfl) wf_Mod_142 kd_114 rfl (by decide) (by decide) wa_0 rfl rfl rfl (by decide) (by decide) (by decide) u43 q43 rfl ?_
  refine wp_aload_n (i := 0) (v := qr 1 (some l0)) (dz dl_Mod_init_4 17 356 (.aload_n 0) 1 rfl) rfl rfl trivial ?_
  refine wp_bipush (dz dl_Mod_init_4 18 357 (.bipush (50)) 2 rfl) (v := (50 : Int32)) (by decide) ?_
  obtain ⟨u44, h⟩ := h
  obtain ⟨q44, h⟩ := h
  have h := h _ rfl
  refine wp_newA (n := 50) l0 4 (dz dl_Mod_init_4 19 359 (.newarray .int) 2 rfl) (dz dl_Mod_init_4 20 361 (.putfield 145) 3 rfl) wf_Mod_145 kd_115 rfl (by decide) (by decide) wa_0 rfl rfl rfl (by decide) (by decide) (by decide) u44 q44 rfl ?_
  refine wp_aload_n (i := 0) (v := qr 1 (some l0)) (dz dl_Mod_init_4 21 364 (.aload_n 0) 1 rfl) rfl rfl trivial ?_
  refine wp_iload_n (i := 1) (x := l1) (dz dl_Mod_init_4 22 365 (.iload_n 1) 1 rfl) rfl rfl ?_
  refine wp_iconst (dz dl_Mod_init_4 23 366 (.iconst (0)) 1 rfl) (v := (0 : Int32)) (by decide) ?_
  refine wp_bipush (dz dl_Mod_init_4 24 367 (.bipush (6)) 2 rfl) (v := (6 : Int32)) (by decide) ?_
  refine wp_callS 0 [qi l1, qi (0 : Int32), qi (6 : Int32)] [qr 1 (some l0)] (dz dl_Mod_init_4 25 369 (.invokestatic 148) 3 rfl) ok_Mod_within lm_Mod_148 ws_Mod_within ⟨Nat.le_of_ble_eq_true rfl, Nat.le_of_ble_eq_true rfl⟩ pn_Mod_within (Nat.le_of_ble_eq_true rfl) (Nat.le_of_ble_eq_true rfl) (Or.inl rfl) (Nat.zero_le _) (mt_mono h ?_)
  rintro _ g46 ⟨r1, rfl, h⟩ y1
  replace h := h y1.1
  show nnWP _ _ _ _ _ [qi r1, qr 1 (some l0)] _ _
  have h := h _ rfl
  refine wp_putIF l0 (dz dl_Mod_init_4 26 372 (.putfield 152) 3 rfl) wf_Mod_152 kd_64 rfl rfl (okI_0 _) rfl ?_
  refine wp_aload_n (i := 0) (v := qr 1 (some l0)) (dz dl_Mod_init_4 27 375 (.aload_n 0) 1 rfl) rfl rfl trivial ?_
  refine wp_iload_n (i := 2) (x := l2) (dz dl_Mod_init_4 28 376 (.iload_n 2) 1 rfl) rfl rfl ?_
  refine wp_iconst (dz dl_Mod_init_4 29 377 (.iconst (1)) 1 rfl) (v := (1 : Int32)) (by decide) ?_
  refine wp_bipush (dz dl_Mod_init_4 30 378 (.bipush (6)) 2 rfl) (v := (6 : Int32)) (by decide) ?_
  refine wp_callS 0 [qi l2, qi (1 : Int32), qi (6 : Int32)] [qr 1 (some l0)] (dz dl_Mod_init_4 31 380 (.invokestatic 148) 3 rfl) ok_Mod_within lm_Mod_148 ws_Mod_within ⟨Nat.le_of_ble_eq_true rfl, Nat.le_of_ble_eq_true rfl⟩ pn_Mod_within (Nat.le_of_ble_eq_true rfl) (Nat.le_of_ble_eq_true rfl) (Or.inl rfl) (Nat.zero_le _) (mt_mono h ?_)
  rintro _ g48 ⟨r2, rfl, h⟩ y2
  replace h := h y2.1
  show nnWP _ _ _ _ _ [qi r2, qr 1 (some l0)] _ _
  have h := h _ rfl
  refine wp_putIF l0 (dz dl_Mod_init_4 32 383 (.putfield 155) 3 rfl) wf_Mod_155 kd_65 rfl rfl (okI_0 _) rfl ?_
  refine wp_aload_n (i := 0) (v := qr 1 (some l0)) (dz dl_Mod_init_4 33 386 (.aload_n 0) 1 rfl) rfl rfl trivial ?_
  refine wp_iload_n (i := 3) (x := l3) (dz dl_Mod_init_4 34 387 (.iload_n 3) 1 rfl) rfl rfl ?_
  refine wp_iconst (dz dl_Mod_init_4 35 388 (.iconst (1)) 1 rfl) (v := (1 : Int32)) (by decide) ?_
  refine wp_bipush (dz dl_Mod_init_4 36 389 (.bipush (9)) 2 rfl) (v := (9 : Int32)) (by decide) ?_
  refine wp_callS 0 [qi l3, qi (1 : Int32), qi (9 : Int32)] [qr 1 (some l0)] (dz dl_Mod_init_4 37 391 (.invokestatic 148) 3 rfl) ok_Mod_within lm_Mod_148 ws_Mod_within ⟨Nat.le_of_ble_eq_true rfl, Nat.le_of_ble_eq_true rfl⟩ pn_Mod_within (Nat.le_of_ble_eq_true rfl) (Nat.le_of_ble_eq_true rfl) (Or.inl rfl) (Nat.zero_le _) (mt_mono h ?_)
  rintro _ g50 ⟨r3, rfl, h⟩ y3
  replace h := h y3.1
  show nnWP _ _ _ _ _ [qi r3, qr 1 (some l0)] _ _
  have h := h _ rfl
  refine wp_putIF l0 (dz dl_Mod_init_4 38 394 (.putfield 158) 3 rfl) wf_Mod_158 kd_66 rfl rfl (okI_0 _) rfl ?_
  exact wp_rt none (rt_V rfl (dz dl_Mod_init_4 39 397 (.return_) 1 rfl)) ⟨rfl, h⟩
theorem t_Mod_init {X : Nat × (Nat → Int32)} {k : Nat} {g : sg} {l0 : Nat} {l1 : Int32} {l2 : Int32} {l3 : Int32} {Z : sg → Prop} (h : 2 ≤ k ∧ gA g 69 l0 = none ∧ ∀ g1, g1 = pA g 69 l0 24 → ∀ g2, g2 = pI g1 70 l0 0 (1 : Int32) → 3 ≤ (k - 2) ∧ gA g2 71 l0 = none ∧ ∀ g3, g3 = pA g2 71 l0 48 → 3 ≤ (k - 2 - 3) ∧ gA g3 72 l0 = none ∧ ∀ g4, g4 = pA g3 72 l0 48 → 9 ≤ (k - 2 - 3 - 3) ∧ gA g4 73 l0 = none ∧ ∀ g5, g5 = pA g4 73 l0 144 → 2 ≤ (k - 2 - 3 - 3 - 9) ∧ gA g5 74 l0 = none ∧ ∀ g6, g6 = pA g5 74 l0 20 → 2 ≤ (k - 2 - 3 - 3 - 9 - 2) ∧ gA g6 75 l0 = none ∧ ∀ g7, g7 = pA g6 75 l0 20 → 2 ≤ (k - 2 - 3 - 3 - 9 - 2 - 2) ∧ gA g7 76 l0 = none ∧ ∀ g8, g8 = pA g7 76 l0 20 → 50 ≤ (k - 2 - 3 - 3 - 9 - 2 - 2 - 2) ∧ gA g8 77 l0 = none ∧ ∀ g9, g9 = pA g8 77 l0 800 → 1 ≤ (k - 2 - 3 - 3 - 9 - 2 - 2 - 2 - 50) ∧ gA g9 78 l0 = none ∧ ∀ g10, g10 = pA g9 78 l0 5 → 4 ≤ (k - 2 - 3 - 3 - 9 - 2 - 2 - 2 - 50 - 1) ∧ gA g10 80 l0 = none ∧ ∀ g11, g11 = pA g10 80 l0 50 → 4 ≤ (k - 2 - 3 - 3 - 9 - 2 - 2 - 2 - 50 - 1 - 4) ∧ gA g11 81 l0 = none ∧ ∀ g12, g12 = pA g11 81 l0 50 → 16 ≤ (k - 2 - 3 - 3 - 9 - 2 - 2 - 2 - 50 - 1 - 4 - 4) ∧ gA g12 82 l0 = none ∧ ∀ g13, g13 = pA g12 82 l0 250 → 79 ≤ (k - 2 - 3 - 3 - 9 - 2 - 2 - 2 - 50 - 1 - 4 - 4 - 16) ∧ gA g13 83 l0 = none ∧ ∀ g14, g14 = pA g13 83 l0 1250 → 1 ≤ (k - 2 - 3 - 3 - 9 - 2 - 2 - 2 - 50 - 1 - 4 - 4 - 16 - 79) ∧ gA g14 84 l0 = none ∧ ∀ g15, g15 = pA g14 84 l0 5 → 2 ≤ (k - 2 - 3 - 3 - 9 - 2 - 2 - 2 - 50 - 1 - 4 - 4 - 16 - 79 - 1) ∧ gA g15 85 l0 = none ∧ ∀ g16, g16 = pA g15 85 l0 30 → 2 ≤ (k - 2 - 3 - 3 - 9 - 2 - 2 - 2 - 50 - 1 - 4 - 4 - 16 - 79 - 1 - 2) ∧ gA g16 86 l0 = none ∧ ∀ g17, g17 = pA g16 86 l0 30 → 2 ≤ (k - 2 - 3 - 3 - 9 - 2 - 2 - 2 - 50 - 1 - 4 - 4 - 16 - 79 - 1 - 2 - 2) ∧ gA g17 87 l0 = none ∧ ∀ g18, g18 = pA g17 87 l0 30 → 2 ≤ (k - 2 - 3 - 3 - 9 - 2 - 2 - 2 - 50 - 1 - 4 - 4 - 16 - 79 - 1 - 2 - 2 - 2) ∧ gA g18 88 l0 = none ∧ ∀ g19, g19 = pA g18 88 l0 30 → 3 ≤ (k - 2 - 3 - 3 - 9 - 2 - 2 - 2 - 50 - 1 - 4 - 4 - 16 - 79 - 1 - 2 - 2 - 2 - 2) ∧ gA g19 89 l0 = none ∧ ∀ g20, g20 = pA g19 89 l0 48 → 3 ≤ (k - 2 - 3 - 3 - 9 - 2 - 2 - 2 - 50 - 1 - 4 - 4 - 16 - 79 - 1 - 2 - 2 - 2 - 2 - 3) ∧ gA g20 90 l0 = none ∧ ∀ g21, g21 = pA g20 90 l0 48 → 3 ≤ (k - 2 - 3 - 3 - 9 - 2 - 2 - 2 - 50 - 1 - 4 - 4 - 16 - 79 - 1 - 2 - 2 - 2 - 2 - 3 - 3) ∧ gA g21 91 l0 = none ∧ ∀ g22, g22 = pA g21 91 l0 48 → 1 ≤ (k - 2 - 3 - 3 - 9 - 2 - 2 - 2 - 50 - 1 - 4 - 4 - 16 - 79 - 1 - 2 - 2 - 2 - 2 - 3 - 3 - 3) ∧ gA g22 92 l0 = none ∧ ∀ g23, g23 = pA g22 92 l0 5 → 2 ≤ (k - 2 - 3 - 3 - 9 - 2 - 2 - 2 - 50 - 1 - 4 - 4 - 16 - 79 - 1 - 2 - 2 - 2 - 2 - 3 - 3 - 3 - 1) ∧ gA g23 93 l0 = none ∧ ∀ g24, g24 = pA g23 93 l0 30 → 2 ≤ (k - 2 - 3 - 3 - 9 - 2 - 2 - 2 - 50 - 1 - 4 - 4 - 16 - 79 - 1 - 2 - 2 - 2 - 2 - 3 - 3 - 3 - 1 - 2) ∧ gA g24 94 l0 = none ∧ ∀ g25, g25 = pA g24 94 l0 30 → 2 ≤ (k - 2 - 3 - 3 - 9 - 2 - 2 - 2 - 50 - 1 - 4 - 4 - 16 - 79 - 1 - 2 - 2 - 2 - 2 - 3 - 3 - 3 - 1 - 2 - 2) ∧ gA g25 95 l0 = none ∧ ∀ g26, g26 = pA g25 95 l0 30 → 10 ≤ (k - 2 - 3 - 3 - 9 - 2 - 2 - 2 - 50 - 1 - 4 - 4 - 16 - 79 - 1 - 2 - 2 - 2 - 2 - 3 - 3 - 3 - 1 - 2 - 2 - 2) ∧ gA g26 96 l0 = none ∧ ∀ g27, g27 = pA g26 96 l0 150 → 10 ≤ (k - 2 - 3 - 3 - 9 - 2 - 2 - 2 - 50 - 1 - 4 - 4 - 16 - 79 - 1 - 2 - 2 - 2 - 2 - 3 - 3 - 3 - 1 - 2 - 2 - 2 - 10) ∧ gA g27 97 l0 = none ∧ ∀ g28, g28 = pA g27 97 l0 150 → 10 ≤ (k - 2 - 3 - 3 - 9 - 2 - 2 - 2 - 50 - 1 - 4 - 4 - 16 - 79 - 1 - 2 - 2 - 2 - 2 - 3 - 3 - 3 - 1 - 2 - 2 - 2 - 10 - 10) ∧ gA g28 98 l0 = none ∧ ∀ g29, g29 = pA g28 98 l0 150 → 10 ≤ (k - 2 - 3 - 3 - 9 - 2 - 2 - 2 - 50 - 1 - 4 - 4 - 16 - 79 - 1 - 2 - 2 - 2 - 2 - 3 - 3 - 3 - 1 - 2 - 2 - 2 - 10 - 10 - 10) ∧ gA g29 99 l0 = none ∧ ∀ g30, g30 = pA g29 99 l0 150 → 10 ≤ (k - 2 - 3 - 3 - 9 - 2 - 2 - 2 - 50 - 1 - 4 - 4 - 16 - 79 - 1 - 2 - 2 - 2 - 2 - 3 - 3 - 3 - 1 - 2 - 2 - 2 - 10 - 10 - 10 - 10) ∧ gA g30 100 l0 = none ∧ ∀ g31, g31 = pA g30 100 l0 150 → 8 ≤ (k - 2 - 3 - 3 - 9 - 2 - 2 - 2 - 50 - 1 - 4 - 4 - 16 - 79 - 1 - 2 - 2 - 2 - 2 - 3 - 3 - 3 - 1 - 2 - 2 - 2 - 10 - 10 - 10 - 10 - 10) ∧ gA g31 102 l0 = none ∧ ∀ g32, g32 = pA g31 102 l0 120 → 8 ≤ (k - 2 - 3 - 3 - 9 - 2 - 2 - 2 - 50 - 1 - 4 - 4 - 16 - 79 - 1 - 2 - 2 - 2 - 2 - 3 - 3 - 3 - 1 - 2 - 2 - 2 - 10 - 10 - 10 - 10 - 10 - 8) ∧ gA g32 103 l0 = none ∧ ∀ g33, g33 = pA g32 103 l0 120 → 8 ≤ (k - 2 - 3 - 3 - 9 - 2 - 2 - 2 - 50 - 1 - 4 - 4 - 16 - 79 - 1 - 2 - 2 - 2 - 2 - 3 - 3 - 3 - 1 - 2 - 2 - 2 - 10 - 10 - 10 - 10 - 10 - 8 - 8) ∧ gA g33 104 l0 = none ∧ ∀ g34, g34 = pA g33 104 l0 120 → 8 ≤ (k - 2 - 3 - 3 - 9 - 2 - 2 - 2 - 50 - 1 - 4 - 4 - 16 - 79 - 1 - 2 - 2 - 2 - 2 - 3 - 3 - 3 - 1 - 2 - 2 - 2 - 10 - 10 - 10 - 10 - 10 - 8 - 8 - 8) ∧ gA g34 105 l0 = none ∧ ∀ g35, g35 = pA g34 105 l0 120 → 8 ≤ (k - 2 - 3 - 3 - 9 - 2 - 2 - 2 - 50 - 1 - 4 - 4 - 16 - 79 - 1 - 2 - 2 - 2 - 2 - 3 - 3 - 3 - 1 - 2 - 2 - 2 - 10 - 10 - 10 - 10 - 10 - 8 - 8 - 8 - 8) ∧ gA g35 106 l0 = none ∧ ∀ g36, g36 = pA g35 106 l0 120 → 8 ≤ (k - 2 - 3 - 3 - 9 - 2 - 2 - 2 - 50 - 1 - 4 - 4 - 16 - 79 - 1 - 2 - 2 - 2 - 2 - 3 - 3 - 3 - 1 - 2 - 2 - 2 - 10 - 10 - 10 - 10 - 10 - 8 - 8 - 8 - 8 - 8) ∧ gA g36 107 l0 = none ∧ ∀ g37, g37 = pA g36 107 l0 120 → 8 ≤ (k - 2 - 3 - 3 - 9 - 2 - 2 - 2 - 50 - 1 - 4 - 4 - 16 - 79 - 1 - 2 - 2 - 2 - 2 - 3 - 3 - 3 - 1 - 2 - 2 - 2 - 10 - 10 - 10 - 10 - 10 - 8 - 8 - 8 - 8 - 8 - 8) ∧ gA g37 108 l0 = none ∧ ∀ g38, g38 = pA g37 108 l0 120 → 1 ≤ (k - 2 - 3 - 3 - 9 - 2 - 2 - 2 - 50 - 1 - 4 - 4 - 16 - 79 - 1 - 2 - 2 - 2 - 2 - 3 - 3 - 3 - 1 - 2 - 2 - 2 - 10 - 10 - 10 - 10 - 10 - 8 - 8 - 8 - 8 - 8 - 8 - 8) ∧ gA g38 109 l0 = none ∧ ∀ g39, g39 = pA g38 109 l0 5 → 1 ≤ (k - 2 - 3 - 3 - 9 - 2 - 2 - 2 - 50 - 1 - 4 - 4 - 16 - 79 - 1 - 2 - 2 - 2 - 2 - 3 - 3 - 3 - 1 - 2 - 2 - 2 - 10 - 10 - 10 - 10 - 10 - 8 - 8 - 8 - 8 - 8 - 8 - 8 - 1) ∧ gA g39 110 l0 = none ∧ ∀ g40, g40 = pA g39 110 l0 5 → 1 ≤ (k - 2 - 3 - 3 - 9 - 2 - 2 - 2 - 50 - 1 - 4 - 4 - 16 - 79 - 1 - 2 - 2 - 2 - 2 - 3 - 3 - 3 - 1 - 2 - 2 - 2 - 10 - 10 - 10 - 10 - 10 - 8 - 8 - 8 - 8 - 8 - 8 - 8 - 1 - 1) ∧ gA g40 111 l0 = none ∧ ∀ g41, g41 = pA g40 111 l0 5 → 4 ≤ (k - 2 - 3 - 3 - 9 - 2 - 2 - 2 - 50 - 1 - 4 - 4 - 16 - 79 - 1 - 2 - 2 - 2 - 2 - 3 - 3 - 3 - 1 - 2 - 2 - 2 - 10 - 10 - 10 - 10 - 10 - 8 - 8 - 8 - 8 - 8 - 8 - 8 - 1 - 1 - 1) ∧ gA g41 112 l0 = none ∧ ∀ g42, g42 = pA g41 112 l0 50 → 4 ≤ (k - 2 - 3 - 3 - 9 - 2 - 2 - 2 - 50 - 1 - 4 - 4 - 16 - 79 - 1 - 2 - 2 - 2 - 2 - 3 - 3 - 3 - 1 - 2 - 2 - 2 - 10 - 10 - 10 - 10 - 10 - 8 - 8 - 8 - 8 - 8 - 8 - 8 - 1 - 1 - 1 - 4) ∧ gA g42 113 l0 = none ∧ ∀ g43, g43 = pA g42 113 l0 50 → 4 ≤ (k - 2 - 3 - 3 - 9 - 2 - 2 - 2 - 50 - 1 - 4 - 4 - 16 - 79 - 1 - 2 - 2 - 2 - 2 - 3 - 3 - 3 - 1 - 2 - 2 - 2 - 10 - 10 - 10 - 10 - 10 - 8 - 8 - 8 - 8 - 8 - 8 - 8 - 1 - 1 - 1 - 4 - 4) ∧ gA g43 114 l0 = none ∧ ∀ g44, g44 = pA g43 114 l0 50 → 4 ≤ (k - 2 - 3 - 3 - 9 - 2 - 2 - 2 - 50 - 1 - 4 - 4 - 16 - 79 - 1 - 2 - 2 - 2 - 2 - 3 - 3 - 3 - 1 - 2 - 2 - 2 - 10 - 10 - 10 - 10 - 10 - 8 - 8 - 8 - 8 - 8 - 8 - 8 - 1 - 1 - 1 - 4 - 4 - 4) ∧ gA g44 115 l0 = none ∧ ∀ g45, g45 = pA g44 115 l0 50 → nnMT X M_Mod_within 0 [qi l1, qi (0 : Int32), qi (6 : Int32)] g45 (zI fun r1 g46 => gExt g45 g46 → ∀ g47, g47 = pI g46 64 l0 0 r1 → nnMT X M_Mod_within 0 [qi l2, qi (1 : Int32), qi (6 : Int32)] g47 (zI fun r2 g48 => gExt g47 g48 → ∀ g49, g49 = pI g48 65 l0 0 r2 → nnMT X M_Mod_within 0 [qi l3, qi (1 : Int32), qi (9 : Int32)] g49 (zI fun r3 g50 => gExt g49 g50 → ∀ g51, g51 = pI g50 66 l0 0 r3 → Z g51)))) : nnMT X M_Mod_init k [qr 1 (some l0), qi l1, qi l2, qi l3] g (zV Z) := b_Mod_init_0 h
