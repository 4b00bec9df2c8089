theorem mb_Mod_within_0 {u : MS} {l0 : Int32} {l1 : Int32} {l2 : Int32} {Z : Int32 → MS → Prop} (h : (l1 ≤ l0 → (l0 ≤ l2 → Z l0 u) ∧ (¬ l0 ≤ l2 → Z l2 u)) ∧ (¬ l1 ≤ l0 → Z l1 u)) : mWP M_Mod_within 0 [qi l0, qi l1, qi l2] [] u (mI Z) := by
  refine mp_iload_n (i := 0) (x := l0) (dz dl_Mod_within_0 0 0 (.iload_n 0) 1 rfl) rfl rfl ?_
  refine mp_iload_n (i := 1) (x := l1) (dz dl_Mod_within_0 1 1 (.iload_n 1) 1 rfl) rfl rfl ?_
  refine mp_icmp_ge (tgt := 9) (dz dl_Mod_within_0 2 2 (.if_icmp .ge (7)) 3 rfl) (by decide) (fun hc => ?_) (fun hc => ?_)
  · replace h := h.1 hc
    refine mp_iload_n (i := 0) (x := l0) (dz dl_Mod_within_0 5 9 (.iload_n 0) 1 rfl) rfl rfl ?_
    refine mp_iload_n (i := 2) (x := l2) (dz dl_Mod_within_0 6 10 (.iload_n 2) 1 rfl) rfl rfl ?_
    refine mp_icmp_le (tgt := 18) (dz dl_Mod_within_0 7 11 (.if_icmp .le (7)) 3 rfl) (by decide) (fun hc => ?_) (fun hc => ?_)
    · replace h := h.1 hc
      refine mp_iload_n (i := 0) (x := l0) (dz dl_Mod_within_0 10 18 (.iload_n 0) 1 rfl) rfl rfl ?_
      exact mp_rt (qi _) (rt_I rfl (dz dl_Mod_within_0 11 19 (.ireturn) 1 rfl)) ⟨_, rfl, h⟩
    · replace h := h.2 hc
      refine mp_iload_n (i := 2) (x := l2) (dz dl_Mod_within_0 8 14 (.iload_n 2) 1 rfl) rfl rfl ?_
      refine mp_goto (tgt := 19) (dz dl_Mod_within_0 9 15 (.goto (4)) 3 rfl) (by decide) ?_
      exact mp_rt (qi _) (rt_I rfl (dz dl_Mod_within_0 11 19 (.ireturn) 1 rfl)) ⟨_, rfl, h⟩
  · replace h := h.2 hc
    refine mp_iload_n (i := 1) (x := l1) (dz dl_Mod_within_0 3 5 (.iload_n 1) 1 rfl) rfl rfl ?_
    refine mp_goto (tgt := 19) (dz dl_Mod_within_0 4 6 (.goto (13)) 3 rfl) (by decide) ?_
    exact mp_rt (qi _) (rt_I rfl (dz dl_Mod_within_0 11 19 (.ireturn) 1 rfl)) ⟨_, rfl, h⟩
theorem mt_Mod_within {u : MS} {l0 : Int32} {l1 : Int32} {l2 : Int32} {Z : Int32 → MS → Prop} (h : (l1 ≤ l0 → (l0 ≤ l2 → Z l0 u) ∧ (¬ l0 ≤ l2 → Z l2 u)) ∧ (¬ l1 ≤ l0 → Z l1 u)) : mMT M_Mod_within [qi l0, qi l1, qi l2] u (mI Z) := mb_Mod_within_0 h

theorem mb_Mod_isNode_0 {u : MS} {l0 : Int32} {Z : Int32 → MS → Prop} (h : (l0 < 0 → Z (0 : Int32) u) ∧ (¬ l0 < 0 → ((4 : Int32) < l0 → Z (0 : Int32) u) ∧ (¬ (4 : Int32) < l0 → Z (1 : Int32) u))) : mWP M_Mod_isNode 0 [qi l0] [] u (mI Z) := by
  refine mp_iload_n (i := 0) (x := l0) (dz dl_Mod_isNode_0 0 0 (.iload_n 0) 1 rfl) rfl rfl ?_
  refine mp_if_lt (tgt := 13) (dz dl_Mod_isNode_0 1 1 (.ifCond .lt (12)) 3 rfl) (by decide) (fun hc => ?_) (fun hc => ?_)
  · replace h := h.1 hc
    refine mp_iconst (dz dl_Mod_isNode_0 7 13 (.iconst (0)) 1 rfl) (v := (0 : Int32)) (by decide) ?_
    exact mp_rt (qi _) (rt_Z rfl (Or.inl rfl) (dz dl_Mod_isNode_0 8 14 (.ireturn) 1 rfl)) ⟨_, rfl, h⟩
  · replace h := h.2 hc
    refine mp_iload_n (i := 0) (x := l0) (dz dl_Mod_isNode_0 2 4 (.iload_n 0) 1 rfl) rfl rfl ?_
    refine mp_iconst (dz dl_Mod_isNode_0 3 5 (.iconst (4)) 1 rfl) (v := (4 : Int32)) (by decide) ?_
    refine mp_icmp_gt (tgt := 13) (dz dl_Mod_isNode_0 4 6 (.if_icmp .gt (7)) 3 rfl) (by decide) (fun hc => ?_) (fun hc => ?_)
    · replace h := h.1 hc
      refine mp_iconst (dz dl_Mod_isNode_0 7 13 (.iconst (0)) 1 rfl) (v := (0 : Int32)) (by decide) ?_
      exact mp_rt (qi _) (rt_Z rfl (Or.inl rfl) (dz dl_Mod_isNode_0 8 14 (.ireturn) 1 rfl)) ⟨_, rfl, h⟩
    · replace h := h.2 hc
      refine mp_iconst (dz dl_Mod_isNode_0 5 9 (.iconst (1)) 1 rfl) (v := (1 : Int32)) (by decide) ?_
      refine mp_goto (tgt := 14) (dz dl_Mod_isNode_0 6 10 (.goto (4)) 3 rfl) (by decide) ?_
      exact mp_rt (qi _) (rt_Z rfl (Or.inr rfl) (dz dl_Mod_isNode_0 8 14 (.ireturn) 1 rfl)) ⟨_, rfl, h⟩
theorem mt_Mod_isNode {u : MS} {l0 : Int32} {Z : Int32 → MS → Prop} (h : (l0 < 0 → Z (0 : Int32) u) ∧ (¬ l0 < 0 → ((4 : Int32) < l0 → Z (0 : Int32) u) ∧ (¬ (4 : Int32) < l0 → Z (1 : Int32) u))) : mMT M_Mod_isNode [qi l0] u (mI Z) := mb_Mod_isNode_0 h

theorem mb_Mod_isName_0 {u : MS} {l1 : Int32} {Z : Int32 → MS → Prop} (h : (l1 < 0 → Z (0 : Int32) u) ∧ (¬ l1 < 0 → ((u 70 0) ≤ l1 → Z (0 : Int32) u) ∧ (¬ (u 70 0) ≤ l1 → Z (1 : Int32) u))) : mWP M_Mod_isName 0 [qr 1 (some 0), qi l1] [] u (mI Z) := by
  refine mp_iload_n (i := 1) (x := l1) (dz dl_Mod_isName_0 0 0 (.iload_n 1) 1 rfl) rfl rfl ?_
  refine mp_if_lt (tgt := 16) (dz dl_Mod_isName_0 1 1 (.ifCond .lt (15)) 3 rfl) (by decide) (fun hc => ?_) (fun hc => ?_)
  · replace h := h.1 hc
    refine mp_iconst (dz dl_Mod_isName_0 8 16 (.iconst (0)) 1 rfl) (v := (0 : Int32)) (by decide) ?_
    exact mp_rt (qi _) (rt_Z rfl (Or.inl rfl) (dz dl_Mod_isName_0 9 17 (.ireturn) 1 rfl)) ⟨_, rfl, h⟩
  · replace h := h.2 hc
    refine mp_iload_n (i := 1) (x := l1) (dz dl_Mod_isName_0 2 4 (.iload_n 1) 1 rfl) rfl rfl ?_
    refine mp_aload_n (i := 0) (v := qr 1 (some 0)) (dz dl_Mod_isName_0 3 5 (.aload_n 0) 1 rfl) rfl rfl trivial ?_
    refine mp_getI (dz dl_Mod_isName_0 4 6 (.getfield 13) 3 rfl) lk_Mod_13 kd_70 rfl ?_
    refine mp_icmp_ge (tgt := 16) (dz dl_Mod_isName_0 5 9 (.if_icmp .ge (7)) 3 rfl) (by decide) (fun hc => ?_) (fun hc => ?_)
    · replace h := h.1 hc
      refine mp_iconst (dz dl_Mod_isName_0 8 16 (.iconst (0)) 1 rfl) (v := (0 : Int32)) (by decide) ?_
      exact mp_rt (qi _) (rt_Z rfl (Or.inl rfl) (dz dl_Mod_isName_0 9 17 (.ireturn) 1 rfl)) ⟨_, rfl, h⟩
    · replace h := h.2 hc
      refine mp_iconst (dz dl_Mod_isName_0 6 12 (.iconst (1)) 1 rfl) (v := (1 : Int32)) (by decide) ?_
      refine mp_goto (tgt := 17) (dz dl_Mod_isName_0 7 13 (.goto (4)) 3 rfl) (by decide) ?_
      exact mp_rt (qi _) (rt_Z rfl (Or.inr rfl) (dz dl_Mod_isName_0 9 17 (.ireturn) 1 rfl)) ⟨_, rfl, h⟩
theorem mt_Mod_isName {u : MS} {l1 : Int32} {Z : Int32 → MS → Prop} (h : (l1 < 0 → Z (0 : Int32) u) ∧ (¬ l1 < 0 → ((u 70 0) ≤ l1 → Z (0 : Int32) u) ∧ (¬ (u 70 0) ≤ l1 → Z (1 : Int32) u))) : mMT M_Mod_isName [qr 1 (some 0), qi l1] u (mI Z) := mb_Mod_isName_0 h

theorem mb_Mod_isWire_0 {u : MS} {l0 : Int32} {l1 : Int32} {Z : Int32 → MS → Prop} (h : mMT M_Mod_isNode [qi l0] u (mI fun r1 u1 => (r1 = 0 → Z (0 : Int32) u1) ∧ (¬ r1 = 0 → (l1 < 0 → Z (0 : Int32) u1) ∧ (¬ l1 < 0 → ((3 : Int32) < l1 → Z (0 : Int32) u1) ∧ (¬ (3 : Int32) < l1 → Z (1 : Int32) u1))))) : mWP M_Mod_isWire 0 [qi l0, qi l1] [] u (mI Z) := by
  refine mp_iload_n (i := 0) (x := l0) (dz dl_Mod_isWire_0 0 0 (.iload_n 0) 1 rfl) rfl rfl ?_
  refine mp_callS [qi l0] [] (dz dl_Mod_isWire_0 1 1 (.invokestatic 161) 3 rfl) ok_Mod_isNode lm_Mod_161 ws_Mod_isNode ⟨Nat.le_of_ble_eq_true rfl, Nat.le_of_ble_eq_true rfl⟩ pn_Mod_isNode (Nat.le_of_ble_eq_true rfl) (Nat.le_of_ble_eq_true rfl) (Or.inl rfl) (mmono h ?_)
  rintro _ u1 ⟨r1, rfl, h⟩
  show mWP _ _ _ [qi r1] _ _
  refine mp_if_eq (tgt := 20) (dz dl_Mod_isWire_0 2 4 (.ifCond .eq (16)) 3 rfl) (by decide) (fun hc => ?_) (fun hc => ?_)
  · replace h := h.1 hc
    refine mp_iconst (dz dl_Mod_isWire_0 10 20 (.iconst (0)) 1 rfl) (v := (0 : Int32)) (by decide) ?_
    exact mp_rt (qi _) (rt_Z rfl (Or.inl rfl) (dz dl_Mod_isWire_0 11 21 (.ireturn) 1 rfl)) ⟨_, rfl, h⟩
  · replace h := h.2 hc
    refine mp_iload_n (i := 1) (x := l1) (dz dl_Mod_isWire_0 3 7 (.iload_n 1) 1 rfl) rfl rfl ?_
    refine mp_if_lt (tgt := 20) (dz dl_Mod_isWire_0 4 8 (.ifCond .lt (12)) 3 rfl) (by decide) (fun hc => ?_) (fun hc => ?_)
    · replace h := h.1 hc
      refine mp_iconst (dz dl_Mod_isWire_0 10 20 (.iconst (0)) 1 rfl) (v := (0 : Int32)) (by decide) ?_
      exact mp_rt (qi _) (rt_Z rfl (Or.inl rfl) (dz dl_Mod_isWire_0 11 21 (.ireturn) 1 rfl)) ⟨_, rfl, h⟩
    · replace h := h.2 hc
      refine mp_iload_n (i := 1) (x := l1) (dz dl_Mod_isWire_0 5 11 (.iload_n 1) 1 rfl) rfl rfl ?_
      refine mp_iconst (dz dl_Mod_isWire_0 6 12 (.iconst (3)) 1 rfl) (v := (3 : Int32)) (by decide) ?_
      refine mp_icmp_gt (tgt := 20) (dz dl_Mod_isWire_0 7 13 (.if_icmp .gt (7)) 3 rfl) (by decide) (fun hc => ?_) (fun hc => ?_)
      · replace h := h.1 hc
        refine mp_iconst (dz dl_Mod_isWire_0 10 20 (.iconst (0)) 1 rfl) (v := (0 : Int32)) (by decide) ?_
        exact mp_rt (qi _) (rt_Z rfl (Or.inl rfl) (dz dl_Mod_isWire_0 11 21 (.ireturn) 1 rfl)) ⟨_, rfl, h⟩
      · replace h := h.2 hc
        refine mp_iconst (dz dl_Mod_isWire_0 8 16 (.iconst (1)) 1 rfl) (v := (1 : Int32)) (by decide) ?_
        refine mp_goto (tgt := 21) (dz dl_Mod_isWire_0 9 17 (.goto (4)) 3 rfl) (by decide) ?_
        exact mp_rt (qi _) (rt_Z rfl (Or.inr rfl) (dz dl_Mod_isWire_0 11 21 (.ireturn) 1 rfl)) ⟨_, rfl, h⟩
theorem mt_Mod_isWire {u : MS} {l0 : Int32} {l1 : Int32} {Z : Int32 → MS → Prop} (h : mMT M_Mod_isNode [qi l0] u (mI fun r1 u1 => (r1 = 0 → Z (0 : Int32) u1) ∧ (¬ r1 = 0 → (l1 < 0 → Z (0 : Int32) u1) ∧ (¬ l1 < 0 → ((3 : Int32) < l1 → Z (0 : Int32) u1) ∧ (¬ (3 : Int32) < l1 → Z (1 : Int32) u1))))) : mMT M_Mod_isWire [qi l0, qi l1] u (mI Z) := mb_Mod_isWire_0 h

theorem mb_Mod_write_0 {u : MS} {l1 : Int32} {Z : Int32 → MS → Prop} (h : ((u 68 0) = (24 : Int32) → Z (0 : Int32) u) ∧ (¬ (u 68 0) = (24 : Int32) → (l1 < (32 : Int32) → Z (0 : Int32) u) ∧ (¬ l1 < (32 : Int32) → (l1 ≤ (126 : Int32) → vp_in (u 68 0) 24 ∧ okI 1 l1 ∧ ∀ u1, u1 = mu u 69 (u 68 0).toNatClampNeg l1 → ∀ u2, u2 = mu u1 68 0 ((u1 68 0) + (1 : Int32)) → Z (1 : Int32) u2) ∧ (¬ l1 ≤ (126 : Int32) → Z (0 : Int32) u)))) : mWP M_Mod_write 0 [qr 1 (some 0), qi l1] [] u (mI Z) := by
  refine mp_aload_n (i := 0) (v := qr 1 (some 0)) (dz dl_Mod_write_0 0 0 (.aload_n 0) 1 rfl) rfl rfl trivial ?_
  refine mp_getI (dz dl_Mod_write_0 1 1 (.getfield 165) 3 rfl) lk_Mod_165 kd_68 rfl ?_
  refine mp_bipush (dz dl_Mod_write_0 2 4 (.bipush (24)) 2 rfl) (v := (24 : Int32)) (by decide) ?_
  refine mp_icmp_eq (tgt := 21) (dz dl_Mod_write_0 3 6 (.if_icmp .eq (15)) 3 rfl) (by decide) (fun hc => ?_) (fun hc => ?_)
  · replace h := h.1 hc
    refine mp_iconst (dz dl_Mod_write_0 10 21 (.iconst (0)) 1 rfl) (v := (0 : Int32)) (by decide) ?_
    exact mp_rt (qi _) (rt_Z rfl (Or.inl rfl) (dz dl_Mod_write_0 11 22 (.ireturn) 1 rfl)) ⟨_, rfl, h⟩
  · replace h := h.2 hc
    refine mp_iload_n (i := 1) (x := l1) (dz dl_Mod_write_0 4 9 (.iload_n 1) 1 rfl) rfl rfl ?_
    refine mp_bipush (dz dl_Mod_write_0 5 10 (.bipush (32)) 2 rfl) (v := (32 : Int32)) (by decide) ?_
    refine mp_icmp_lt (tgt := 21) (dz dl_Mod_write_0 6 12 (.if_icmp .lt (9)) 3 rfl) (by decide) (fun hc => ?_) (fun hc => ?_)
    · replace h := h.1 hc
      refine mp_iconst (dz dl_Mod_write_0 10 21 (.iconst (0)) 1 rfl) (v := (0 : Int32)) (by decide) ?_
      exact mp_rt (qi _) (rt_Z rfl (Or.inl rfl) (dz dl_Mod_write_0 11 22 (.ireturn) 1 rfl)) ⟨_, rfl, h⟩
    · replace h := h.2 hc
      refine mp_iload_n (i := 1) (x := l1) (dz dl_Mod_write_0 7 15 (.iload_n 1) 1 rfl) rfl rfl ?_
      refine mp_bipush (dz dl_Mod_write_0 8 16 (.bipush (126)) 2 rfl) (v := (126 : Int32)) (by decide) ?_
      refine mp_icmp_le (tgt := 23) (dz dl_Mod_write_0 9 18 (.if_icmp .le (5)) 3 rfl) (by decide) (fun hc => ?_) (fun hc => ?_)
      · replace h := h.1 hc
        refine mp_aload_n (i := 0) (v := qr 1 (some 0)) (dz dl_Mod_write_0 12 23 (.aload_n 0) 1 rfl) rfl rfl trivial ?_
        refine mp_getA (dz dl_Mod_write_0 13 24 (.getfield 7) 3 rfl) lk_Mod_7 (q := 0) kd_69 rfl sm_69 ?_
        refine mp_aload_n (i := 0) (v := qr 1 (some 0)) (dz dl_Mod_write_0 14 27 (.aload_n 0) 1 rfl) rfl rfl trivial ?_
        refine mp_getI (dz dl_Mod_write_0 15 28 (.getfield 165) 3 rfl) lk_Mod_165 kd_68 rfl ?_
        refine mp_iload_n (i := 1) (x := l1) (dz dl_Mod_write_0 16 31 (.iload_n 1) 1 rfl) rfl rfl ?_
        obtain ⟨i1, h⟩ := h
        obtain ⟨o1, h⟩ := h
        have h := h _ rfl
        refine mp_cast (dz dl_Mod_write_0 17 32 (.castore) 1 rfl) kd_69 rfl sm_69 i1 o1 rfl ?_
        refine mp_aload_n (i := 0) (v := qr 1 (some 0)) (dz dl_Mod_write_0 18 33 (.aload_n 0) 1 rfl) rfl rfl trivial ?_
        refine mp_dup (dz dl_Mod_write_0 19 34 (.dup) 1 rfl) ?_
        refine mp_getI (dz dl_Mod_write_0 20 35 (.getfield 165) 3 rfl) lk_Mod_165 kd_68 rfl ?_
        refine mp_iconst (dz dl_Mod_write_0 21 38 (.iconst (1)) 1 rfl) (v := (1 : Int32)) (by decide) ?_
        refine mp_iadd (dz dl_Mod_write_0 22 39 (.iadd) 1 rfl) ?_
        have h := h _ rfl
        refine mp_putI (dz dl_Mod_write_0 23 40 (.putfield 165) 3 rfl) lk_Mod_165 kd_68 rfl rfl (okI_0 _) rfl ?_
        refine mp_iconst (dz dl_Mod_write_0 24 43 (.iconst (1)) 1 rfl) (v := (1 : Int32)) (by decide) ?_
        exact mp_rt (qi _) (rt_Z rfl (Or.inr rfl) (dz dl_Mod_write_0 25 44 (.ireturn) 1 rfl)) ⟨_, rfl, h⟩
      · replace h := h.2 hc
        refine mp_iconst (dz dl_Mod_write_0 10 21 (.iconst (0)) 1 rfl) (v := (0 : Int32)) (by decide) ?_
        exact mp_rt (qi _) (rt_Z rfl (Or.inl rfl) (dz dl_Mod_write_0 11 22 (.ireturn) 1 rfl)) ⟨_, rfl, h⟩
theorem mt_Mod_write {u : MS} {l1 : Int32} {Z : Int32 → MS → Prop} (h : ((u 68 0) = (24 : Int32) → Z (0 : Int32) u) ∧ (¬ (u 68 0) = (24 : Int32) → (l1 < (32 : Int32) → Z (0 : Int32) u) ∧ (¬ l1 < (32 : Int32) → (l1 ≤ (126 : Int32) → vp_in (u 68 0) 24 ∧ okI 1 l1 ∧ ∀ u1, u1 = mu u 69 (u 68 0).toNatClampNeg l1 → ∀ u2, u2 = mu u1 68 0 ((u1 68 0) + (1 : Int32)) → Z (1 : Int32) u2) ∧ (¬ l1 ≤ (126 : Int32) → Z (0 : Int32) u)))) : mMT M_Mod_write [qr 1 (some 0), qi l1] u (mI Z) := mb_Mod_write_0 h

theorem mb_Mod_at_0 {u : MS} {l1 : Int32} {Z : Int32 → MS → Prop} (h : ((u 68 0) ≤ l1 → okI 1 (47 : Int32) ∧ Z (47 : Int32) u) ∧ (¬ (u 68 0) ≤ l1 → vp_in l1 24 ∧ okI 1 (u 69 l1.toNatClampNeg) ∧ Z (u 69 l1.toNatClampNeg) u)) : mWP M_Mod_at 0 [qr 1 (some 0), qi l1] [] u (mI Z) := by
  refine mp_iload_n (i := 1) (x := l1) (dz dl_Mod_at_0 0 0 (.iload_n 1) 1 rfl) rfl rfl ?_
  refine mp_aload_n (i := 0) (v := qr 1 (some 0)) (dz dl_Mod_at_0 1 1 (.aload_n 0) 1 rfl) rfl rfl trivial ?_
  refine mp_getI (dz dl_Mod_at_0 2 2 (.getfield 165) 3 rfl) lk_Mod_165 kd_68 rfl ?_
  refine mp_icmp_ge (tgt := 17) (dz dl_Mod_at_0 3 5 (.if_icmp .ge (12)) 3 rfl) (by decide) (fun hc => ?_) (fun hc => ?_)
  · replace h := h.1 hc
    refine mp_bipush (dz dl_Mod_at_0 9 17 (.bipush (47)) 2 rfl) (v := (47 : Int32)) (by decide) ?_
    exact mp_rt (qi _) (rt_C rfl h.1 (dz dl_Mod_at_0 10 19 (.ireturn) 1 rfl)) ⟨_, rfl, h.2⟩
  · replace h := h.2 hc
    refine mp_aload_n (i := 0) (v := qr 1 (some 0)) (dz dl_Mod_at_0 4 8 (.aload_n 0) 1 rfl) rfl rfl trivial ?_
    refine mp_getA (dz dl_Mod_at_0 5 9 (.getfield 7) 3 rfl) lk_Mod_7 (q := 0) kd_69 rfl sm_69 ?_
    refine mp_iload_n (i := 1) (x := l1) (dz dl_Mod_at_0 6 12 (.iload_n 1) 1 rfl) rfl rfl ?_
    obtain ⟨i1, h⟩ := h
    refine mp_cald (dz dl_Mod_at_0 7 13 (.caload) 1 rfl) kd_69 rfl sm_69 i1 ?_
    refine mp_goto (tgt := 19) (dz dl_Mod_at_0 8 14 (.goto (5)) 3 rfl) (by decide) ?_
    exact mp_rt (qi _) (rt_C rfl h.1 (dz dl_Mod_at_0 10 19 (.ireturn) 1 rfl)) ⟨_, rfl, h.2⟩
theorem mt_Mod_at {u : MS} {l1 : Int32} {Z : Int32 → MS → Prop} (h : ((u 68 0) ≤ l1 → okI 1 (47 : Int32) ∧ Z (47 : Int32) u) ∧ (¬ (u 68 0) ≤ l1 → vp_in l1 24 ∧ okI 1 (u 69 l1.toNatClampNeg) ∧ Z (u 69 l1.toNatClampNeg) u)) : mMT M_Mod_at [qr 1 (some 0), qi l1] u (mI Z) := mb_Mod_at_0 h

theorem mb_Mod_plain_0 {u : MS} {l0 : Int32} {Z : Int32 → MS → Prop} (h : (l0 < (97 : Int32) → (l0 < (48 : Int32) → Z (0 : Int32) u) ∧ (¬ l0 < (48 : Int32) → ((57 : Int32) < l0 → Z (0 : Int32) u) ∧ (¬ (57 : Int32) < l0 → Z (1 : Int32) u))) ∧ (¬ l0 < (97 : Int32) → (l0 ≤ (122 : Int32) → Z (1 : Int32) u) ∧ (¬ l0 ≤ (122 : Int32) → (l0 < (48 : Int32) → Z (0 : Int32) u) ∧ (¬ l0 < (48 : Int32) → ((57 : Int32) < l0 → Z (0 : Int32) u) ∧ (¬ (57 : Int32) < l0 → Z (1 : Int32) u))))) : mWP M_Mod_plain 0 [qi l0] [] u (mI Z) := by
  refine mp_iload_n (i := 0) (x := l0) (dz dl_Mod_plain_0 0 0 (.iload_n 0) 1 rfl) rfl rfl ?_
  refine mp_bipush (dz dl_Mod_plain_0 1 1 (.bipush (97)) 2 rfl) (v := (97 : Int32)) (by decide) ?_
  refine mp_icmp_lt (tgt := 12) (dz dl_Mod_plain_0 2 3 (.if_icmp .lt (9)) 3 rfl) (by decide) (fun hc => ?_) (fun hc => ?_)
  · replace h := h.1 hc
    refine mp_iload_n (i := 0) (x := l0) (dz dl_Mod_plain_0 6 12 (.iload_n 0) 1 rfl) rfl rfl ?_
    refine mp_bipush (dz dl_Mod_plain_0 7 13 (.bipush (48)) 2 rfl) (v := (48 : Int32)) (by decide) ?_
    refine mp_icmp_lt (tgt := 28) (dz dl_Mod_plain_0 8 15 (.if_icmp .lt (13)) 3 rfl) (by decide) (fun hc => ?_) (fun hc => ?_)
    · replace h := h.1 hc
      refine mp_iconst (dz dl_Mod_plain_0 14 28 (.iconst (0)) 1 rfl) (v := (0 : Int32)) (by decide) ?_
      exact mp_rt (qi _) (rt_Z rfl (Or.inl rfl) (dz dl_Mod_plain_0 15 29 (.ireturn) 1 rfl)) ⟨_, rfl, h⟩
    · replace h := h.2 hc
      refine mp_iload_n (i := 0) (x := l0) (dz dl_Mod_plain_0 9 18 (.iload_n 0) 1 rfl) rfl rfl ?_
      refine mp_bipush (dz dl_Mod_plain_0 10 19 (.bipush (57)) 2 rfl) (v := (57 : Int32)) (by decide) ?_
      refine mp_icmp_gt (tgt := 28) (dz dl_Mod_plain_0 11 21 (.if_icmp .gt (7)) 3 rfl) (by decide) (fun hc => ?_) (fun hc => ?_)
      · replace h := h.1 hc
        refine mp_iconst (dz dl_Mod_plain_0 14 28 (.iconst (0)) 1 rfl) (v := (0 : Int32)) (by decide) ?_
        exact mp_rt (qi _) (rt_Z rfl (Or.inl rfl) (dz dl_Mod_plain_0 15 29 (.ireturn) 1 rfl)) ⟨_, rfl, h⟩
      · replace h := h.2 hc
        refine mp_iconst (dz dl_Mod_plain_0 12 24 (.iconst (1)) 1 rfl) (v := (1 : Int32)) (by decide) ?_
        refine mp_goto (tgt := 29) (dz dl_Mod_plain_0 13 25 (.goto (4)) 3 rfl) (by decide) ?_
        exact mp_rt (qi _) (rt_Z rfl (Or.inr rfl) (dz dl_Mod_plain_0 15 29 (.ireturn) 1 rfl)) ⟨_, rfl, h⟩
  · replace h := h.2 hc
    refine mp_iload_n (i := 0) (x := l0) (dz dl_Mod_plain_0 3 6 (.iload_n 0) 1 rfl) rfl rfl ?_
    refine mp_bipush (dz dl_Mod_plain_0 4 7 (.bipush (122)) 2 rfl) (v := (122 : Int32)) (by decide) ?_
    refine mp_icmp_le (tgt := 24) (dz dl_Mod_plain_0 5 9 (.if_icmp .le (15)) 3 rfl) (by decide) (fun hc => ?_) (fun hc => ?_)
    · replace h := h.1 hc
      refine mp_iconst (dz dl_Mod_plain_0 12 24 (.iconst (1)) 1 rfl) (v := (1 : Int32)) (by decide) ?_
      refine mp_goto (tgt := 29) (dz dl_Mod_plain_0 13 25 (.goto (4)) 3 rfl) (by decide) ?_
      exact mp_rt (qi _) (rt_Z rfl (Or.inr rfl) (dz dl_Mod_plain_0 15 29 (.ireturn) 1 rfl)) ⟨_, rfl, h⟩
    · replace h := h.2 hc
      refine mp_iload_n (i := 0) (x := l0) (dz dl_Mod_plain_0 6 12 (.iload_n 0) 1 rfl) rfl rfl ?_
      refine mp_bipush (dz dl_Mod_plain_0 7 13 (.bipush (48)) 2 rfl) (v := (48 : Int32)) (by decide) ?_
      refine mp_icmp_lt (tgt := 28) (dz dl_Mod_plain_0 8 15 (.if_icmp .lt (13)) 3 rfl) (by decide) (fun hc => ?_) (fun hc => ?_)
      · replace h := h.1 hc
        refine mp_iconst (dz dl_Mod_plain_0 14 28 (.iconst (0)) 1 rfl) (v := (0 : Int32)) (by decide) ?_
        exact mp_rt (qi _) (rt_Z rfl (Or.inl rfl) (dz dl_Mod_plain_0 15 29 (.ireturn) 1 rfl)) ⟨_, rfl, h⟩
      · replace h := h.2 hc
        refine mp_iload_n (i := 0) (x := l0) (dz dl_Mod_plain_0 9 18 (.iload_n 0) 1 rfl) rfl rfl ?_
        refine mp_bipush (dz dl_Mod_plain_0 10 19 (.bipush (57)) 2 rfl) (v := (57 : Int32)) (by decide) ?_
        refine mp_icmp_gt (tgt := 28) (dz dl_Mod_plain_0 11 21 (.if_icmp .gt (7)) 3 rfl) (by decide) (fun hc => ?_) (fun hc => ?_)
        · replace h := h.1 hc
          refine mp_iconst (dz dl_Mod_plain_0 14 28 (.iconst (0)) 1 rfl) (v := (0 : Int32)) (by decide) ?_
          exact mp_rt (qi _) (rt_Z rfl (Or.inl rfl) (dz dl_Mod_plain_0 15 29 (.ireturn) 1 rfl)) ⟨_, rfl, h⟩
        · replace h := h.2 hc
          refine mp_iconst (dz dl_Mod_plain_0 12 24 (.iconst (1)) 1 rfl) (v := (1 : Int32)) (by decide) ?_
          refine mp_goto (tgt := 29) (dz dl_Mod_plain_0 13 25 (.goto (4)) 3 rfl) (by decide) ?_
          exact mp_rt (qi _) (rt_Z rfl (Or.inr rfl) (dz dl_Mod_plain_0 15 29 (.ireturn) 1 rfl)) ⟨_, rfl, h⟩
theorem mt_Mod_plain {u : MS} {l0 : Int32} {Z : Int32 → MS → Prop} (h : (l0 < (97 : Int32) → (l0 < (48 : Int32) → Z (0 : Int32) u) ∧ (¬ l0 < (48 : Int32) → ((57 : Int32) < l0 → Z (0 : Int32) u) ∧ (¬ (57 : Int32) < l0 → Z (1 : Int32) u))) ∧ (¬ l0 < (97 : Int32) → (l0 ≤ (122 : Int32) → Z (1 : Int32) u) ∧ (¬ l0 ≤ (122 : Int32) → (l0 < (48 : Int32) → Z (0 : Int32) u) ∧ (¬ l0 < (48 : Int32) → ((57 : Int32) < l0 → Z (0 : Int32) u) ∧ (¬ (57 : Int32) < l0 → Z (1 : Int32) u))))) : mMT M_Mod_plain [qi l0] u (mI Z) := mb_Mod_plain_0 h

theorem mb_Mod_parts_0 {u : MS} {Z : Int32 → MS → Prop} (h : ((u 68 0) = 0 → Z (-1 : Int32) u) ∧ (¬ (u 68 0) = 0 → ((u 69 (0 : Int32).toNatClampNeg) = (47 : Int32) → (¬ (u 68 0) = (1 : Int32) → mWP M_Mod_parts 36 [qr 1 (some 0), qi (0 : Int32), qi (0 : Int32), qi (1 : Int32)] [] u (mI Z)) ∧ ((u 68 0) = (1 : Int32) → Z (0 : Int32) u)) ∧ (¬ (u 69 (0 : Int32).toNatClampNeg) = (47 : Int32) → Z (-1 : Int32) u))) : mWP M_Mod_parts 0 [qr 1 (some 0), none, none, none] [] u (mI Z) := by
  refine mp_aload_n (i := 0) (v := qr 1 (some 0)) (dz dl_Mod_parts_0 0 0 (.aload_n 0) 1 rfl) rfl rfl trivial ?_
  refine mp_getI (dz dl_Mod_parts_0 1 1 (.getfield 165) 3 rfl) lk_Mod_165 kd_68 rfl ?_
  refine mp_if_eq (tgt := 18) (dz dl_Mod_parts_0 2 4 (.ifCond .eq (14)) 3 rfl) (by decide) (fun hc => ?_) (fun hc => ?_)
  · replace h := h.1 hc
    refine mp_iconst (dz dl_Mod_parts_0 9 18 (.iconst (-1)) 1 rfl) (v := (-1 : Int32)) (by decide) ?_
    exact mp_rt (qi _) (rt_I rfl (dz dl_Mod_parts_0 10 19 (.ireturn) 1 rfl)) ⟨_, rfl, h⟩
  · replace h := h.2 hc
    refine mp_aload_n (i := 0) (v := qr 1 (some 0)) (dz dl_Mod_parts_0 3 7 (.aload_n 0) 1 rfl) rfl rfl trivial ?_
    refine mp_getA (dz dl_Mod_parts_0 4 8 (.getfield 7) 3 rfl) lk_Mod_7 (q := 0) kd_69 rfl sm_69 ?_
    refine mp_iconst (dz dl_Mod_parts_0 5 11 (.iconst (0)) 1 rfl) (v := (0 : Int32)) (by decide) ?_
    refine mp_cald (dz dl_Mod_parts_0 6 12 (.caload) 1 rfl) kd_69 rfl sm_69 (show ¬ ((0 : Int32) < 0 ∨ 24 ≤ (0 : Int32).toNatClampNeg) by decide) ?_
    refine mp_bipush (dz dl_Mod_parts_0 7 13 (.bipush (47)) 2 rfl) (v := (47 : Int32)) (by decide) ?_
    refine mp_icmp_eq (tgt := 20) (dz dl_Mod_parts_0 8 15 (.if_icmp .eq (5)) 3 rfl) (by decide) (fun hc => ?_) (fun hc => ?_)
    · replace h := h.1 hc
      refine mp_aload_n (i := 0) (v := qr 1 (some 0)) (dz dl_Mod_parts_0 11 20 (.aload_n 0) 1 rfl) rfl rfl trivial ?_
      refine mp_getI (dz dl_Mod_parts_0 12 21 (.getfield 165) 3 rfl) lk_Mod_165 kd_68 rfl ?_
      refine mp_iconst (dz dl_Mod_parts_0 13 24 (.iconst (1)) 1 rfl) (v := (1 : Int32)) (by decide) ?_
      refine mp_icmp_ne (tgt := 30) (dz dl_Mod_parts_0 14 25 (.if_icmp .ne (5)) 3 rfl) (by decide) (fun hc => ?_) (fun hc => ?_)
      · replace h := h.1 hc
        refine mp_iconst (dz dl_Mod_parts_0 17 30 (.iconst (0)) 1 rfl) (v := (0 : Int32)) (by decide) ?_
        refine mp_istore_n (i := 1) (dz dl_Mod_parts_0 18 31 (.istore_n 1) 1 rfl) rfl [qr 1 (some 0), qi (0 : Int32), none, none] (by decide) rfl ?_
        refine mp_iconst (dz dl_Mod_parts_0 19 32 (.iconst (0)) 1 rfl) (v := (0 : Int32)) (by decide) ?_
        refine mp_istore_n (i := 2) (dz dl_Mod_parts_0 20 33 (.istore_n 2) 1 rfl) rfl [qr 1 (some 0), qi (0 : Int32), qi (0 : Int32), none] (by decide) rfl ?_
        refine mp_iconst (dz dl_Mod_parts_0 21 34 (.iconst (1)) 1 rfl) (v := (1 : Int32)) (by decide) ?_
        refine mp_istore_n (i := 3) (dz dl_Mod_parts_0 22 35 (.istore_n 3) 1 rfl) rfl [qr 1 (some 0), qi (0 : Int32), qi (0 : Int32), qi (1 : Int32)] (by decide) rfl ?_
        exact mp_cut h ⟨Or.inr rfl, Or.inr rfl, Or.inr rfl, Or.inr rfl, trivial⟩
      · replace h := h.2 hc
        refine mp_iconst (dz dl_Mod_parts_0 15 28 (.iconst (0)) 1 rfl) (v := (0 : Int32)) (by decide) ?_
        exact mp_rt (qi _) (rt_I rfl (dz dl_Mod_parts_0 16 29 (.ireturn) 1 rfl)) ⟨_, rfl, h⟩
    · replace h := h.2 hc
      refine mp_iconst (dz dl_Mod_parts_0 9 18 (.iconst (-1)) 1 rfl) (v := (-1 : Int32)) (by decide) ?_
      exact mp_rt (qi _) (rt_I rfl (dz dl_Mod_parts_0 10 19 (.ireturn) 1 rfl)) ⟨_, rfl, h⟩
theorem mt_Mod_parts {u : MS} {Z : Int32 → MS → Prop} (h : ((u 68 0) = 0 → Z (-1 : Int32) u) ∧ (¬ (u 68 0) = 0 → ((u 69 (0 : Int32).toNatClampNeg) = (47 : Int32) → (¬ (u 68 0) = (1 : Int32) → mWP M_Mod_parts 36 [qr 1 (some 0), qi (0 : Int32), qi (0 : Int32), qi (1 : Int32)] [] u (mI Z)) ∧ ((u 68 0) = (1 : Int32) → Z (0 : Int32) u)) ∧ (¬ (u 69 (0 : Int32).toNatClampNeg) = (47 : Int32) → Z (-1 : Int32) u))) : mMT M_Mod_parts [qr 1 (some 0)] u (mI Z) := mb_Mod_parts_0 h

theorem mb_Mod_parts_36 {u : MS} {l1 : Int32} {l2 : Int32} {l3 : Int32} {Z : Int32 → MS → Prop} (h : ((u 68 0) < l3 → (l1 ≤ (4 : Int32) → Z l1 u) ∧ (¬ l1 ≤ (4 : Int32) → Z (-1 : Int32) u)) ∧ (¬ (u 68 0) < l3 → mMT M_Mod_at [qr 1 (some 0), qi l3] u (mI fun r1 u1 => (¬ r1 = (47 : Int32) → mMT M_Mod_at [qr 1 (some 0), qi l3] u1 (mI fun r2 u2 => mMT M_Mod_plain [qi r2] u2 (mI fun r3 u3 => (r3 = 0 → Z (-1 : Int32) u3) ∧ (¬ r3 = 0 → mWP M_Mod_parts 36 [qr 1 (some 0), qi l1, qi (l2 + 1), qi (l3 + 1)] [] u3 (mI Z))))) ∧ (r1 = (47 : Int32) → (l2 < (1 : Int32) → Z (-1 : Int32) u1) ∧ (¬ l2 < (1 : Int32) → (l2 ≤ (3 : Int32) → mWP M_Mod_parts 36 [qr 1 (some 0), qi (l1 + 1), qi (0 : Int32), qi (l3 + 1)] [] u1 (mI Z)) ∧ (¬ l2 ≤ (3 : Int32) → Z (-1 : Int32) u1)))))) : mWP M_Mod_parts 36 [qr 1 (some 0), qi l1, qi l2, qi l3] [] u (mI Z) := by
  refine mp_iload_n (i := 3) (x := l3) (dz dl_Mod_parts_0 23 36 (.iload_n 3) 1 rfl) rfl rfl ?_
  refine mp_aload_n (i := 0) (v := qr 1 (some 0)) (dz dl_Mod_parts_0 24 37 (.aload_n 0) 1 rfl) rfl rfl trivial ?_
  refine mp_getI (dz dl_Mod_parts_0 25 38 (.getfield 165) 3 rfl) lk_Mod_165 kd_68 rfl ?_
  refine mp_icmp_gt (tgt := 99) (dz dl_Mod_parts_0 26 41 (.if_icmp .gt (58)) 3 rfl) (by decide) (fun hc => ?_) (fun hc => ?_)
  · replace h := h.1 hc
    refine mp_iload_n (i := 1) (x := l1) (dz dl_Mod_parts_1 15 99 (.iload_n 1) 1 rfl) rfl rfl ?_
    refine mp_iconst (dz dl_Mod_parts_1 16 100 (.iconst (4)) 1 rfl) (v := (4 : Int32)) (by decide) ?_
    refine mp_icmp_le (tgt := 108) (dz dl_Mod_parts_1 17 101 (.if_icmp .le (7)) 3 rfl) (by decide) (fun hc => ?_) (fun hc => ?_)
    · replace h := h.1 hc
      refine mp_iload_n (i := 1) (x := l1) (dz dl_Mod_parts_1 20 108 (.iload_n 1) 1 rfl) rfl rfl ?_
      exact mp_rt (qi _) (rt_I rfl (dz dl_Mod_parts_1 21 109 (.ireturn) 1 rfl)) ⟨_, rfl, h⟩
    · replace h := h.2 hc
      refine mp_iconst (dz dl_Mod_parts_1 18 104 (.iconst (-1)) 1 rfl) (v := (-1 : Int32)) (by decide) ?_
      refine mp_goto (tgt := 109) (dz dl_Mod_parts_1 19 105 (.goto (4)) 3 rfl) (by decide) ?_
      exact mp_rt (qi _) (rt_I rfl (dz dl_Mod_parts_1 21 109 (.ireturn) 1 rfl)) ⟨_, rfl, h⟩
  · replace h := h.2 hc
    refine mp_aload_n (i := 0) (v := qr 1 (some 0)) (dz dl_Mod_parts_0 27 44 (.aload_n 0) 1 rfl) rfl rfl trivial ?_
    refine mp_iload_n (i := 3) (x := l3) (dz dl_Mod_parts_0 28 45 (.iload_n 3) 1 rfl) rfl rfl ?_
    refine mp_callV [qi l3] [] (dz dl_Mod_parts_0 29 46 (.invokevirtual 168) 3 rfl) ok_Mod_at lm_Mod_168 ws_Mod_at wv_Mod_at ⟨Nat.le_of_ble_eq_true rfl, Nat.le_of_ble_eq_true rfl⟩ pn_Mod_at (Nat.le_of_ble_eq_true rfl) (Nat.le_of_ble_eq_true rfl) (Or.inl rfl) (mmono h ?_)
    rintro _ u1 ⟨r1, rfl, h⟩
    show mWP _ _ _ [qi r1] _ _
    refine mp_bipush (dz dl_Mod_parts_0 30 49 (.bipush (47)) 2 rfl) (v := (47 : Int32)) (by decide) ?_
    refine mp_icmp_ne (tgt := 74) (dz dl_Mod_parts_0 31 51 (.if_icmp .ne (23)) 3 rfl) (by decide) (fun hc => ?_) (fun hc => ?_)
    · replace h := h.1 hc
      refine mp_aload_n (i := 0) (v := qr 1 (some 0)) (dz dl_Mod_parts_1 4 74 (.aload_n 0) 1 rfl) rfl rfl trivial ?_
      refine mp_iload_n (i := 3) (x := l3) (dz dl_Mod_parts_1 5 75 (.iload_n 3) 1 rfl) rfl rfl ?_
      refine mp_callV [qi l3] [] (dz dl_Mod_parts_1 6 76 (.invokevirtual 168) 3 rfl) ok_Mod_at lm_Mod_168 ws_Mod_at wv_Mod_at ⟨Nat.le_of_ble_eq_true rfl, Nat.le_of_ble_eq_true rfl⟩ pn_Mod_at (Nat.le_of_ble_eq_true rfl) (Nat.le_of_ble_eq_true rfl) (Or.inl rfl) (mmono h ?_)
      rintro _ u2 ⟨r2, rfl, h⟩
      show mWP _ _ _ [qi r2] _ _
      refine mp_callS [qi r2] [] (dz dl_Mod_parts_1 7 79 (.invokestatic 172) 3 rfl) ok_Mod_plain lm_Mod_172 ws_Mod_plain ⟨Nat.le_of_ble_eq_true rfl, Nat.le_of_ble_eq_true rfl⟩ pn_Mod_plain (Nat.le_of_ble_eq_true rfl) (Nat.le_of_ble_eq_true rfl) (Or.inl rfl) (mmono h ?_)
      rintro _ u3 ⟨r3, rfl, h⟩
      show mWP _ _ _ [qi r3] _ _
      refine mp_if_eq (tgt := 91) (dz dl_Mod_parts_1 8 82 (.ifCond .eq (9)) 3 rfl) (by decide) (fun hc => ?_) (fun hc => ?_)
      · replace h := h.1 hc
        refine mp_iconst (dz dl_Mod_parts_1 11 91 (.iconst (-1)) 1 rfl) (v := (-1 : Int32)) (by decide) ?_
        exact mp_rt (qi _) (rt_I rfl (dz dl_Mod_parts_1 12 92 (.ireturn) 1 rfl)) ⟨_, rfl, h⟩
      · replace h := h.2 hc
        refine mp_iinc (i := 2) (v := l2 + 1) (dz dl_Mod_parts_1 9 85 (.iinc 2 (1)) 3 rfl) rfl (congrArg (fun z => l2 + z) (by decide)) [qr 1 (some 0), qi l1, qi (l2 + 1), qi l3] (by decide) rfl ?_
        refine mp_goto (tgt := 93) (dz dl_Mod_parts_1 10 88 (.goto (5)) 3 rfl) (by decide) ?_
        refine mp_iinc (i := 3) (v := l3 + 1) (dz dl_Mod_parts_1 13 93 (.iinc 3 (1)) 3 rfl) rfl (congrArg (fun z => l3 + z) (by decide)) [qr 1 (some 0), qi l1, qi (l2 + 1), qi (l3 + 1)] (by decide) rfl ?_
        refine mp_goto (tgt := 36) (dz dl_Mod_parts_1 14 96 (.goto (-60)) 3 rfl) (by decide) ?_
        exact mp_cut h ⟨Or.inr rfl, Or.inr rfl, Or.inr rfl, Or.inr rfl, trivial⟩
    · replace h := h.2 hc
      refine mp_iload_n (i := 2) (x := l2) (dz dl_Mod_parts_0 32 54 (.iload_n 2) 1 rfl) rfl rfl ?_
      refine mp_iconst (dz dl_Mod_parts_0 33 55 (.iconst (1)) 1 rfl) (v := (1 : Int32)) (by decide) ?_
      refine mp_icmp_lt (tgt := 64) (dz dl_Mod_parts_0 34 56 (.if_icmp .lt (8)) 3 rfl) (by decide) (fun hc => ?_) (fun hc => ?_)
      · replace h := h.1 hc
        refine mp_iconst (dz dl_Mod_parts_0 38 64 (.iconst (-1)) 1 rfl) (v := (-1 : Int32)) (by decide) ?_
        exact mp_rt (qi _) (rt_I rfl (dz dl_Mod_parts_0 39 65 (.ireturn) 1 rfl)) ⟨_, rfl, h⟩
      · replace h := h.2 hc
        refine mp_iload_n (i := 2) (x := l2) (dz dl_Mod_parts_0 35 59 (.iload_n 2) 1 rfl) rfl rfl ?_
        refine mp_iconst (dz dl_Mod_parts_0 36 60 (.iconst (3)) 1 rfl) (v := (3 : Int32)) (by decide) ?_
        refine mp_icmp_le (tgt := 66) (dz dl_Mod_parts_0 37 61 (.if_icmp .le (5)) 3 rfl) (by decide) (fun hc => ?_) (fun hc => ?_)
        · replace h := h.1 hc
          refine mp_iinc (i := 1) (v := l1 + 1) (dz dl_Mod_parts_1 0 66 (.iinc 1 (1)) 3 rfl) rfl (congrArg (fun z => l1 + z) (by decide)) [qr 1 (some 0), qi (l1 + 1), qi l2, qi l3] (by decide) rfl ?_
          refine mp_iconst (dz dl_Mod_parts_1 1 69 (.iconst (0)) 1 rfl) (v := (0 : Int32)) (by decide) ?_
          refine mp_istore_n (i := 2) (dz dl_Mod_parts_1 2 70 (.istore_n 2) 1 rfl) rfl [qr 1 (some 0), qi (l1 + 1), qi (0 : Int32), qi l3] (by decide) rfl ?_
          refine mp_goto (tgt := 93) (dz dl_Mod_parts_1 3 71 (.goto (22)) 3 rfl) (by decide) ?_
          refine mp_iinc (i := 3) (v := l3 + 1) (dz dl_Mod_parts_1 13 93 (.iinc 3 (1)) 3 rfl) rfl (congrArg (fun z => l3 + z) (by decide)) [qr 1 (some 0), qi (l1 + 1), qi (0 : Int32), qi (l3 + 1)] (by decide) rfl ?_
          refine mp_goto (tgt := 36) (dz dl_Mod_parts_1 14 96 (.goto (-60)) 3 rfl) (by decide) ?_
          exact mp_cut h ⟨Or.inr rfl, Or.inr rfl, Or.inr rfl, Or.inr rfl, trivial⟩
        · replace h := h.2 hc
          refine mp_iconst (dz dl_Mod_parts_0 38 64 (.iconst (-1)) 1 rfl) (v := (-1 : Int32)) (by decide) ?_
          exact mp_rt (qi _) (rt_I rfl (dz dl_Mod_parts_0 39 65 (.ireturn) 1 rfl)) ⟨_, rfl, h⟩

theorem mb_Mod_child_0 {u : MS} {l1 : Int32} {l2 : Int32} {l3 : Int32} {l4 : Int32} {Z : Int32 → MS → Prop} (h : mWP M_Mod_child 3 [qr 1 (some 0), qi l1, qi l2, qi l3, qi l4, qi (1 : Int32)] [] u (mI Z)) : mWP M_Mod_child 0 [qr 1 (some 0), qi l1, qi l2, qi l3, qi l4, none] [] u (mI Z) := by
  refine mp_iconst (dz dl_Mod_child_0 0 0 (.iconst (1)) 1 rfl) (v := (1 : Int32)) (by decide) ?_
  refine mp_istore (i := 5) (dz dl_Mod_child_0 1 1 (.istore 5) 2 rfl) [qr 1 (some 0), qi l1, qi l2, qi l3, qi l4, qi (1 : Int32)] (by decide) rfl ?_
  exact mp_cut h ⟨Or.inr rfl, Or.inr rfl, Or.inr rfl, Or.inr rfl, Or.inr rfl, Or.inr rfl, trivial⟩
theorem mt_Mod_child {u : MS} {l1 : Int32} {l2 : Int32} {l3 : Int32} {l4 : Int32} {Z : Int32 → MS → Prop} (h : mWP M_Mod_child 3 [qr 1 (some 0), qi l1, qi l2, qi l3, qi l4, qi (1 : Int32)] [] u (mI Z)) : mMT M_Mod_child [qr 1 (some 0), qi l1, qi l2, qi l3, qi l4] u (mI Z) := mb_Mod_child_0 h

theorem mb_Mod_child_3 {u : MS} {l1 : Int32} {l2 : Int32} {l3 : Int32} {l4 : Int32} {l5 : Int32} {Z : Int32 → MS → Prop} (h : ((u 70 0) ≤ l5 → Z (-1 : Int32) u) ∧ (¬ (u 70 0) ≤ l5 → vp_in l5 48 ∧ (¬ (u 71 l5.toNatClampNeg) = l1 → mWP M_Mod_child 3 [qr 1 (some 0), qi l1, qi l2, qi l3, qi l4, qi (l5 + 1)] [] u (mI Z)) ∧ ((u 71 l5.toNatClampNeg) = l1 → vp_in ((3 : Int32) * l5) 144 ∧ (¬ (u 73 ((3 : Int32) * l5).toNatClampNeg) = l2 → mWP M_Mod_child 3 [qr 1 (some 0), qi l1, qi l2, qi l3, qi l4, qi (l5 + 1)] [] u (mI Z)) ∧ ((u 73 ((3 : Int32) * l5).toNatClampNeg) = l2 → vp_in (((3 : Int32) * l5) + (1 : Int32)) 144 ∧ (¬ (u 73 (((3 : Int32) * l5) + (1 : Int32)).toNatClampNeg) = l3 → mWP M_Mod_child 3 [qr 1 (some 0), qi l1, qi l2, qi l3, qi l4, qi (l5 + 1)] [] u (mI Z)) ∧ ((u 73 (((3 : Int32) * l5) + (1 : Int32)).toNatClampNeg) = l3 → vp_in (((3 : Int32) * l5) + (2 : Int32)) 144 ∧ (¬ (u 73 (((3 : Int32) * l5) + (2 : Int32)).toNatClampNeg) = l4 → mWP M_Mod_child 3 [qr 1 (some 0), qi l1, qi l2, qi l3, qi l4, qi (l5 + 1)] [] u (mI Z)) ∧ ((u 73 (((3 : Int32) * l5) + (2 : Int32)).toNatClampNeg) = l4 → Z l5 u)))))) : mWP M_Mod_child 3 [qr 1 (some 0), qi l1, qi l2, qi l3, qi l4, qi l5] [] u (mI Z) := by
  refine mp_iload (i := 5) (x := l5) (dz dl_Mod_child_0 2 3 (.iload 5) 2 rfl) rfl ?_
  refine mp_aload_n (i := 0) (v := qr 1 (some 0)) (dz dl_Mod_child_0 3 5 (.aload_n 0) 1 rfl) rfl rfl trivial ?_
  refine mp_getI (dz dl_Mod_child_0 4 6 (.getfield 13) 3 rfl) lk_Mod_13 kd_70 rfl ?_
  refine mp_icmp_ge (tgt := 76) (dz dl_Mod_child_0 5 9 (.if_icmp .ge (67)) 3 rfl) (by decide) (fun hc => ?_) (fun hc => ?_)
  · replace h := h.1 hc
    refine mp_iconst (dz dl_Mod_child_1 4 76 (.iconst (-1)) 1 rfl) (v := (-1 : Int32)) (by decide) ?_
    exact mp_rt (qi _) (rt_I rfl (dz dl_Mod_child_1 5 77 (.ireturn) 1 rfl)) ⟨_, rfl, h⟩
  · replace h := h.2 hc
    refine mp_aload_n (i := 0) (v := qr 1 (some 0)) (dz dl_Mod_child_0 6 12 (.aload_n 0) 1 rfl) rfl rfl trivial ?_
    refine mp_getA (dz dl_Mod_child_0 7 13 (.getfield 17) 3 rfl) lk_Mod_17 (q := 0) kd_71 rfl sm_71 ?_
    refine mp_iload (i := 5) (x := l5) (dz dl_Mod_child_0 8 16 (.iload 5) 2 rfl) rfl ?_
    obtain ⟨i1, h⟩ := h
    refine mp_iald (dz dl_Mod_child_0 9 18 (.iaload) 1 rfl) kd_71 rfl sm_71 i1 ?_
    refine mp_iload_n (i := 1) (x := l1) (dz dl_Mod_child_0 10 19 (.iload_n 1) 1 rfl) rfl rfl ?_
    refine mp_icmp_ne (tgt := 70) (dz dl_Mod_child_0 11 20 (.if_icmp .ne (50)) 3 rfl) (by decide) (fun hc => ?_) (fun hc => ?_)
    · replace h := h.1 hc
      refine mp_iinc (i := 5) (v := l5 + 1) (dz dl_Mod_child_1 2 70 (.iinc 5 (1)) 3 rfl) rfl (congrArg (fun z => l5 + z) (by decide)) [qr 1 (some 0), qi l1, qi l2, qi l3, qi l4, qi (l5 + 1)] (by decide) rfl ?_
      refine mp_goto (tgt := 3) (dz dl_Mod_child_1 3 73 (.goto (-70)) 3 rfl) (by decide) ?_
      exact mp_cut h ⟨Or.inr rfl, Or.inr rfl, Or.inr rfl, Or.inr rfl, Or.inr rfl, Or.inr rfl, trivial⟩
    · replace h := h.2 hc
      refine mp_aload_n (i := 0) (v := qr 1 (some 0)) (dz dl_Mod_child_0 12 23 (.aload_n 0) 1 rfl) rfl rfl trivial ?_
      refine mp_getA (dz dl_Mod_child_0 13 24 (.getfield 24) 3 rfl) lk_Mod_24 (q := 0) kd_73 rfl sm_73 ?_
      refine mp_iconst (dz dl_Mod_child_0 14 27 (.iconst (3)) 1 rfl) (v := (3 : Int32)) (by decide) ?_
      refine mp_iload (i := 5) (x := l5) (dz dl_Mod_child_0 15 28 (.iload 5) 2 rfl) rfl ?_
      refine mp_imul (dz dl_Mod_child_0 16 30 (.imul) 1 rfl) ?_
      obtain ⟨i2, h⟩ := h
      refine mp_cald (dz dl_Mod_child_0 17 31 (.caload) 1 rfl) kd_73 rfl sm_73 i2 ?_
      refine mp_iload_n (i := 2) (x := l2) (dz dl_Mod_child_0 18 32 (.iload_n 2) 1 rfl) rfl rfl ?_
      refine mp_icmp_ne (tgt := 70) (dz dl_Mod_child_0 19 33 (.if_icmp .ne (37)) 3 rfl) (by decide) (fun hc => ?_) (fun hc => ?_)
      · replace h := h.1 hc
        refine mp_iinc (i := 5) (v := l5 + 1) (dz dl_Mod_child_1 2 70 (.iinc 5 (1)) 3 rfl) rfl (congrArg (fun z => l5 + z) (by decide)) [qr 1 (some 0), qi l1, qi l2, qi l3, qi l4, qi (l5 + 1)] (by decide) rfl ?_
        refine mp_goto (tgt := 3) (dz dl_Mod_child_1 3 73 (.goto (-70)) 3 rfl) (by decide) ?_
        exact mp_cut h ⟨Or.inr rfl, Or.inr rfl, Or.inr rfl, Or.inr rfl, Or.inr rfl, Or.inr rfl, trivial⟩
      · replace h := h.2 hc
        refine mp_aload_n (i := 0) (v := qr 1 (some 0)) (dz dl_Mod_child_0 20 36 (.aload_n 0) 1 rfl) rfl rfl trivial ?_
        refine mp_getA (dz dl_Mod_child_0 21 37 (.getfield 24) 3 rfl) lk_Mod_24 (q := 0) kd_73 rfl sm_73 ?_
        refine mp_iconst (dz dl_Mod_child_0 22 40 (.iconst (3)) 1 rfl) (v := (3 : Int32)) (by decide) ?_
        refine mp_iload (i := 5) (x := l5) (dz dl_Mod_child_0 23 41 (.iload 5) 2 rfl) rfl ?_
        refine mp_imul (dz dl_Mod_child_0 24 43 (.imul) 1 rfl) ?_
        refine mp_iconst (dz dl_Mod_child_0 25 44 (.iconst (1)) 1 rfl) (v := (1 : Int32)) (by decide) ?_
        refine mp_iadd (dz dl_Mod_child_0 26 45 (.iadd) 1 rfl) ?_
        obtain ⟨i3, h⟩ := h
        refine mp_cald (dz dl_Mod_child_0 27 46 (.caload) 1 rfl) kd_73 rfl sm_73 i3 ?_
        refine mp_iload_n (i := 3) (x := l3) (dz dl_Mod_child_0 28 47 (.iload_n 3) 1 rfl) rfl rfl ?_
        refine mp_icmp_ne (tgt := 70) (dz dl_Mod_child_0 29 48 (.if_icmp .ne (22)) 3 rfl) (by decide) (fun hc => ?_) (fun hc => ?_)
        · replace h := h.1 hc
          refine mp_iinc (i := 5) (v := l5 + 1) (dz dl_Mod_child_1 2 70 (.iinc 5 (1)) 3 rfl) rfl (congrArg (fun z => l5 + z) (by decide)) [qr 1 (some 0), qi l1, qi l2, qi l3, qi l4, qi (l5 + 1)] (by decide) rfl ?_
          refine mp_goto (tgt := 3) (dz dl_Mod_child_1 3 73 (.goto (-70)) 3 rfl) (by decide) ?_
          exact mp_cut h ⟨Or.inr rfl, Or.inr rfl, Or.inr rfl, Or.inr rfl, Or.inr rfl, Or.inr rfl, trivial⟩
        · replace h := h.2 hc
          refine mp_aload_n (i := 0) (v := qr 1 (some 0)) (dz dl_Mod_child_0 30 51 (.aload_n 0) 1 rfl) rfl rfl trivial ?_
          refine mp_getA (dz dl_Mod_child_0 31 52 (.getfield 24) 3 rfl) lk_Mod_24 (q := 0) kd_73 rfl sm_73 ?_
          refine mp_iconst (dz dl_Mod_child_0 32 55 (.iconst (3)) 1 rfl) (v := (3 : Int32)) (by decide) ?_
          refine mp_iload (i := 5) (x := l5) (dz dl_Mod_child_0 33 56 (.iload 5) 2 rfl) rfl ?_
          refine mp_imul (dz dl_Mod_child_0 34 58 (.imul) 1 rfl) ?_
          refine mp_iconst (dz dl_Mod_child_0 35 59 (.iconst (2)) 1 rfl) (v := (2 : Int32)) (by decide) ?_
          refine mp_iadd (dz dl_Mod_child_0 36 60 (.iadd) 1 rfl) ?_
          obtain ⟨i4, h⟩ := h
          refine mp_cald (dz dl_Mod_child_0 37 61 (.caload) 1 rfl) kd_73 rfl sm_73 i4 ?_
          refine mp_iload (i := 4) (x := l4) (dz dl_Mod_child_0 38 62 (.iload 4) 2 rfl) rfl ?_
          refine mp_icmp_ne (tgt := 70) (dz dl_Mod_child_0 39 64 (.if_icmp .ne (6)) 3 rfl) (by decide) (fun hc => ?_) (fun hc => ?_)
          · replace h := h.1 hc
            refine mp_iinc (i := 5) (v := l5 + 1) (dz dl_Mod_child_1 2 70 (.iinc 5 (1)) 3 rfl) rfl (congrArg (fun z => l5 + z) (by decide)) [qr 1 (some 0), qi l1, qi l2, qi l3, qi l4, qi (l5 + 1)] (by decide) rfl ?_
            refine mp_goto (tgt := 3) (dz dl_Mod_child_1 3 73 (.goto (-70)) 3 rfl) (by decide) ?_
            exact mp_cut h ⟨Or.inr rfl, Or.inr rfl, Or.inr rfl, Or.inr rfl, Or.inr rfl, Or.inr rfl, trivial⟩
          · replace h := h.2 hc
            refine mp_iload (i := 5) (x := l5) (dz dl_Mod_child_1 0 67 (.iload 5) 2 rfl) rfl ?_
            exact mp_rt (qi _) (rt_I rfl (dz dl_Mod_child_1 1 69 (.ireturn) 1 rfl)) ⟨_, rfl, h⟩

theorem mb_Mod_made_0 {u : MS} {l1 : Int32} {l2 : Int32} {l3 : Int32} {l4 : Int32} {Z : Int32 → MS → Prop} (h : mMT M_Mod_child [qr 1 (some 0), qi l1, qi l2, qi l3, qi l4] u (mI fun r1 u1 => (0 ≤ r1 → Z r1 u1) ∧ (¬ 0 ≤ r1 → vp_in (u1 70 0) 48 ∧ ∀ u2, u2 = mu u1 71 (u1 70 0).toNatClampNeg l1 → vp_in l1 48 ∧ ∀ u3, u3 = mu u2 72 (u1 70 0).toNatClampNeg ((u2 72 l1.toNatClampNeg) + (1 : Int32)) → vp_in ((3 : Int32) * (u1 70 0)) 144 ∧ okI 1 l2 ∧ ∀ u4, u4 = mu u3 73 ((3 : Int32) * (u1 70 0)).toNatClampNeg l2 → vp_in (((3 : Int32) * (u1 70 0)) + (1 : Int32)) 144 ∧ okI 1 l3 ∧ ∀ u5, u5 = mu u4 73 (((3 : Int32) * (u1 70 0)) + (1 : Int32)).toNatClampNeg l3 → vp_in (((3 : Int32) * (u1 70 0)) + (2 : Int32)) 144 ∧ okI 1 l4 ∧ ∀ u6, u6 = mu u5 73 (((3 : Int32) * (u1 70 0)) + (2 : Int32)).toNatClampNeg l4 → ∀ u7, u7 = mu u6 70 0 ((u6 70 0) + (1 : Int32)) → Z (u1 70 0) u7))) : mWP M_Mod_made 0 [qr 1 (some 0), qi l1, qi l2, qi l3, qi l4, none] [] u (mI Z) := by
  refine mp_aload_n (i := 0) (v := qr 1 (some 0)) (dz dl_Mod_made_0 0 0 (.aload_n 0) 1 rfl) rfl rfl trivial ?_
  refine mp_iload_n (i := 1) (x := l1) (dz dl_Mod_made_0 1 1 (.iload_n 1) 1 rfl) rfl rfl ?_
  refine mp_iload_n (i := 2) (x := l2) (dz dl_Mod_made_0 2 2 (.iload_n 2) 1 rfl) rfl rfl ?_
  refine mp_iload_n (i := 3) (x := l3) (dz dl_Mod_made_0 3 3 (.iload_n 3) 1 rfl) rfl rfl ?_
  refine mp_iload (i := 4) (x := l4) (dz dl_Mod_made_0 4 4 (.iload 4) 2 rfl) rfl ?_
  refine mp_callV [qi l1, qi l2, qi l3, qi l4] [] (dz dl_Mod_made_0 5 6 (.invokevirtual 176) 3 rfl) ok_Mod_child lm_Mod_176 ws_Mod_child wv_Mod_child ⟨Nat.le_of_ble_eq_true rfl, Nat.le_of_ble_eq_true rfl⟩ pn_Mod_child (Nat.le_of_ble_eq_true rfl) (Nat.le_of_ble_eq_true rfl) (Or.inl rfl) (mmono h ?_)
  rintro _ u1 ⟨r1, rfl, h⟩
  show mWP _ _ _ [qi r1] _ _
  refine mp_istore (i := 5) (dz dl_Mod_made_0 6 9 (.istore 5) 2 rfl) [qr 1 (some 0), qi l1, qi l2, qi l3, qi l4, qi r1] (by decide) rfl ?_
  refine mp_iload (i := 5) (x := r1) (dz dl_Mod_made_0 7 11 (.iload 5) 2 rfl) rfl ?_
  refine mp_if_ge (tgt := 90) (dz dl_Mod_made_0 8 13 (.ifCond .ge (77)) 3 rfl) (by decide) (fun hc => ?_) (fun hc => ?_)
  · replace h := h.1 hc
    refine mp_iload (i := 5) (x := r1) (dz dl_Mod_made_1 18 90 (.iload 5) 2 rfl) rfl ?_
    exact mp_rt (qi _) (rt_I rfl (dz dl_Mod_made_1 19 92 (.ireturn) 1 rfl)) ⟨_, rfl, h⟩
  · replace h := h.2 hc
    refine mp_aload_n (i := 0) (v := qr 1 (some 0)) (dz dl_Mod_made_0 9 16 (.aload_n 0) 1 rfl) rfl rfl trivial ?_
    refine mp_getI (dz dl_Mod_made_0 10 17 (.getfield 13) 3 rfl) lk_Mod_13 kd_70 rfl ?_
    refine mp_istore (i := 5) (dz dl_Mod_made_0 11 20 (.istore 5) 2 rfl) [qr 1 (some 0), qi l1, qi l2, qi l3, qi l4, qi (u1 70 0)] (by decide) rfl ?_
    refine mp_aload_n (i := 0) (v := qr 1 (some 0)) (dz dl_Mod_made_0 12 22 (.aload_n 0) 1 rfl) rfl rfl trivial ?_
    refine mp_getA (dz dl_Mod_made_0 13 23 (.getfield 17) 3 rfl) lk_Mod_17 (q := 0) kd_71 rfl sm_71 ?_
    refine mp_iload (i := 5) (x := u1 70 0) (dz dl_Mod_made_0 14 26 (.iload 5) 2 rfl) rfl ?_
    refine mp_iload_n (i := 1) (x := l1) (dz dl_Mod_made_0 15 28 (.iload_n 1) 1 rfl) rfl rfl ?_
    obtain ⟨i1, h⟩ := h
    have h := h _ rfl
    refine mp_iast (dz dl_Mod_made_0 16 29 (.iastore) 1 rfl) kd_71 rfl sm_71 i1 rfl ?_
    refine mp_aload_n (i := 0) (v := qr 1 (some 0)) (dz dl_Mod_made_0 17 30 (.aload_n 0) 1 rfl) rfl rfl trivial ?_
    refine mp_getA (dz dl_Mod_made_0 18 31 (.getfield 21) 3 rfl) lk_Mod_21 (q := 0) kd_72 rfl sm_72 ?_
    refine mp_iload (i := 5) (x := u1 70 0) (dz dl_Mod_made_0 19 34 (.iload 5) 2 rfl) rfl ?_
    refine mp_aload_n (i := 0) (v := qr 1 (some 0)) (dz dl_Mod_made_0 20 36 (.aload_n 0) 1 rfl) rfl rfl trivial ?_
    refine mp_getA (dz dl_Mod_made_0 21 37 (.getfield 21) 3 rfl) lk_Mod_21 (q := 0) kd_72 rfl sm_72 ?_
    refine mp_iload_n (i := 1) (x := l1) (dz dl_Mod_made_0 22 40 (.iload_n 1) 1 rfl) rfl rfl ?_
    obtain ⟨i2, h⟩ := h
    refine mp_iald (dz dl_Mod_made_0 23 41 (.iaload) 1 rfl) kd_72 rfl sm_72 i2 ?_
    refine mp_iconst (dz dl_Mod_made_0 24 42 (.iconst (1)) 1 rfl) (v := (1 : Int32)) (by decide) ?_
    refine mp_iadd (dz dl_Mod_made_0 25 43 (.iadd) 1 rfl) ?_
    have h := h _ rfl
    refine mp_iast (dz dl_Mod_made_0 26 44 (.iastore) 1 rfl) kd_72 rfl sm_72 i1 rfl ?_
    refine mp_aload_n (i := 0) (v := qr 1 (some 0)) (dz dl_Mod_made_0 27 45 (.aload_n 0) 1 rfl) rfl rfl trivial ?_
    refine mp_getA (dz dl_Mod_made_0 28 46 (.getfield 24) 3 rfl) lk_Mod_24 (q := 0) kd_73 rfl sm_73 ?_
    refine mp_iconst (dz dl_Mod_made_0 29 49 (.iconst (3)) 1 rfl) (v := (3 : Int32)) (by decide) ?_
    refine mp_iload (i := 5) (x := u1 70 0) (dz dl_Mod_made_0 30 50 (.iload 5) 2 rfl) rfl ?_
    refine mp_imul (dz dl_Mod_made_0 31 52 (.imul) 1 rfl) ?_
    refine mp_iload_n (i := 2) (x := l2) (dz dl_Mod_made_0 32 53 (.iload_n 2) 1 rfl) rfl rfl ?_
    obtain ⟨i3, h⟩ := h
    obtain ⟨o1, h⟩ := h
    have h := h _ rfl
    refine mp_cast (dz dl_Mod_made_0 33 54 (.castore) 1 rfl) kd_73 rfl sm_73 i3 o1 rfl ?_
    refine mp_aload_n (i := 0) (v := qr 1 (some 0)) (dz dl_Mod_made_0 34 55 (.aload_n 0) 1 rfl) rfl rfl trivial ?_
    refine mp_getA (dz dl_Mod_made_0 35 56 (.getfield 24) 3 rfl) lk_Mod_24 (q := 0) kd_73 rfl sm_73 ?_
    refine mp_iconst (dz dl_Mod_made_0 36 59 (.iconst (3)) 1 rfl) (v := (3 : Int32)) (by decide) ?_
    refine mp_iload (i := 5) (x := u1 70 0) (dz dl_Mod_made_0 37 60 (.iload 5) 2 rfl) rfl ?_
    refine mp_imul (dz dl_Mod_made_0 38 62 (.imul) 1 rfl) ?_
    refine mp_iconst (dz dl_Mod_made_0 39 63 (.iconst (1)) 1 rfl) (v := (1 : Int32)) (by decide) ?_
    refine mp_iadd (dz dl_Mod_made_1 0 64 (.iadd) 1 rfl) ?_
    refine mp_iload_n (i := 3) (x := l3) (dz dl_Mod_made_1 1 65 (.iload_n 3) 1 rfl) rfl rfl ?_
    obtain ⟨i4, h⟩ := h
    obtain ⟨o2, h⟩ := h
    have h := h _ rfl
    refine mp_cast (dz dl_Mod_made_1 2 66 (.castore) 1 rfl) kd_73 rfl sm_73 i4 o2 rfl ?_
    refine mp_aload_n (i := 0) (v := qr 1 (some 0)) (dz dl_Mod_made_1 3 67 (.aload_n 0) 1 rfl) rfl rfl trivial ?_
    refine mp_getA (dz dl_Mod_made_1 4 68 (.getfield 24) 3 rfl) lk_Mod_24 (q := 0) kd_73 rfl sm_73 ?_
    refine mp_iconst (dz dl_Mod_made_1 5 71 (.iconst (3)) 1 rfl) (v := (3 : Int32)) (by decide) ?_
    refine mp_iload (i := 5) (x := u1 70 0) (dz dl_Mod_made_1 6 72 (.iload 5) 2 rfl) rfl ?_
    refine mp_imul (dz dl_Mod_made_1 7 74 (.imul) 1 rfl) ?_
    refine mp_iconst (dz dl_Mod_made_1 8 75 (.iconst (2)) 1 rfl) (v := (2 : Int32)) (by decide) ?_
    refine mp_iadd (dz dl_Mod_made_1 9 76 (.iadd) 1 rfl) ?_
    refine mp_iload (i := 4) (x := l4) (dz dl_Mod_made_1 10 77 (.iload 4) 2 rfl) rfl ?_
    obtain ⟨i5, h⟩ := h
    obtain ⟨o3, h⟩ := h
    have h := h _ rfl
    refine mp_cast (dz dl_Mod_made_1 11 79 (.castore) 1 rfl) kd_73 rfl sm_73 i5 o3 rfl ?_
    refine mp_aload_n (i := 0) (v := qr 1 (some 0)) (dz dl_Mod_made_1 12 80 (.aload_n 0) 1 rfl) rfl rfl trivial ?_
    refine mp_dup (dz dl_Mod_made_1 13 81 (.dup) 1 rfl) ?_
    refine mp_getI (dz dl_Mod_made_1 14 82 (.getfield 13) 3 rfl) lk_Mod_13 kd_70 rfl ?_
    refine mp_iconst (dz dl_Mod_made_1 15 85 (.iconst (1)) 1 rfl) (v := (1 : Int32)) (by decide) ?_
    refine mp_iadd (dz dl_Mod_made_1 16 86 (.iadd) 1 rfl) ?_
    have h := h _ rfl
    refine mp_putI (dz dl_Mod_made_1 17 87 (.putfield 13) 3 rfl) lk_Mod_13 kd_70 rfl rfl (okI_0 _) rfl ?_
    refine mp_iload (i := 5) (x := u1 70 0) (dz dl_Mod_made_1 18 90 (.iload 5) 2 rfl) rfl ?_
    exact mp_rt (qi _) (rt_I rfl (dz dl_Mod_made_1 19 92 (.ireturn) 1 rfl)) ⟨_, rfl, h⟩
theorem mt_Mod_made {u : MS} {l1 : Int32} {l2 : Int32} {l3 : Int32} {l4 : Int32} {Z : Int32 → MS → Prop} (h : mMT M_Mod_child [qr 1 (some 0), qi l1, qi l2, qi l3, qi l4] u (mI fun r1 u1 => (0 ≤ r1 → Z r1 u1) ∧ (¬ 0 ≤ r1 → vp_in (u1 70 0) 48 ∧ ∀ u2, u2 = mu u1 71 (u1 70 0).toNatClampNeg l1 → vp_in l1 48 ∧ ∀ u3, u3 = mu u2 72 (u1 70 0).toNatClampNeg ((u2 72 l1.toNatClampNeg) + (1 : Int32)) → vp_in ((3 : Int32) * (u1 70 0)) 144 ∧ okI 1 l2 ∧ ∀ u4, u4 = mu u3 73 ((3 : Int32) * (u1 70 0)).toNatClampNeg l2 → vp_in (((3 : Int32) * (u1 70 0)) + (1 : Int32)) 144 ∧ okI 1 l3 ∧ ∀ u5, u5 = mu u4 73 (((3 : Int32) * (u1 70 0)) + (1 : Int32)).toNatClampNeg l3 → vp_in (((3 : Int32) * (u1 70 0)) + (2 : Int32)) 144 ∧ okI 1 l4 ∧ ∀ u6, u6 = mu u5 73 (((3 : Int32) * (u1 70 0)) + (2 : Int32)).toNatClampNeg l4 → ∀ u7, u7 = mu u6 70 0 ((u6 70 0) + (1 : Int32)) → Z (u1 70 0) u7))) : mMT M_Mod_made [qr 1 (some 0), qi l1, qi l2, qi l3, qi l4] u (mI Z) := mb_Mod_made_0 h

theorem mb_Mod_name_0 {u : MS} {Z : Int32 → MS → Prop} (h : mMT M_Mod_parts [qr 1 (some 0)] u (mI fun r1 u1 => mWP M_Mod_name 15 [qr 1 (some 0), qi r1, qi (0 : Int32), qi (0 : Int32), qi (1 : Int32), qi (0 : Int32), none, none, none, none] [] u1 (mI Z))) : mWP M_Mod_name 0 [qr 1 (some 0), none, none, none, none, none, none, none, none, none] [] u (mI Z) := by
  refine mp_aload_n (i := 0) (v := qr 1 (some 0)) (dz dl_Mod_name_0 0 0 (.aload_n 0) 1 rfl) rfl rfl trivial ?_
  refine mp_callV [] [] (dz dl_Mod_name_0 1 1 (.invokevirtual 180) 3 rfl) ok_Mod_parts lm_Mod_180 ws_Mod_parts wv_Mod_parts ⟨Nat.le_of_ble_eq_true rfl, Nat.le_of_ble_eq_true rfl⟩ pn_Mod_parts (Nat.le_of_ble_eq_true rfl) (Nat.le_of_ble_eq_true rfl) (Or.inl rfl) (mmono h ?_)
  rintro _ u1 ⟨r1, rfl, h⟩
  show mWP _ _ _ [qi r1] _ _
  refine mp_istore_n (i := 1) (dz dl_Mod_name_0 2 4 (.istore_n 1) 1 rfl) rfl [qr 1 (some 0), qi r1, none, none, none, none, none, none, none, none] (by decide) rfl ?_
  refine mp_iconst (dz dl_Mod_name_0 3 5 (.iconst (0)) 1 rfl) (v := (0 : Int32)) (by decide) ?_
  refine mp_istore_n (i := 2) (dz dl_Mod_name_0 4 6 (.istore_n 2) 1 rfl) rfl [qr 1 (some 0), qi r1, qi (0 : Int32), none, none, none, none, none, none, none] (by decide) rfl ?_
  refine mp_iconst (dz dl_Mod_name_0 5 7 (.iconst (0)) 1 rfl) (v := (0 : Int32)) (by decide) ?_
  refine mp_istore_n (i := 3) (dz dl_Mod_name_0 6 8 (.istore_n 3) 1 rfl) rfl [qr 1 (some 0), qi r1, qi (0 : Int32), qi (0 : Int32), none, none, none, none, none, none] (by decide) rfl ?_
  refine mp_iconst (dz dl_Mod_name_0 7 9 (.iconst (1)) 1 rfl) (v := (1 : Int32)) (by decide) ?_
  refine mp_istore (i := 4) (dz dl_Mod_name_0 8 10 (.istore 4) 2 rfl) [qr 1 (some 0), qi r1, qi (0 : Int32), qi (0 : Int32), qi (1 : Int32), none, none, none, none, none] (by decide) rfl ?_
  refine mp_iconst (dz dl_Mod_name_0 9 12 (.iconst (0)) 1 rfl) (v := (0 : Int32)) (by decide) ?_
  refine mp_istore (i := 5) (dz dl_Mod_name_0 10 13 (.istore 5) 2 rfl) [qr 1 (some 0), qi r1, qi (0 : Int32), qi (0 : Int32), qi (1 : Int32), qi (0 : Int32), none, none, none, none] (by decide) rfl ?_
  exact mp_cut h ⟨Or.inr rfl, Or.inr rfl, Or.inr rfl, Or.inr rfl, Or.inr rfl, Or.inr rfl, Or.inl rfl, Or.inl rfl, Or.inl rfl, Or.inl rfl, trivial⟩
theorem mt_Mod_name {u : MS} {Z : Int32 → MS → Prop} (h : mMT M_Mod_parts [qr 1 (some 0)] u (mI fun r1 u1 => mWP M_Mod_name 15 [qr 1 (some 0), qi r1, qi (0 : Int32), qi (0 : Int32), qi (1 : Int32), qi (0 : Int32), none, none, none, none] [] u1 (mI Z))) : mMT M_Mod_name [qr 1 (some 0)] u (mI Z) := mb_Mod_name_0 h

theorem mb_Mod_name_15 {u : MS} {l1 : Int32} {l2 : Int32} {l3 : Int32} {l4 : Int32} {l5 : Int32} {Z : Int32 → MS → Prop} (h : (l1 ≤ l5 → (0 ≤ l1 → (((u 70 0) + l3) ≤ (48 : Int32) → mMT M_Mod_enter [qr 1 (some 0), qi l1] u (mI fun r1 u1 => ∀ u2, u2 = mu u1 68 0 (0 : Int32) → Z r1 u2)) ∧ (¬ ((u 70 0) + l3) ≤ (48 : Int32) → ∀ u3, u3 = mu u 68 0 (0 : Int32) → Z (-2 : Int32) u3)) ∧ (¬ 0 ≤ l1 → ∀ u4, u4 = mu u 68 0 (0 : Int32) → Z (-1 : Int32) u4)) ∧ (¬ l1 ≤ l5 → mMT M_Mod_at [qr 1 (some 0), qi l4] u (mI fun r2 u5 => mMT M_Mod_at [qr 1 (some 0), qi (l4 + (1 : Int32))] u5 (mI fun r3 u6 => (¬ r3 = (47 : Int32) → mMT M_Mod_at [qr 1 (some 0), qi (l4 + (1 : Int32))] u6 (mI fun r4 u7 => (r4 = (32 : Int32) → (l3 ≤ 0 → mMT M_Mod_child [qr 1 (some 0), qi l2, qi r2, qi r4, qi (32 : Int32)] u7 (mI fun r5 u8 => mWP M_Mod_name 111 [qr 1 (some 0), qi l1, qi l2, qi l3, qi l4, qi l5, none, qi r4, qi (32 : Int32), none] [qi r5] u8 (mI Z))) ∧ (¬ l3 ≤ 0 → mWP M_Mod_name 111 [qr 1 (some 0), qi l1, qi l2, qi l3, qi l4, qi l5, none, qi r4, qi (32 : Int32), none] [qi (-1 : Int32)] u7 (mI Z))) ∧ (¬ r4 = (32 : Int32) → mMT M_Mod_at [qr 1 (some 0), qi (l4 + (2 : Int32))] u7 (mI fun r6 u9 => (¬ r6 = (47 : Int32) → mMT M_Mod_at [qr 1 (some 0), qi (l4 + (2 : Int32))] u9 (mI fun r7 u10 => (l3 ≤ 0 → mMT M_Mod_child [qr 1 (some 0), qi l2, qi r2, qi r4, qi r7] u10 (mI fun r8 u11 => mWP M_Mod_name 111 [qr 1 (some 0), qi l1, qi l2, qi l3, qi l4, qi l5, none, qi r4, qi r7, none] [qi r8] u11 (mI Z))) ∧ (¬ l3 ≤ 0 → mWP M_Mod_name 111 [qr 1 (some 0), qi l1, qi l2, qi l3, qi l4, qi l5, none, qi r4, qi r7, none] [qi (-1 : Int32)] u10 (mI Z)))) ∧ (r6 = (47 : Int32) → (l3 ≤ 0 → mMT M_Mod_child [qr 1 (some 0), qi l2, qi r2, qi r4, qi (32 : Int32)] u9 (mI fun r9 u12 => mWP M_Mod_name 111 [qr 1 (some 0), qi l1, qi l2, qi l3, qi l4, qi l5, none, qi r4, qi (32 : Int32), none] [qi r9] u12 (mI Z))) ∧ (¬ l3 ≤ 0 → mWP M_Mod_name 111 [qr 1 (some 0), qi l1, qi l2, qi l3, qi l4, qi l5, none, qi r4, qi (32 : Int32), none] [qi (-1 : Int32)] u9 (mI Z))))))) ∧ (r3 = (47 : Int32) → ((32 : Int32) = (32 : Int32) → (l3 ≤ 0 → mMT M_Mod_child [qr 1 (some 0), qi l2, qi r2, qi (32 : Int32), qi (32 : Int32)] u6 (mI fun r10 u13 => mWP M_Mod_name 111 [qr 1 (some 0), qi l1, qi l2, qi l3, qi l4, qi l5, none, qi (32 : Int32), qi (32 : Int32), none] [qi r10] u13 (mI Z))) ∧ (¬ l3 ≤ 0 → mWP M_Mod_name 111 [qr 1 (some 0), qi l1, qi l2, qi l3, qi l4, qi l5, none, qi (32 : Int32), qi (32 : Int32), none] [qi (-1 : Int32)] u6 (mI Z))) ∧ (¬ (32 : Int32) = (32 : Int32) → mMT M_Mod_at [qr 1 (some 0), qi (l4 + (2 : Int32))] u6 (mI fun r11 u14 => (¬ r11 = (47 : Int32) → mMT M_Mod_at [qr 1 (some 0), qi (l4 + (2 : Int32))] u14 (mI fun r12 u15 => (l3 ≤ 0 → mMT M_Mod_child [qr 1 (some 0), qi l2, qi r2, qi (32 : Int32), qi r12] u15 (mI fun r13 u16 => mWP M_Mod_name 111 [qr 1 (some 0), qi l1, qi l2, qi l3, qi l4, qi l5, none, qi (32 : Int32), qi r12, none] [qi r13] u16 (mI Z))) ∧ (¬ l3 ≤ 0 → mWP M_Mod_name 111 [qr 1 (some 0), qi l1, qi l2, qi l3, qi l4, qi l5, none, qi (32 : Int32), qi r12, none] [qi (-1 : Int32)] u15 (mI Z)))) ∧ (r11 = (47 : Int32) → (l3 ≤ 0 → mMT M_Mod_child [qr 1 (some 0), qi l2, qi r2, qi (32 : Int32), qi (32 : Int32)] u14 (mI fun r14 u17 => mWP M_Mod_name 111 [qr 1 (some 0), qi l1, qi l2, qi l3, qi l4, qi l5, none, qi (32 : Int32), qi (32 : Int32), none] [qi r14] u17 (mI Z))) ∧ (¬ l3 ≤ 0 → mWP M_Mod_name 111 [qr 1 (some 0), qi l1, qi l2, qi l3, qi l4, qi l5, none, qi (32 : Int32), qi (32 : Int32), none] [qi (-1 : Int32)] u14 (mI Z)))))))))) : mWP M_Mod_name 15 [qr 1 (some 0), qi l1, qi l2, qi l3, qi l4, qi l5, none, none, none, none] [] u (mI Z) := by
  refine mp_iload (i := 5) (x := l5) (dz dl_Mod_name_0 11 15 (.iload 5) 2 rfl) rfl ?_
  refine mp_iload_n (i := 1) (x := l1) (dz dl_Mod_name_0 12 17 (.iload_n 1) 1 rfl) rfl rfl ?_
  refine mp_icmp_ge (tgt := 172) (dz dl_Mod_name_0 13 18 (.if_icmp .ge (154)) 3 rfl) (by decide) (fun hc => ?_) (fun hc => ?_)
  · replace h := h.1 hc
    refine mp_iload_n (i := 1) (x := l1) (dz dl_Mod_name_2 12 172 (.iload_n 1) 1 rfl) rfl rfl ?_
    refine mp_if_ge (tgt := 180) (dz dl_Mod_name_2 13 173 (.ifCond .ge (7)) 3 rfl) (by decide) (fun hc => ?_) (fun hc => ?_)
    · replace h := h.1 hc
      refine mp_aload_n (i := 0) (v := qr 1 (some 0)) (dz dl_Mod_name_2 16 180 (.aload_n 0) 1 rfl) rfl rfl trivial ?_
      refine mp_getI (dz dl_Mod_name_2 17 181 (.getfield 13) 3 rfl) lk_Mod_13 kd_70 rfl ?_
      refine mp_iload_n (i := 3) (x := l3) (dz dl_Mod_name_2 18 184 (.iload_n 3) 1 rfl) rfl rfl ?_
      refine mp_iadd (dz dl_Mod_name_2 19 185 (.iadd) 1 rfl) ?_
      refine mp_bipush (dz dl_Mod_name_2 20 186 (.bipush (48)) 2 rfl) (v := (48 : Int32)) (by decide) ?_
      refine mp_icmp_le (tgt := 196) (dz dl_Mod_name_2 21 188 (.if_icmp .le (8)) 3 rfl) (by decide) (fun hc => ?_) (fun hc => ?_)
      · replace h := h.1 hc
        refine mp_aload_n (i := 0) (v := qr 1 (some 0)) (dz dl_Mod_name_2 24 196 (.aload_n 0) 1 rfl) rfl rfl trivial ?_
        refine mp_iload_n (i := 1) (x := l1) (dz dl_Mod_name_2 25 197 (.iload_n 1) 1 rfl) rfl rfl ?_
        refine mp_callV [qi l1] [] (dz dl_Mod_name_2 26 198 (.invokevirtual 184) 3 rfl) ok_Mod_enter lm_Mod_184 ws_Mod_enter wv_Mod_enter ⟨Nat.le_of_ble_eq_true rfl, Nat.le_of_ble_eq_true rfl⟩ pn_Mod_enter (Nat.le_of_ble_eq_true rfl) (Nat.le_of_ble_eq_true rfl) (Or.inl rfl) (mmono h ?_)
        rintro _ u1 ⟨r1, rfl, h⟩
        show mWP _ _ _ [qi r1] _ _
        refine mp_istore (i := 5) (dz dl_Mod_name_2 27 201 (.istore 5) 2 rfl) [qr 1 (some 0), qi l1, qi l2, qi l3, qi l4, qi r1, none, none, none, none] (by decide) rfl ?_
        refine mp_aload_n (i := 0) (v := qr 1 (some 0)) (dz dl_Mod_name_2 28 203 (.aload_n 0) 1 rfl) rfl rfl trivial ?_
        refine mp_iconst (dz dl_Mod_name_2 29 204 (.iconst (0)) 1 rfl) (v := (0 : Int32)) (by decide) ?_
        have h := h _ rfl
        refine mp_putI (dz dl_Mod_name_2 30 205 (.putfield 165) 3 rfl) lk_Mod_165 kd_68 rfl rfl (okI_0 _) rfl ?_
        refine mp_iload (i := 5) (x := r1) (dz dl_Mod_name_2 31 208 (.iload 5) 2 rfl) rfl ?_
        exact mp_rt (qi _) (rt_I rfl (dz dl_Mod_name_2 32 210 (.ireturn) 1 rfl)) ⟨_, rfl, h⟩
      · replace h := h.2 hc
        refine mp_bipush (dz dl_Mod_name_2 22 191 (.bipush (-2)) 2 rfl) (v := (-2 : Int32)) (by decide) ?_
        refine mp_goto (tgt := 201) (dz dl_Mod_name_2 23 193 (.goto (8)) 3 rfl) (by decide) ?_
        refine mp_istore (i := 5) (dz dl_Mod_name_2 27 201 (.istore 5) 2 rfl) [qr 1 (some 0), qi l1, qi l2, qi l3, qi l4, qi (-2 : Int32), none, none, none, none] (by decide) rfl ?_
        refine mp_aload_n (i := 0) (v := qr 1 (some 0)) (dz dl_Mod_name_2 28 203 (.aload_n 0) 1 rfl) rfl rfl trivial ?_
        refine mp_iconst (dz dl_Mod_name_2 29 204 (.iconst (0)) 1 rfl) (v := (0 : Int32)) (by decide) ?_
        have h := h _ rfl
        refine mp_putI (dz dl_Mod_name_2 30 205 (.putfield 165) 3 rfl) lk_Mod_165 kd_68 rfl rfl (okI_0 _) rfl ?_
        refine mp_iload (i := 5) (x := (-2 : Int32)) (dz dl_Mod_name_2 31 208 (.iload 5) 2 rfl) rfl ?_
        exact mp_rt (qi _) (rt_I rfl (dz dl_Mod_name_2 32 210 (.ireturn) 1 rfl)) ⟨_, rfl, h⟩
    · replace h := h.2 hc
      refine mp_iconst (dz dl_Mod_name_2 14 176 (.iconst (-1)) 1 rfl) (v := (-1 : Int32)) (by decide) ?_
      refine mp_goto (tgt := 201) (dz dl_Mod_name_2 15 177 (.goto (24)) 3 rfl) (by decide) ?_
      refine mp_istore (i := 5) (dz dl_Mod_name_2 27 201 (.istore 5) 2 rfl) [qr 1 (some 0), qi l1, qi l2, qi l3, qi l4, qi (-1 : Int32), none, none, none, none] (by decide) rfl ?_
      refine mp_aload_n (i := 0) (v := qr 1 (some 0)) (dz dl_Mod_name_2 28 203 (.aload_n 0) 1 rfl) rfl rfl trivial ?_
      refine mp_iconst (dz dl_Mod_name_2 29 204 (.iconst (0)) 1 rfl) (v := (0 : Int32)) (by decide) ?_
      have h := h _ rfl
      refine mp_putI (dz dl_Mod_name_2 30 205 (.putfield 165) 3 rfl) lk_Mod_165 kd_68 rfl rfl (okI_0 _) rfl ?_
      refine mp_iload (i := 5) (x := (-1 : Int32)) (dz dl_Mod_name_2 31 208 (.iload 5) 2 rfl) rfl ?_
      exact mp_rt (qi _) (rt_I rfl (dz dl_Mod_name_2 32 210 (.ireturn) 1 rfl)) ⟨_, rfl, h⟩
  · replace h := h.2 hc
    refine mp_aload_n (i := 0) (v := qr 1 (some 0)) (dz dl_Mod_name_0 14 21 (.aload_n 0) 1 rfl) rfl rfl trivial ?_
    refine mp_iload (i := 4) (x := l4) (dz dl_Mod_name_0 15 22 (.iload 4) 2 rfl) rfl ?_
    refine mp_callV [qi l4] [] (dz dl_Mod_name_0 16 24 (.invokevirtual 168) 3 rfl) ok_Mod_at lm_Mod_168 ws_Mod_at wv_Mod_at ⟨Nat.le_of_ble_eq_true rfl, Nat.le_of_ble_eq_true rfl⟩ pn_Mod_at (Nat.le_of_ble_eq_true rfl) (Nat.le_of_ble_eq_true rfl) (Or.inl rfl) (mmono h ?_)
    rintro _ u5 ⟨r2, rfl, h⟩
    show mWP _ _ _ [qi r2] _ _
    refine mp_istore (i := 6) (dz dl_Mod_name_0 17 27 (.istore 6) 2 rfl) [qr 1 (some 0), qi l1, qi l2, qi l3, qi l4, qi l5, qi r2, none, none, none] (by decide) rfl ?_
    refine mp_aload_n (i := 0) (v := qr 1 (some 0)) (dz dl_Mod_name_0 18 29 (.aload_n 0) 1 rfl) rfl rfl trivial ?_
    refine mp_iload (i := 4) (x := l4) (dz dl_Mod_name_0 19 30 (.iload 4) 2 rfl) rfl ?_
    refine mp_iconst (dz dl_Mod_name_0 20 32 (.iconst (1)) 1 rfl) (v := (1 : Int32)) (by decide) ?_
    refine mp_iadd (dz dl_Mod_name_0 21 33 (.iadd) 1 rfl) ?_
    refine mp_callV [qi (l4 + (1 : Int32))] [] (dz dl_Mod_name_0 22 34 (.invokevirtual 168) 3 rfl) ok_Mod_at lm_Mod_168 ws_Mod_at wv_Mod_at ⟨Nat.le_of_ble_eq_true rfl, Nat.le_of_ble_eq_true rfl⟩ pn_Mod_at (Nat.le_of_ble_eq_true rfl) (Nat.le_of_ble_eq_true rfl) (Or.inl rfl) (mmono h ?_)
    rintro _ u6 ⟨r3, rfl, h⟩
    show mWP _ _ _ [qi r3] _ _
    refine mp_bipush (dz dl_Mod_name_0 23 37 (.bipush (47)) 2 rfl) (v := (47 : Int32)) (by decide) ?_
    refine mp_icmp_ne (tgt := 47) (dz dl_Mod_name_0 24 39 (.if_icmp .ne (8)) 3 rfl) (by decide) (fun hc => ?_) (fun hc => ?_)
    · replace h := h.1 hc
      refine mp_aload_n (i := 0) (v := qr 1 (some 0)) (dz dl_Mod_name_0 27 47 (.aload_n 0) 1 rfl) rfl rfl trivial ?_
      refine mp_iload (i := 4) (x := l4) (dz dl_Mod_name_0 28 48 (.iload 4) 2 rfl) rfl ?_
      refine mp_iconst (dz dl_Mod_name_0 29 50 (.iconst (1)) 1 rfl) (v := (1 : Int32)) (by decide) ?_
      refine mp_iadd (dz dl_Mod_name_0 30 51 (.iadd) 1 rfl) ?_
      refine mp_callV [qi (l4 + (1 : Int32))] [] (dz dl_Mod_name_0 31 52 (.invokevirtual 168) 3 rfl) ok_Mod_at lm_Mod_168 ws_Mod_at wv_Mod_at ⟨Nat.le_of_ble_eq_true rfl, Nat.le_of_ble_eq_true rfl⟩ pn_Mod_at (Nat.le_of_ble_eq_true rfl) (Nat.le_of_ble_eq_true rfl) (Or.inl rfl) (mmono h ?_)
      rintro _ u7 ⟨r4, rfl, h⟩
      show mWP _ _ _ [qi r4] _ _
      refine mp_istore (i := 7) (dz dl_Mod_name_0 32 55 (.istore 7) 2 rfl) [qr 1 (some 0), qi l1, qi l2, qi l3, qi l4, qi l5, qi r2, qi r4, none, none] (by decide) rfl ?_
      refine mp_iload (i := 7) (x := r4) (dz dl_Mod_name_0 33 57 (.iload 7) 2 rfl) rfl ?_
      refine mp_bipush (dz dl_Mod_name_0 34 59 (.bipush (32)) 2 rfl) (v := (32 : Int32)) (by decide) ?_
      refine mp_icmp_eq (tgt := 77) (dz dl_Mod_name_0 35 61 (.if_icmp .eq (16)) 3 rfl) (by decide) (fun hc => ?_) (fun hc => ?_)
      · replace h := h.1 hc
        refine mp_bipush (dz dl_Mod_name_1 3 77 (.bipush (32)) 2 rfl) (v := (32 : Int32)) (by decide) ?_
        refine mp_goto (tgt := 90) (dz dl_Mod_name_1 4 79 (.goto (11)) 3 rfl) (by decide) ?_
        refine mp_istore (i := 8) (dz dl_Mod_name_1 10 90 (.istore 8) 2 rfl) [qr 1 (some 0), qi l1, qi l2, qi l3, qi l4, qi l5, qi r2, qi r4, qi (32 : Int32), none] (by decide) rfl ?_
        refine mp_iload_n (i := 3) (x := l3) (dz dl_Mod_name_1 11 92 (.iload_n 3) 1 rfl) rfl rfl ?_
        refine mp_if_le (tgt := 100) (dz dl_Mod_name_1 12 93 (.ifCond .le (7)) 3 rfl) (by decide) (fun hc => ?_) (fun hc => ?_)
        · replace h := h.1 hc
          refine mp_aload_n (i := 0) (v := qr 1 (some 0)) (dz dl_Mod_name_1 15 100 (.aload_n 0) 1 rfl) rfl rfl trivial ?_
          refine mp_iload_n (i := 2) (x := l2) (dz dl_Mod_name_1 16 101 (.iload_n 2) 1 rfl) rfl rfl ?_
          refine mp_iload (i := 6) (x := r2) (dz dl_Mod_name_1 17 102 (.iload 6) 2 rfl) rfl ?_
          refine mp_iload (i := 7) (x := r4) (dz dl_Mod_name_1 18 104 (.iload 7) 2 rfl) rfl ?_
          refine mp_iload (i := 8) (x := (32 : Int32)) (dz dl_Mod_name_1 19 106 (.iload 8) 2 rfl) rfl ?_
          refine mp_callV [qi l2, qi r2, qi r4, qi (32 : Int32)] [] (dz dl_Mod_name_1 20 108 (.invokevirtual 176) 3 rfl) ok_Mod_child lm_Mod_176 ws_Mod_child wv_Mod_child ⟨Nat.le_of_ble_eq_true rfl, Nat.le_of_ble_eq_true rfl⟩ pn_Mod_child (Nat.le_of_ble_eq_true rfl) (Nat.le_of_ble_eq_true rfl) (Or.inl rfl) (mmono h ?_)
          rintro _ u8 ⟨r5, rfl, h⟩
          show mWP _ _ _ [qi r5] _ _
          exact mp_cut h ⟨Or.inr rfl, Or.inr rfl, Or.inr rfl, Or.inr rfl, Or.inr rfl, Or.inr rfl, Or.inl rfl, Or.inr rfl, Or.inr rfl, Or.inl rfl, trivial⟩
        · replace h := h.2 hc
          refine mp_iconst (dz dl_Mod_name_1 13 96 (.iconst (-1)) 1 rfl) (v := (-1 : Int32)) (by decide) ?_
          refine mp_goto (tgt := 111) (dz dl_Mod_name_1 14 97 (.goto (14)) 3 rfl) (by decide) ?_
          exact mp_cut h ⟨Or.inr rfl, Or.inr rfl, Or.inr rfl, Or.inr rfl, Or.inr rfl, Or.inr rfl, Or.inl rfl, Or.inr rfl, Or.inr rfl, Or.inl rfl, trivial⟩
      · replace h := h.2 hc
        refine mp_aload_n (i := 0) (v := qr 1 (some 0)) (dz dl_Mod_name_0 36 64 (.aload_n 0) 1 rfl) rfl rfl trivial ?_
        refine mp_iload (i := 4) (x := l4) (dz dl_Mod_name_0 37 65 (.iload 4) 2 rfl) rfl ?_
        refine mp_iconst (dz dl_Mod_name_0 38 67 (.iconst (2)) 1 rfl) (v := (2 : Int32)) (by decide) ?_
        refine mp_iadd (dz dl_Mod_name_0 39 68 (.iadd) 1 rfl) ?_
        refine mp_callV [qi (l4 + (2 : Int32))] [] (dz dl_Mod_name_1 0 69 (.invokevirtual 168) 3 rfl) ok_Mod_at lm_Mod_168 ws_Mod_at wv_Mod_at ⟨Nat.le_of_ble_eq_true rfl, Nat.le_of_ble_eq_true rfl⟩ pn_Mod_at (Nat.le_of_ble_eq_true rfl) (Nat.le_of_ble_eq_true rfl) (Or.inl rfl) (mmono h ?_)
        rintro _ u9 ⟨r6, rfl, h⟩
        show mWP _ _ _ [qi r6] _ _
        refine mp_bipush (dz dl_Mod_name_1 1 72 (.bipush (47)) 2 rfl) (v := (47 : Int32)) (by decide) ?_
        refine mp_icmp_ne (tgt := 82) (dz dl_Mod_name_1 2 74 (.if_icmp .ne (8)) 3 rfl) (by decide) (fun hc => ?_) (fun hc => ?_)
        · replace h := h.1 hc
          refine mp_aload_n (i := 0) (v := qr 1 (some 0)) (dz dl_Mod_name_1 5 82 (.aload_n 0) 1 rfl) rfl rfl trivial ?_
          refine mp_iload (i := 4) (x := l4) (dz dl_Mod_name_1 6 83 (.iload 4) 2 rfl) rfl ?_
          refine mp_iconst (dz dl_Mod_name_1 7 85 (.iconst (2)) 1 rfl) (v := (2 : Int32)) (by decide) ?_
          refine mp_iadd (dz dl_Mod_name_1 8 86 (.iadd) 1 rfl) ?_
          refine mp_callV [qi (l4 + (2 : Int32))] [] (dz dl_Mod_name_1 9 87 (.invokevirtual 168) 3 rfl) ok_Mod_at lm_Mod_168 ws_Mod_at wv_Mod_at ⟨Nat.le_of_ble_eq_true rfl, Nat.le_of_ble_eq_true rfl⟩ pn_Mod_at (Nat.le_of_ble_eq_true rfl) (Nat.le_of_ble_eq_true rfl) (Or.inl rfl) (mmono h ?_)
          rintro _ u10 ⟨r7, rfl, h⟩
          show mWP _ _ _ [qi r7] _ _
          refine mp_istore (i := 8) (dz dl_Mod_name_1 10 90 (.istore 8) 2 rfl) [qr 1 (some 0), qi l1, qi l2, qi l3, qi l4, qi l5, qi r2, qi r4, qi r7, none] (by decide) rfl ?_
          refine mp_iload_n (i := 3) (x := l3) (dz dl_Mod_name_1 11 92 (.iload_n 3) 1 rfl) rfl rfl ?_
          refine mp_if_le (tgt := 100) (dz dl_Mod_name_1 12 93 (.ifCond .le (7)) 3 rfl) (by decide) (fun hc => ?_) (fun hc => ?_)
          · replace h := h.1 hc
            refine mp_aload_n (i := 0) (v := qr 1 (some 0)) (dz dl_Mod_name_1 15 100 (.aload_n 0) 1 rfl) rfl rfl trivial ?_
            refine mp_iload_n (i := 2) (x := l2) (dz dl_Mod_name_1 16 101 (.iload_n 2) 1 rfl) rfl rfl ?_
            refine mp_iload (i := 6) (x := r2) (dz dl_Mod_name_1 17 102 (.iload 6) 2 rfl) rfl ?_
            refine mp_iload (i := 7) (x := r4) (dz dl_Mod_name_1 18 104 (.iload 7) 2 rfl) rfl ?_
            refine mp_iload (i := 8) (x := r7) (dz dl_Mod_name_1 19 106 (.iload 8) 2 rfl) rfl ?_
            refine mp_callV [qi l2, qi r2, qi r4, qi r7] [] (dz dl_Mod_name_1 20 108 (.invokevirtual 176) 3 rfl) ok_Mod_child lm_Mod_176 ws_Mod_child wv_Mod_child ⟨Nat.le_of_ble_eq_true rfl, Nat.le_of_ble_eq_true rfl⟩ pn_Mod_child (Nat.le_of_ble_eq_true rfl) (Nat.le_of_ble_eq_true rfl) (Or.inl rfl) (mmono h ?_)
            rintro _ u11 ⟨r8, rfl, h⟩
            show mWP _ _ _ [qi r8] _ _
            exact mp_cut h ⟨Or.inr rfl, Or.inr rfl, Or.inr rfl, Or.inr rfl, Or.inr rfl, Or.inr rfl, Or.inl rfl, Or.inr rfl, Or.inr rfl, Or.inl rfl, trivial⟩
          · replace h := h.2 hc
            refine mp_iconst (dz dl_Mod_name_1 13 96 (.iconst (-1)) 1 rfl) (v := (-1 : Int32)) (by decide) ?_
            refine mp_goto (tgt := 111) (dz dl_Mod_name_1 14 97 (.goto (14)) 3 rfl) (by decide) ?_
            exact mp_cut h ⟨Or.inr rfl, Or.inr rfl, Or.inr rfl, Or.inr rfl, Or.inr rfl, Or.inr rfl, Or.inl rfl, Or.inr rfl, Or.inr rfl, Or.inl rfl, trivial⟩
        · replace h := h.2 hc
          refine mp_bipush (dz dl_Mod_name_1 3 77 (.bipush (32)) 2 rfl) (v := (32 : Int32)) (by decide) ?_
          refine mp_goto (tgt := 90) (dz dl_Mod_name_1 4 79 (.goto (11)) 3 rfl) (by decide) ?_
          refine mp_istore (i := 8) (dz dl_Mod_name_1 10 90 (.istore 8) 2 rfl) [qr 1 (some 0), qi l1, qi l2, qi l3, qi l4, qi l5, qi r2, qi r4, qi (32 : Int32), none] (by decide) rfl ?_
          refine mp_iload_n (i := 3) (x := l3) (dz dl_Mod_name_1 11 92 (.iload_n 3) 1 rfl) rfl rfl ?_
          refine mp_if_le (tgt := 100) (dz dl_Mod_name_1 12 93 (.ifCond .le (7)) 3 rfl) (by decide) (fun hc => ?_) (fun hc => ?_)
          · replace h := h.1 hc
            refine mp_aload_n (i := 0) (v := qr 1 (some 0)) (dz dl_Mod_name_1 15 100 (.aload_n 0) 1 rfl) rfl rfl trivial ?_
            refine mp_iload_n (i := 2) (x := l2) (dz dl_Mod_name_1 16 101 (.iload_n 2) 1 rfl) rfl rfl ?_
            refine mp_iload (i := 6) (x := r2) (dz dl_Mod_name_1 17 102 (.iload 6) 2 rfl) rfl ?_
            refine mp_iload (i := 7) (x := r4) (dz dl_Mod_name_1 18 104 (.iload 7) 2 rfl) rfl ?_
            refine mp_iload (i := 8) (x := (32 : Int32)) (dz dl_Mod_name_1 19 106 (.iload 8) 2 rfl) rfl ?_
            refine mp_callV [qi l2, qi r2, qi r4, qi (32 : Int32)] [] (dz dl_Mod_name_1 20 108 (.invokevirtual 176) 3 rfl) ok_Mod_child lm_Mod_176 ws_Mod_child wv_Mod_child ⟨Nat.le_of_ble_eq_true rfl, Nat.le_of_ble_eq_true rfl⟩ pn_Mod_child (Nat.le_of_ble_eq_true rfl) (Nat.le_of_ble_eq_true rfl) (Or.inl rfl) (mmono h ?_)
            rintro _ u12 ⟨r9, rfl, h⟩
            show mWP _ _ _ [qi r9] _ _
            exact mp_cut h ⟨Or.inr rfl, Or.inr rfl, Or.inr rfl, Or.inr rfl, Or.inr rfl, Or.inr rfl, Or.inl rfl, Or.inr rfl, Or.inr rfl, Or.inl rfl, trivial⟩
          · replace h := h.2 hc
            refine mp_iconst (dz dl_Mod_name_1 13 96 (.iconst (-1)) 1 rfl) (v := (-1 : Int32)) (by decide) ?_
            refine mp_goto (tgt := 111) (dz dl_Mod_name_1 14 97 (.goto (14)) 3 rfl) (by decide) ?_
            exact mp_cut h ⟨Or.inr rfl, Or.inr rfl, Or.inr rfl, Or.inr rfl, Or.inr rfl, Or.inr rfl, Or.inl rfl, Or.inr rfl, Or.inr rfl, Or.inl rfl, trivial⟩
    · replace h := h.2 hc
      refine mp_bipush (dz dl_Mod_name_0 25 42 (.bipush (32)) 2 rfl) (v := (32 : Int32)) (by decide) ?_
      refine mp_goto (tgt := 55) (dz dl_Mod_name_0 26 44 (.goto (11)) 3 rfl) (by decide) ?_
      refine mp_istore (i := 7) (dz dl_Mod_name_0 32 55 (.istore 7) 2 rfl) [qr 1 (some 0), qi l1, qi l2, qi l3, qi l4, qi l5, qi r2, qi (32 : Int32), none, none] (by decide) rfl ?_
      refine mp_iload (i := 7) (x := (32 : Int32)) (dz dl_Mod_name_0 33 57 (.iload 7) 2 rfl) rfl ?_
      refine mp_bipush (dz dl_Mod_name_0 34 59 (.bipush (32)) 2 rfl) (v := (32 : Int32)) (by decide) ?_
      refine mp_icmp_eq (tgt := 77) (dz dl_Mod_name_0 35 61 (.if_icmp .eq (16)) 3 rfl) (by decide) (fun hc => ?_) (fun hc => ?_)
      · replace h := h.1 hc
        refine mp_bipush (dz dl_Mod_name_1 3 77 (.bipush (32)) 2 rfl) (v := (32 : Int32)) (by decide) ?_
        refine mp_goto (tgt := 90) (dz dl_Mod_name_1 4 79 (.goto (11)) 3 rfl) (by decide) ?_
        refine mp_istore (i := 8) (dz dl_Mod_name_1 10 90 (.istore 8) 2 rfl) [qr 1 (some 0), qi l1, qi l2, qi l3, qi l4, qi l5, qi r2, qi (32 : Int32), qi (32 : Int32), none] (by decide) rfl ?_
        refine mp_iload_n (i := 3) (x := l3) (dz dl_Mod_name_1 11 92 (.iload_n 3) 1 rfl) rfl rfl ?_
        refine mp_if_le (tgt := 100) (dz dl_Mod_name_1 12 93 (.ifCond .le (7)) 3 rfl) (by decide) (fun hc => ?_) (fun hc => ?_)
        · replace h := h.1 hc
          refine mp_aload_n (i := 0) (v := qr 1 (some 0)) (dz dl_Mod_name_1 15 100 (.aload_n 0) 1 rfl) rfl rfl trivial ?_
          refine mp_iload_n (i := 2) (x := l2) (dz dl_Mod_name_1 16 101 (.iload_n 2) 1 rfl) rfl rfl ?_
          refine mp_iload (i := 6) (x := r2) (dz dl_Mod_name_1 17 102 (.iload 6) 2 rfl) rfl ?_
          refine mp_iload (i := 7) (x := (32 : Int32)) (dz dl_Mod_name_1 18 104 (.iload 7) 2 rfl) rfl ?_
          refine mp_iload (i := 8) (x := (32 : Int32)) (dz dl_Mod_name_1 19 106 (.iload 8) 2 rfl) rfl ?_
          refine mp_callV [qi l2, qi r2, qi (32 : Int32), qi (32 : Int32)] [] (dz dl_Mod_name_1 20 108 (.invokevirtual 176) 3 rfl) ok_Mod_child lm_Mod_176 ws_Mod_child wv_Mod_child ⟨Nat.le_of_ble_eq_true rfl, Nat.le_of_ble_eq_true rfl⟩ pn_Mod_child (Nat.le_of_ble_eq_true rfl) (Nat.le_of_ble_eq_true rfl) (Or.inl rfl) (mmono h ?_)
          rintro _ u13 ⟨r10, rfl, h⟩
          show mWP _ _ _ [qi r10] _ _
          exact mp_cut h ⟨Or.inr rfl, Or.inr rfl, Or.inr rfl, Or.inr rfl, Or.inr rfl, Or.inr rfl, Or.inl rfl, Or.inr rfl, Or.inr rfl, Or.inl rfl, trivial⟩
        · replace h := h.2 hc
          refine mp_iconst (dz dl_Mod_name_1 13 96 (.iconst (-1)) 1 rfl) (v := (-1 : Int32)) (by decide) ?_
          refine mp_goto (tgt := 111) (dz dl_Mod_name_1 14 97 (.goto (14)) 3 rfl) (by decide) ?_
          exact mp_cut h ⟨Or.inr rfl, Or.inr rfl, Or.inr rfl, Or.inr rfl, Or.inr rfl, Or.inr rfl, Or.inl rfl, Or.inr rfl, Or.inr rfl, Or.inl rfl, trivial⟩
      · replace h := h.2 hc
        refine mp_aload_n (i := 0) (v := qr 1 (some 0)) (dz dl_Mod_name_0 36 64 (.aload_n 0) 1 rfl) rfl rfl trivial ?_
        refine mp_iload (i := 4) (x := l4) (dz dl_Mod_name_0 37 65 (.iload 4) 2 rfl) rfl ?_
        refine mp_iconst (dz dl_Mod_name_0 38 67 (.iconst (2)) 1 rfl) (v := (2 : Int32)) (by decide) ?_
        refine mp_iadd (dz dl_Mod_name_0 39 68 (.iadd) 1 rfl) ?_
        refine mp_callV [qi (l4 + (2 : Int32))] [] (dz dl_Mod_name_1 0 69 (.invokevirtual 168) 3 rfl) ok_Mod_at lm_Mod_168 ws_Mod_at wv_Mod_at ⟨Nat.le_of_ble_eq_true rfl, Nat.le_of_ble_eq_true rfl⟩ pn_Mod_at (Nat.le_of_ble_eq_true rfl) (Nat.le_of_ble_eq_true rfl) (Or.inl rfl) (mmono h ?_)
        rintro _ u14 ⟨r11, rfl, h⟩
        show mWP _ _ _ [qi r11] _ _
        refine mp_bipush (dz dl_Mod_name_1 1 72 (.bipush (47)) 2 rfl) (v := (47 : Int32)) (by decide) ?_
        refine mp_icmp_ne (tgt := 82) (dz dl_Mod_name_1 2 74 (.if_icmp .ne (8)) 3 rfl) (by decide) (fun hc => ?_) (fun hc => ?_)
        · replace h := h.1 hc
          refine mp_aload_n (i := 0) (v := qr 1 (some 0)) (dz dl_Mod_name_1 5 82 (.aload_n 0) 1 rfl) rfl rfl trivial ?_
          refine mp_iload (i := 4) (x := l4) (dz dl_Mod_name_1 6 83 (.iload 4) 2 rfl) rfl ?_
          refine mp_iconst (dz dl_Mod_name_1 7 85 (.iconst (2)) 1 rfl) (v := (2 : Int32)) (by decide) ?_
          refine mp_iadd (dz dl_Mod_name_1 8 86 (.iadd) 1 rfl) ?_
          refine mp_callV [qi (l4 + (2 : Int32))] [] (dz dl_Mod_name_1 9 87 (.invokevirtual 168) 3 rfl) ok_Mod_at lm_Mod_168 ws_Mod_at wv_Mod_at ⟨Nat.le_of_ble_eq_true rfl, Nat.le_of_ble_eq_true rfl⟩ pn_Mod_at (Nat.le_of_ble_eq_true rfl) (Nat.le_of_ble_eq_true rfl) (Or.inl rfl) (mmono h ?_)
          rintro _ u15 ⟨r12, rfl, h⟩
          show mWP _ _ _ [qi r12] _ _
          refine mp_istore (i := 8) (dz dl_Mod_name_1 10 90 (.istore 8) 2 rfl) [qr 1 (some 0), qi l1, qi l2, qi l3, qi l4, qi l5, qi r2, qi (32 : Int32), qi r12, none] (by decide) rfl ?_
          refine mp_iload_n (i := 3) (x := l3) (dz dl_Mod_name_1 11 92 (.iload_n 3) 1 rfl) rfl rfl ?_
          refine mp_if_le (tgt := 100) (dz dl_Mod_name_1 12 93 (.ifCond .le (7)) 3 rfl) (by decide) (fun hc => ?_) (fun hc => ?_)
          · replace h := h.1 hc
            refine mp_aload_n (i := 0) (v := qr 1 (some 0)) (dz dl_Mod_name_1 15 100 (.aload_n 0) 1 rfl) rfl rfl trivial ?_
            refine mp_iload_n (i := 2) (x := l2) (dz dl_Mod_name_1 16 101 (.iload_n 2) 1 rfl) rfl rfl ?_
            refine mp_iload (i := 6) (x := r2) (dz dl_Mod_name_1 17 102 (.iload 6) 2 rfl) rfl ?_
            refine mp_iload (i := 7) (x := (32 : Int32)) (dz dl_Mod_name_1 18 104 (.iload 7) 2 rfl) rfl ?_
            refine mp_iload (i := 8) (x := r12) (dz dl_Mod_name_1 19 106 (.iload 8) 2 rfl) rfl ?_
            refine mp_callV [qi l2, qi r2, qi (32 : Int32), qi r12] [] (dz dl_Mod_name_1 20 108 (.invokevirtual 176) 3 rfl) ok_Mod_child lm_Mod_176 ws_Mod_child wv_Mod_child ⟨Nat.le_of_ble_eq_true rfl, Nat.le_of_ble_eq_true rfl⟩ pn_Mod_child (Nat.le_of_ble_eq_true rfl) (Nat.le_of_ble_eq_true rfl) (Or.inl rfl) (mmono h ?_)
            rintro _ u16 ⟨r13, rfl, h⟩
            show mWP _ _ _ [qi r13] _ _
            exact mp_cut h ⟨Or.inr rfl, Or.inr rfl, Or.inr rfl, Or.inr rfl, Or.inr rfl, Or.inr rfl, Or.inl rfl, Or.inr rfl, Or.inr rfl, Or.inl rfl, trivial⟩
          · replace h := h.2 hc
            refine mp_iconst (dz dl_Mod_name_1 13 96 (.iconst (-1)) 1 rfl) (v := (-1 : Int32)) (by decide) ?_
            refine mp_goto (tgt := 111) (dz dl_Mod_name_1 14 97 (.goto (14)) 3 rfl) (by decide) ?_
            exact mp_cut h ⟨Or.inr rfl, Or.inr rfl, Or.inr rfl, Or.inr rfl, Or.inr rfl, Or.inr rfl, Or.inl rfl, Or.inr rfl, Or.inr rfl, Or.inl rfl, trivial⟩
        · replace h := h.2 hc
          refine mp_bipush (dz dl_Mod_name_1 3 77 (.bipush (32)) 2 rfl) (v := (32 : Int32)) (by decide) ?_
          refine mp_goto (tgt := 90) (dz dl_Mod_name_1 4 79 (.goto (11)) 3 rfl) (by decide) ?_
          refine mp_istore (i := 8) (dz dl_Mod_name_1 10 90 (.istore 8) 2 rfl) [qr 1 (some 0), qi l1, qi l2, qi l3, qi l4, qi l5, qi r2, qi (32 : Int32), qi (32 : Int32), none] (by decide) rfl ?_
          refine mp_iload_n (i := 3) (x := l3) (dz dl_Mod_name_1 11 92 (.iload_n 3) 1 rfl) rfl rfl ?_
          refine mp_if_le (tgt := 100) (dz dl_Mod_name_1 12 93 (.ifCond .le (7)) 3 rfl) (by decide) (fun hc => ?_) (fun hc => ?_)
          · replace h := h.1 hc
            refine mp_aload_n (i := 0) (v := qr 1 (some 0)) (dz dl_Mod_name_1 15 100 (.aload_n 0) 1 rfl) rfl rfl trivial ?_
            refine mp_iload_n (i := 2) (x := l2) (dz dl_Mod_name_1 16 101 (.iload_n 2) 1 rfl) rfl rfl ?_
            refine mp_iload (i := 6) (x := r2) (dz dl_Mod_name_1 17 102 (.iload 6) 2 rfl) rfl ?_
            refine mp_iload (i := 7) (x := (32 : Int32)) (dz dl_Mod_name_1 18 104 (.iload 7) 2 rfl) rfl ?_
            refine mp_iload (i := 8) (x := (32 : Int32)) (dz dl_Mod_name_1 19 106 (.iload 8) 2 rfl) rfl ?_
            refine mp_callV [qi l2, qi r2, qi (32 : Int32), qi (32 : Int32)] [] (dz dl_Mod_name_1 20 108 (.invokevirtual 176) 3 rfl) ok_Mod_child lm_Mod_176 ws_Mod_child wv_Mod_child ⟨Nat.le_of_ble_eq_true rfl, Nat.le_of_ble_eq_true rfl⟩ pn_Mod_child (Nat.le_of_ble_eq_true rfl) (Nat.le_of_ble_eq_true rfl) (Or.inl rfl) (mmono h ?_)
            rintro _ u17 ⟨r14, rfl, h⟩
            show mWP _ _ _ [qi r14] _ _
            exact mp_cut h ⟨Or.inr rfl, Or.inr rfl, Or.inr rfl, Or.inr rfl, Or.inr rfl, Or.inr rfl, Or.inl rfl, Or.inr rfl, Or.inr rfl, Or.inl rfl, trivial⟩
          · replace h := h.2 hc
            refine mp_iconst (dz dl_Mod_name_1 13 96 (.iconst (-1)) 1 rfl) (v := (-1 : Int32)) (by decide) ?_
            refine mp_goto (tgt := 111) (dz dl_Mod_name_1 14 97 (.goto (14)) 3 rfl) (by decide) ?_
            exact mp_cut h ⟨Or.inr rfl, Or.inr rfl, Or.inr rfl, Or.inr rfl, Or.inr rfl, Or.inr rfl, Or.inl rfl, Or.inr rfl, Or.inr rfl, Or.inl rfl, trivial⟩

theorem mb_Mod_name_111 {u : MS} {l1 : Int32} {l2 : Int32} {l3 : Int32} {l4 : Int32} {l5 : Int32} {l7 : Int32} {l8 : Int32} {s0 : Int32} {Z : Int32 → MS → Prop} (h : (0 ≤ s0 → (0 ≤ s0 → (¬ l7 = (32 : Int32) → (¬ l8 = (32 : Int32) → mWP M_Mod_name 15 [qr 1 (some 0), qi l1, qi s0, qi (0 : Int32), qi (l4 + (4 : Int32)), qi (l5 + 1), none, none, none, none] [] u (mI Z)) ∧ (l8 = (32 : Int32) → mWP M_Mod_name 15 [qr 1 (some 0), qi l1, qi s0, qi (0 : Int32), qi (l4 + (3 : Int32)), qi (l5 + 1), none, none, none, none] [] u (mI Z))) ∧ (l7 = (32 : Int32) → mWP M_Mod_name 15 [qr 1 (some 0), qi l1, qi s0, qi (0 : Int32), qi (l4 + (2 : Int32)), qi (l5 + 1), none, none, none, none] [] u (mI Z))) ∧ (¬ 0 ≤ s0 → (¬ l7 = (32 : Int32) → (¬ l8 = (32 : Int32) → mWP M_Mod_name 15 [qr 1 (some 0), qi l1, qi l2, qi (0 : Int32), qi (l4 + (4 : Int32)), qi (l5 + 1), none, none, none, none] [] u (mI Z)) ∧ (l8 = (32 : Int32) → mWP M_Mod_name 15 [qr 1 (some 0), qi l1, qi l2, qi (0 : Int32), qi (l4 + (3 : Int32)), qi (l5 + 1), none, none, none, none] [] u (mI Z))) ∧ (l7 = (32 : Int32) → mWP M_Mod_name 15 [qr 1 (some 0), qi l1, qi l2, qi (0 : Int32), qi (l4 + (2 : Int32)), qi (l5 + 1), none, none, none, none] [] u (mI Z)))) ∧ (¬ 0 ≤ s0 → (0 ≤ s0 → (¬ l7 = (32 : Int32) → (¬ l8 = (32 : Int32) → mWP M_Mod_name 15 [qr 1 (some 0), qi l1, qi s0, qi (l3 + (1 : Int32)), qi (l4 + (4 : Int32)), qi (l5 + 1), none, none, none, none] [] u (mI Z)) ∧ (l8 = (32 : Int32) → mWP M_Mod_name 15 [qr 1 (some 0), qi l1, qi s0, qi (l3 + (1 : Int32)), qi (l4 + (3 : Int32)), qi (l5 + 1), none, none, none, none] [] u (mI Z))) ∧ (l7 = (32 : Int32) → mWP M_Mod_name 15 [qr 1 (some 0), qi l1, qi s0, qi (l3 + (1 : Int32)), qi (l4 + (2 : Int32)), qi (l5 + 1), none, none, none, none] [] u (mI Z))) ∧ (¬ 0 ≤ s0 → (¬ l7 = (32 : Int32) → (¬ l8 = (32 : Int32) → mWP M_Mod_name 15 [qr 1 (some 0), qi l1, qi l2, qi (l3 + (1 : Int32)), qi (l4 + (4 : Int32)), qi (l5 + 1), none, none, none, none] [] u (mI Z)) ∧ (l8 = (32 : Int32) → mWP M_Mod_name 15 [qr 1 (some 0), qi l1, qi l2, qi (l3 + (1 : Int32)), qi (l4 + (3 : Int32)), qi (l5 + 1), none, none, none, none] [] u (mI Z))) ∧ (l7 = (32 : Int32) → mWP M_Mod_name 15 [qr 1 (some 0), qi l1, qi l2, qi (l3 + (1 : Int32)), qi (l4 + (2 : Int32)), qi (l5 + 1), none, none, none, none] [] u (mI Z))))) : mWP M_Mod_name 111 [qr 1 (some 0), qi l1, qi l2, qi l3, qi l4, qi l5, none, qi l7, qi l8, none] [qi s0] u (mI Z) := by
  refine mp_istore (i := 9) (dz dl_Mod_name_1 21 111 (.istore 9) 2 rfl) [qr 1 (some 0), qi l1, qi l2, qi l3, qi l4, qi l5, none, qi l7, qi l8, qi s0] (by decide) rfl ?_
  refine mp_iload (i := 9) (x := s0) (dz dl_Mod_name_1 22 113 (.iload 9) 2 rfl) rfl ?_
  refine mp_if_ge (tgt := 124) (dz dl_Mod_name_1 23 115 (.ifCond .ge (9)) 3 rfl) (by decide) (fun hc => ?_) (fun hc => ?_)
  · replace h := h.1 hc
    refine mp_iconst (dz dl_Mod_name_1 28 124 (.iconst (0)) 1 rfl) (v := (0 : Int32)) (by decide) ?_
    refine mp_istore_n (i := 3) (dz dl_Mod_name_1 29 125 (.istore_n 3) 1 rfl) rfl [qr 1 (some 0), qi l1, qi l2, qi (0 : Int32), qi l4, qi l5, none, qi l7, qi l8, qi s0] (by decide) rfl ?_
    refine mp_iload (i := 9) (x := s0) (dz dl_Mod_name_1 30 126 (.iload 9) 2 rfl) rfl ?_
    refine mp_if_ge (tgt := 135) (dz dl_Mod_name_1 31 128 (.ifCond .ge (7)) 3 rfl) (by decide) (fun hc => ?_) (fun hc => ?_)
    · replace h := h.1 hc
      refine mp_iload (i := 9) (x := s0) (dz dl_Mod_name_1 34 135 (.iload 9) 2 rfl) rfl ?_
      refine mp_istore_n (i := 2) (dz dl_Mod_name_1 35 137 (.istore_n 2) 1 rfl) rfl [qr 1 (some 0), qi l1, qi s0, qi (0 : Int32), qi l4, qi l5, none, qi l7, qi l8, qi s0] (by decide) rfl ?_
      refine mp_iload (i := 4) (x := l4) (dz dl_Mod_name_1 36 138 (.iload 4) 2 rfl) rfl ?_
      refine mp_iload (i := 7) (x := l7) (dz dl_Mod_name_1 37 140 (.iload 7) 2 rfl) rfl ?_
      refine mp_bipush (dz dl_Mod_name_1 38 142 (.bipush (32)) 2 rfl) (v := (32 : Int32)) (by decide) ?_
      refine mp_icmp_ne (tgt := 151) (dz dl_Mod_name_1 39 144 (.if_icmp .ne (7)) 3 rfl) (by decide) (fun hc => ?_) (fun hc => ?_)
      · replace h := h.1 hc
        refine mp_iload (i := 8) (x := l8) (dz dl_Mod_name_2 2 151 (.iload 8) 2 rfl) rfl ?_
        refine mp_bipush (dz dl_Mod_name_2 3 153 (.bipush (32)) 2 rfl) (v := (32 : Int32)) (by decide) ?_
        refine mp_icmp_ne (tgt := 162) (dz dl_Mod_name_2 4 155 (.if_icmp .ne (7)) 3 rfl) (by decide) (fun hc => ?_) (fun hc => ?_)
        · replace h := h.1 hc
          refine mp_iconst (dz dl_Mod_name_2 7 162 (.iconst (4)) 1 rfl) (v := (4 : Int32)) (by decide) ?_
          refine mp_iadd (dz dl_Mod_name_2 8 163 (.iadd) 1 rfl) ?_
          refine mp_istore (i := 4) (dz dl_Mod_name_2 9 164 (.istore 4) 2 rfl) [qr 1 (some 0), qi l1, qi s0, qi (0 : Int32), qi (l4 + (4 : Int32)), qi l5, none, qi l7, qi l8, qi s0] (by decide) rfl ?_
          refine mp_iinc (i := 5) (v := l5 + 1) (dz dl_Mod_name_2 10 166 (.iinc 5 (1)) 3 rfl) rfl (congrArg (fun z => l5 + z) (by decide)) [qr 1 (some 0), qi l1, qi s0, qi (0 : Int32), qi (l4 + (4 : Int32)), qi (l5 + 1), none, qi l7, qi l8, qi s0] (by decide) rfl ?_
          refine mp_goto (tgt := 15) (dz dl_Mod_name_2 11 169 (.goto (-154)) 3 rfl) (by decide) ?_
          exact mp_cut h ⟨Or.inr rfl, Or.inr rfl, Or.inr rfl, Or.inr rfl, Or.inr rfl, Or.inr rfl, Or.inl rfl, Or.inl rfl, Or.inl rfl, Or.inl rfl, trivial⟩
        · replace h := h.2 hc
          refine mp_iconst (dz dl_Mod_name_2 5 158 (.iconst (3)) 1 rfl) (v := (3 : Int32)) (by decide) ?_
          refine mp_goto (tgt := 163) (dz dl_Mod_name_2 6 159 (.goto (4)) 3 rfl) (by decide) ?_
          refine mp_iadd (dz dl_Mod_name_2 8 163 (.iadd) 1 rfl) ?_
          refine mp_istore (i := 4) (dz dl_Mod_name_2 9 164 (.istore 4) 2 rfl) [qr 1 (some 0), qi l1, qi s0, qi (0 : Int32), qi (l4 + (3 : Int32)), qi l5, none, qi l7, qi l8, qi s0] (by decide) rfl ?_
          refine mp_iinc (i := 5) (v := l5 + 1) (dz dl_Mod_name_2 10 166 (.iinc 5 (1)) 3 rfl) rfl (congrArg (fun z => l5 + z) (by decide)) [qr 1 (some 0), qi l1, qi s0, qi (0 : Int32), qi (l4 + (3 : Int32)), qi (l5 + 1), none, qi l7, qi l8, qi s0] (by decide) rfl ?_
          refine mp_goto (tgt := 15) (dz dl_Mod_name_2 11 169 (.goto (-154)) 3 rfl) (by decide) ?_
          exact mp_cut h ⟨Or.inr rfl, Or.inr rfl, Or.inr rfl, Or.inr rfl, Or.inr rfl, Or.inr rfl, Or.inl rfl, Or.inl rfl, Or.inl rfl, Or.inl rfl, trivial⟩
      · replace h := h.2 hc
        refine mp_iconst (dz dl_Mod_name_2 0 147 (.iconst (2)) 1 rfl) (v := (2 : Int32)) (by decide) ?_
        refine mp_goto (tgt := 163) (dz dl_Mod_name_2 1 148 (.goto (15)) 3 rfl) (by decide) ?_
        refine mp_iadd (dz dl_Mod_name_2 8 163 (.iadd) 1 rfl) ?_
        refine mp_istore (i := 4) (dz dl_Mod_name_2 9 164 (.istore 4) 2 rfl) [qr 1 (some 0), qi l1, qi s0, qi (0 : Int32), qi (l4 + (2 : Int32)), qi l5, none, qi l7, qi l8, qi s0] (by decide) rfl ?_
        refine mp_iinc (i := 5) (v := l5 + 1) (dz dl_Mod_name_2 10 166 (.iinc 5 (1)) 3 rfl) rfl (congrArg (fun z => l5 + z) (by decide)) [qr 1 (some 0), qi l1, qi s0, qi (0 : Int32), qi (l4 + (2 : Int32)), qi (l5 + 1), none, qi l7, qi l8, qi s0] (by decide) rfl ?_
        refine mp_goto (tgt := 15) (dz dl_Mod_name_2 11 169 (.goto (-154)) 3 rfl) (by decide) ?_
        exact mp_cut h ⟨Or.inr rfl, Or.inr rfl, Or.inr rfl, Or.inr rfl, Or.inr rfl, Or.inr rfl, Or.inl rfl, Or.inl rfl, Or.inl rfl, Or.inl rfl, trivial⟩
    · replace h := h.2 hc
      refine mp_iload_n (i := 2) (x := l2) (dz dl_Mod_name_1 32 131 (.iload_n 2) 1 rfl) rfl rfl ?_
      refine mp_goto (tgt := 137) (dz dl_Mod_name_1 33 132 (.goto (5)) 3 rfl) (by decide) ?_
      refine mp_istore_n (i := 2) (dz dl_Mod_name_1 35 137 (.istore_n 2) 1 rfl) rfl [qr 1 (some 0), qi l1, qi l2, qi (0 : Int32), qi l4, qi l5, none, qi l7, qi l8, qi s0] (by decide) rfl ?_
      refine mp_iload (i := 4) (x := l4) (dz dl_Mod_name_1 36 138 (.iload 4) 2 rfl) rfl ?_
      refine mp_iload (i := 7) (x := l7) (dz dl_Mod_name_1 37 140 (.iload 7) 2 rfl) rfl ?_
      refine mp_bipush (dz dl_Mod_name_1 38 142 (.bipush (32)) 2 rfl) (v := (32 : Int32)) (by decide) ?_
      refine mp_icmp_ne (tgt := 151) (dz dl_Mod_name_1 39 144 (.if_icmp .ne (7)) 3 rfl) (by decide) (fun hc => ?_) (fun hc => ?_)
      · replace h := h.1 hc
        refine mp_iload (i := 8) (x := l8) (dz dl_Mod_name_2 2 151 (.iload 8) 2 rfl) rfl ?_
        refine mp_bipush (dz dl_Mod_name_2 3 153 (.bipush (32)) 2 rfl) (v := (32 : Int32)) (by decide) ?_
        refine mp_icmp_ne (tgt := 162) (dz dl_Mod_name_2 4 155 (.if_icmp .ne (7)) 3 rfl) (by decide) (fun hc => ?_) (fun hc => ?_)
        · replace h := h.1 hc
          refine mp_iconst (dz dl_Mod_name_2 7 162 (.iconst (4)) 1 rfl) (v := (4 : Int32)) (by decide) ?_
          refine mp_iadd (dz dl_Mod_name_2 8 163 (.iadd) 1 rfl) ?_
          refine mp_istore (i := 4) (dz dl_Mod_name_2 9 164 (.istore 4) 2 rfl) [qr 1 (some 0), qi l1, qi l2, qi (0 : Int32), qi (l4 + (4 : Int32)), qi l5, none, qi l7, qi l8, qi s0] (by decide) rfl ?_
          refine mp_iinc (i := 5) (v := l5 + 1) (dz dl_Mod_name_2 10 166 (.iinc 5 (1)) 3 rfl) rfl (congrArg (fun z => l5 + z) (by decide)) [qr 1 (some 0), qi l1, qi l2, qi (0 : Int32), qi (l4 + (4 : Int32)), qi (l5 + 1), none, qi l7, qi l8, qi s0] (by decide) rfl ?_
          refine mp_goto (tgt := 15) (dz dl_Mod_name_2 11 169 (.goto (-154)) 3 rfl) (by decide) ?_
          exact mp_cut h ⟨Or.inr rfl, Or.inr rfl, Or.inr rfl, Or.inr rfl, Or.inr rfl, Or.inr rfl, Or.inl rfl, Or.inl rfl, Or.inl rfl, Or.inl rfl, trivial⟩
        · replace h := h.2 hc
          refine mp_iconst (dz dl_Mod_name_2 5 158 (.iconst (3)) 1 rfl) (v := (3 : Int32)) (by decide) ?_
          refine mp_goto (tgt := 163) (dz dl_Mod_name_2 6 159 (.goto (4)) 3 rfl) (by decide) ?_
          refine mp_iadd (dz dl_Mod_name_2 8 163 (.iadd) 1 rfl) ?_
          refine mp_istore (i := 4) (dz dl_Mod_name_2 9 164 (.istore 4) 2 rfl) [qr 1 (some 0), qi l1, qi l2, qi (0 : Int32), qi (l4 + (3 : Int32)), qi l5, none, qi l7, qi l8, qi s0] (by decide) rfl ?_
          refine mp_iinc (i := 5) (v := l5 + 1) (dz dl_Mod_name_2 10 166 (.iinc 5 (1)) 3 rfl) rfl (congrArg (fun z => l5 + z) (by decide)) [qr 1 (some 0), qi l1, qi l2, qi (0 : Int32), qi (l4 + (3 : Int32)), qi (l5 + 1), none, qi l7, qi l8, qi s0] (by decide) rfl ?_
          refine mp_goto (tgt := 15) (dz dl_Mod_name_2 11 169 (.goto (-154)) 3 rfl) (by decide) ?_
          exact mp_cut h ⟨Or.inr rfl, Or.inr rfl, Or.inr rfl, Or.inr rfl, Or.inr rfl, Or.inr rfl, Or.inl rfl, Or.inl rfl, Or.inl rfl, Or.inl rfl, trivial⟩
      · replace h := h.2 hc
        refine mp_iconst (dz dl_Mod_name_2 0 147 (.iconst (2)) 1 rfl) (v := (2 : Int32)) (by decide) ?_
        refine mp_goto (tgt := 163) (dz dl_Mod_name_2 1 148 (.goto (15)) 3 rfl) (by decide) ?_
        refine mp_iadd (dz dl_Mod_name_2 8 163 (.iadd) 1 rfl) ?_
        refine mp_istore (i := 4) (dz dl_Mod_name_2 9 164 (.istore 4) 2 rfl) [qr 1 (some 0), qi l1, qi l2, qi (0 : Int32), qi (l4 + (2 : Int32)), qi l5, none, qi l7, qi l8, qi s0] (by decide) rfl ?_
        refine mp_iinc (i := 5) (v := l5 + 1) (dz dl_Mod_name_2 10 166 (.iinc 5 (1)) 3 rfl) rfl (congrArg (fun z => l5 + z) (by decide)) [qr 1 (some 0), qi l1, qi l2, qi (0 : Int32), qi (l4 + (2 : Int32)), qi (l5 + 1), none, qi l7, qi l8, qi s0] (by decide) rfl ?_
        refine mp_goto (tgt := 15) (dz dl_Mod_name_2 11 169 (.goto (-154)) 3 rfl) (by decide) ?_
        exact mp_cut h ⟨Or.inr rfl, Or.inr rfl, Or.inr rfl, Or.inr rfl, Or.inr rfl, Or.inr rfl, Or.inl rfl, Or.inl rfl, Or.inl rfl, Or.inl rfl, trivial⟩
  · replace h := h.2 hc
    refine mp_iload_n (i := 3) (x := l3) (dz dl_Mod_name_1 24 118 (.iload_n 3) 1 rfl) rfl rfl ?_
    refine mp_iconst (dz dl_Mod_name_1 25 119 (.iconst (1)) 1 rfl) (v := (1 : Int32)) (by decide) ?_
    refine mp_iadd (dz dl_Mod_name_1 26 120 (.iadd) 1 rfl) ?_
    refine mp_goto (tgt := 125) (dz dl_Mod_name_1 27 121 (.goto (4)) 3 rfl) (by decide) ?_
    refine mp_istore_n (i := 3) (dz dl_Mod_name_1 29 125 (.istore_n 3) 1 rfl) rfl [qr 1 (some 0), qi l1, qi l2, qi (l3 + (1 : Int32)), qi l4, qi l5, none, qi l7, qi l8, qi s0] (by decide) rfl ?_
    refine mp_iload (i := 9) (x := s0) (dz dl_Mod_name_1 30 126 (.iload 9) 2 rfl) rfl ?_
    refine mp_if_ge (tgt := 135) (dz dl_Mod_name_1 31 128 (.ifCond .ge (7)) 3 rfl) (by decide) (fun hc => ?_) (fun hc => ?_)
    · replace h := h.1 hc
      refine mp_iload (i := 9) (x := s0) (dz dl_Mod_name_1 34 135 (.iload 9) 2 rfl) rfl ?_
      refine mp_istore_n (i := 2) (dz dl_Mod_name_1 35 137 (.istore_n 2) 1 rfl) rfl [qr 1 (some 0), qi l1, qi s0, qi (l3 + (1 : Int32)), qi l4, qi l5, none, qi l7, qi l8, qi s0] (by decide) rfl ?_
      refine mp_iload (i := 4) (x := l4) (dz dl_Mod_name_1 36 138 (.iload 4) 2 rfl) rfl ?_
      refine mp_iload (i := 7) (x := l7) (dz dl_Mod_name_1 37 140 (.iload 7) 2 rfl) rfl ?_
      refine mp_bipush (dz dl_Mod_name_1 38 142 (.bipush (32)) 2 rfl) (v := (32 : Int32)) (by decide) ?_
      refine mp_icmp_ne (tgt := 151) (dz dl_Mod_name_1 39 144 (.if_icmp .ne (7)) 3 rfl) (by decide) (fun hc => ?_) (fun hc => ?_)
      · replace h := h.1 hc
        refine mp_iload (i := 8) (x := l8) (dz dl_Mod_name_2 2 151 (.iload 8) 2 rfl) rfl ?_
        refine mp_bipush (dz dl_Mod_name_2 3 153 (.bipush (32)) 2 rfl) (v := (32 : Int32)) (by decide) ?_
        refine mp_icmp_ne (tgt := 162) (dz dl_Mod_name_2 4 155 (.if_icmp .ne (7)) 3 rfl) (by decide) (fun hc => ?_) (fun hc => ?_)
        · replace h := h.1 hc
          refine mp_iconst (dz dl_Mod_name_2 7 162 (.iconst (4)) 1 rfl) (v := (4 : Int32)) (by decide) ?_
          refine mp_iadd (dz dl_Mod_name_2 8 163 (.iadd) 1 rfl) ?_
          refine mp_istore (i := 4) (dz dl_Mod_name_2 9 164 (.istore 4) 2 rfl) [qr 1 (some 0), qi l1, qi s0, qi (l3 + (1 : Int32)), qi (l4 + (4 : Int32)), qi l5, none, qi l7, qi l8, qi s0] (by decide) rfl ?_
          refine mp_iinc (i := 5) (v := l5 + 1) (dz dl_Mod_name_2 10 166 (.iinc 5 (1)) 3 rfl) rfl (congrArg (fun z => l5 + z) (by decide)) [qr 1 (some 0), qi l1, qi s0, qi (l3 + (1 : Int32)), qi (l4 + (4 : Int32)), qi (l5 + 1), none, qi l7, qi l8, qi s0] (by decide) rfl ?_
          refine mp_goto (tgt := 15) (dz dl_Mod_name_2 11 169 (.goto (-154)) 3 rfl) (by decide) ?_
          exact mp_cut h ⟨Or.inr rfl, Or.inr rfl, Or.inr rfl, Or.inr rfl, Or.inr rfl, Or.inr rfl, Or.inl rfl, Or.inl rfl, Or.inl rfl, Or.inl rfl, trivial⟩
        · replace h := h.2 hc
          refine mp_iconst (dz dl_Mod_name_2 5 158 (.iconst (3)) 1 rfl) (v := (3 : Int32)) (by decide) ?_
          refine mp_goto (tgt := 163) (dz dl_Mod_name_2 6 159 (.goto (4)) 3 rfl) (by decide) ?_
          refine mp_iadd (dz dl_Mod_name_2 8 163 (.iadd) 1 rfl) ?_
          refine mp_istore (i := 4) (dz dl_Mod_name_2 9 164 (.istore 4) 2 rfl) [qr 1 (some 0), qi l1, qi s0, qi (l3 + (1 : Int32)), qi (l4 + (3 : Int32)), qi l5, none, qi l7, qi l8, qi s0] (by decide) rfl ?_
          refine mp_iinc (i := 5) (v := l5 + 1) (dz dl_Mod_name_2 10 166 (.iinc 5 (1)) 3 rfl) rfl (congrArg (fun z => l5 + z) (by decide)) [qr 1 (some 0), qi l1, qi s0, qi (l3 + (1 : Int32)), qi (l4 + (3 : Int32)), qi (l5 + 1), none, qi l7, qi l8, qi s0] (by decide) rfl ?_
          refine mp_goto (tgt := 15) (dz dl_Mod_name_2 11 169 (.goto (-154)) 3 rfl) (by decide) ?_
          exact mp_cut h ⟨Or.inr rfl, Or.inr rfl, Or.inr rfl, Or.inr rfl, Or.inr rfl, Or.inr rfl, Or.inl rfl, Or.inl rfl, Or.inl rfl, Or.inl rfl, trivial⟩
      · replace h := h.2 hc
        refine mp_iconst (dz dl_Mod_name_2 0 147 (.iconst (2)) 1 rfl) (v := (2 : Int32)) (by decide) ?_
        refine mp_goto (tgt := 163) (dz dl_Mod_name_2 1 148 (.goto (15)) 3 rfl) (by decide) ?_
        refine mp_iadd (dz dl_Mod_name_2 8 163 (.iadd) 1 rfl) ?_
        refine mp_istore (i := 4) (dz dl_Mod_name_2 9 164 (.istore 4) 2 rfl) [qr 1 (some 0), qi l1, qi s0, qi (l3 + (1 : Int32)), qi (l4 + (2 : Int32)), qi l5, none, qi l7, qi l8, qi s0] (by decide) rfl ?_
        refine mp_iinc (i := 5) (v := l5 + 1) (dz dl_Mod_name_2 10 166 (.iinc 5 (1)) 3 rfl) rfl (congrArg (fun z => l5 + z) (by decide)) [qr 1 (some 0), qi l1, qi s0, qi (l3 + (1 : Int32)), qi (l4 + (2 : Int32)), qi (l5 + 1), none, qi l7, qi l8, qi s0] (by decide) rfl ?_
        refine mp_goto (tgt := 15) (dz dl_Mod_name_2 11 169 (.goto (-154)) 3 rfl) (by decide) ?_
        exact mp_cut h ⟨Or.inr rfl, Or.inr rfl, Or.inr rfl, Or.inr rfl, Or.inr rfl, Or.inr rfl, Or.inl rfl, Or.inl rfl, Or.inl rfl, Or.inl rfl, trivial⟩
    · replace h := h.2 hc
      refine mp_iload_n (i := 2) (x := l2) (dz dl_Mod_name_1 32 131 (.iload_n 2) 1 rfl) rfl rfl ?_
      refine mp_goto (tgt := 137) (dz dl_Mod_name_1 33 132 (.goto (5)) 3 rfl) (by decide) ?_
      refine mp_istore_n (i := 2) (dz dl_Mod_name_1 35 137 (.istore_n 2) 1 rfl) rfl [qr 1 (some 0), qi l1, qi l2, qi (l3 + (1 : Int32)), qi l4, qi l5, none, qi l7, qi l8, qi s0] (by decide) rfl ?_
      refine mp_iload (i := 4) (x := l4) (dz dl_Mod_name_1 36 138 (.iload 4) 2 rfl) rfl ?_
      refine mp_iload (i := 7) (x := l7) (dz dl_Mod_name_1 37 140 (.iload 7) 2 rfl) rfl ?_
      refine mp_bipush (dz dl_Mod_name_1 38 142 (.bipush (32)) 2 rfl) (v := (32 : Int32)) (by decide) ?_
      refine mp_icmp_ne (tgt := 151) (dz dl_Mod_name_1 39 144 (.if_icmp .ne (7)) 3 rfl) (by decide) (fun hc => ?_) (fun hc => ?_)
      · replace h := h.1 hc
        refine mp_iload (i := 8) (x := l8) (dz dl_Mod_name_2 2 151 (.iload 8) 2 rfl) rfl ?_
        refine mp_bipush (dz dl_Mod_name_2 3 153 (.bipush (32)) 2 rfl) (v := (32 : Int32)) (by decide) ?_
        refine mp_icmp_ne (tgt := 162) (dz dl_Mod_name_2 4 155 (.if_icmp .ne (7)) 3 rfl) (by decide) (fun hc => ?_) (fun hc => ?_)
        · replace h := h.1 hc
          refine mp_iconst (dz dl_Mod_name_2 7 162 (.iconst (4)) 1 rfl) (v := (4 : Int32)) (by decide) ?_
          refine mp_iadd (dz dl_Mod_name_2 8 163 (.iadd) 1 rfl) ?_
          refine mp_istore (i := 4) (dz dl_Mod_name_2 9 164 (.istore 4) 2 rfl) [qr 1 (some 0), qi l1, qi l2, qi (l3 + (1 : Int32)), qi (l4 + (4 : Int32)), qi l5, none, qi l7, qi l8, qi s0] (by decide) rfl ?_
          refine mp_iinc (i := 5) (v := l5 + 1) (dz dl_Mod_name_2 10 166 (.iinc 5 (1)) 3 rfl) rfl (congrArg (fun z => l5 + z) (by decide)) [qr 1 (some 0), qi l1, qi l2, qi (l3 + (1 : Int32)), qi (l4 + (4 : Int32)), qi (l5 + 1), none, qi l7, qi l8, qi s0] (by decide) rfl ?_
          refine mp_goto (tgt := 15) (dz dl_Mod_name_2 11 169 (.goto (-154)) 3 rfl) (by decide) ?_
          exact mp_cut h ⟨Or.inr rfl, Or.inr rfl, Or.inr rfl, Or.inr rfl, Or.inr rfl, Or.inr rfl, Or.inl rfl, Or.inl rfl, Or.inl rfl, Or.inl rfl, trivial⟩
        · replace h := h.2 hc
          refine mp_iconst (dz dl_Mod_name_2 5 158 (.iconst (3)) 1 rfl) (v := (3 : Int32)) (by decide) ?_
          refine mp_goto (tgt := 163) (dz dl_Mod_name_2 6 159 (.goto (4)) 3 rfl) (by decide) ?_
          refine mp_iadd (dz dl_Mod_name_2 8 163 (.iadd) 1 rfl) ?_
          refine mp_istore (i := 4) (dz dl_Mod_name_2 9 164 (.istore 4) 2 rfl) [qr 1 (some 0), qi l1, qi l2, qi (l3 + (1 : Int32)), qi (l4 + (3 : Int32)), qi l5, none, qi l7, qi l8, qi s0] (by decide) rfl ?_
          refine mp_iinc (i := 5) (v := l5 + 1) (dz dl_Mod_name_2 10 166 (.iinc 5 (1)) 3 rfl) rfl (congrArg (fun z => l5 + z) (by decide)) [qr 1 (some 0), qi l1, qi l2, qi (l3 + (1 : Int32)), qi (l4 + (3 : Int32)), qi (l5 + 1), none, qi l7, qi l8, qi s0] (by decide) rfl ?_
          refine mp_goto (tgt := 15) (dz dl_Mod_name_2 11 169 (.goto (-154)) 3 rfl) (by decide) ?_
          exact mp_cut h ⟨Or.inr rfl, Or.inr rfl, Or.inr rfl, Or.inr rfl, Or.inr rfl, Or.inr rfl, Or.inl rfl, Or.inl rfl, Or.inl rfl, Or.inl rfl, trivial⟩
      · replace h := h.2 hc
        refine mp_iconst (dz dl_Mod_name_2 0 147 (.iconst (2)) 1 rfl) (v := (2 : Int32)) (by decide) ?_
        refine mp_goto (tgt := 163) (dz dl_Mod_name_2 1 148 (.goto (15)) 3 rfl) (by decide) ?_
        refine mp_iadd (dz dl_Mod_name_2 8 163 (.iadd) 1 rfl) ?_
        refine mp_istore (i := 4) (dz dl_Mod_name_2 9 164 (.istore 4) 2 rfl) [qr 1 (some 0), qi l1, qi l2, qi (l3 + (1 : Int32)), qi (l4 + (2 : Int32)), qi l5, none, qi l7, qi l8, qi s0] (by decide) rfl ?_
        refine mp_iinc (i := 5) (v := l5 + 1) (dz dl_Mod_name_2 10 166 (.iinc 5 (1)) 3 rfl) rfl (congrArg (fun z => l5 + z) (by decide)) [qr 1 (some 0), qi l1, qi l2, qi (l3 + (1 : Int32)), qi (l4 + (2 : Int32)), qi (l5 + 1), none, qi l7, qi l8, qi s0] (by decide) rfl ?_
        refine mp_goto (tgt := 15) (dz dl_Mod_name_2 11 169 (.goto (-154)) 3 rfl) (by decide) ?_
        exact mp_cut h ⟨Or.inr rfl, Or.inr rfl, Or.inr rfl, Or.inr rfl, Or.inr rfl, Or.inr rfl, Or.inl rfl, Or.inl rfl, Or.inl rfl, Or.inl rfl, trivial⟩

theorem mb_Mod_enter_0 {u : MS} {l1 : Int32} {Z : Int32 → MS → Prop} (h : mWP M_Mod_enter 7 [qr 1 (some 0), qi l1, qi (0 : Int32), qi (1 : Int32), qi (0 : Int32), none, none, none] [] u (mI Z)) : mWP M_Mod_enter 0 [qr 1 (some 0), qi l1, none, none, none, none, none, none] [] u (mI Z) := by
  refine mp_iconst (dz dl_Mod_enter_0 0 0 (.iconst (0)) 1 rfl) (v := (0 : Int32)) (by decide) ?_
  refine mp_istore_n (i := 2) (dz dl_Mod_enter_0 1 1 (.istore_n 2) 1 rfl) rfl [qr 1 (some 0), qi l1, qi (0 : Int32), none, none, none, none, none] (by decide) rfl ?_
  refine mp_iconst (dz dl_Mod_enter_0 2 2 (.iconst (1)) 1 rfl) (v := (1 : Int32)) (by decide) ?_
  refine mp_istore_n (i := 3) (dz dl_Mod_enter_0 3 3 (.istore_n 3) 1 rfl) rfl [qr 1 (some 0), qi l1, qi (0 : Int32), qi (1 : Int32), none, none, none, none] (by decide) rfl ?_
  refine mp_iconst (dz dl_Mod_enter_0 4 4 (.iconst (0)) 1 rfl) (v := (0 : Int32)) (by decide) ?_
  refine mp_istore (i := 4) (dz dl_Mod_enter_0 5 5 (.istore 4) 2 rfl) [qr 1 (some 0), qi l1, qi (0 : Int32), qi (1 : Int32), qi (0 : Int32), none, none, none] (by decide) rfl ?_
  exact mp_cut h ⟨Or.inr rfl, Or.inr rfl, Or.inr rfl, Or.inr rfl, Or.inr rfl, Or.inl rfl, Or.inl rfl, Or.inl rfl, trivial⟩
theorem mt_Mod_enter {u : MS} {l1 : Int32} {Z : Int32 → MS → Prop} (h : mWP M_Mod_enter 7 [qr 1 (some 0), qi l1, qi (0 : Int32), qi (1 : Int32), qi (0 : Int32), none, none, none] [] u (mI Z)) : mMT M_Mod_enter [qr 1 (some 0), qi l1] u (mI Z) := mb_Mod_enter_0 h

theorem mb_Mod_enter_7 {u : MS} {l1 : Int32} {l2 : Int32} {l3 : Int32} {l4 : Int32} {Z : Int32 → MS → Prop} (h : (l1 ≤ l4 → Z l2 u) ∧ (¬ l1 ≤ l4 → mMT M_Mod_at [qr 1 (some 0), qi l3] u (mI fun r1 u1 => mMT M_Mod_at [qr 1 (some 0), qi (l3 + (1 : Int32))] u1 (mI fun r2 u2 => (¬ r2 = (47 : Int32) → mMT M_Mod_at [qr 1 (some 0), qi (l3 + (1 : Int32))] u2 (mI fun r3 u3 => mWP M_Mod_enter 44 [qr 1 (some 0), qi l1, qi l2, qi l3, qi l4, qi r1, none, none] [qi r3] u3 (mI Z))) ∧ (r2 = (47 : Int32) → mWP M_Mod_enter 44 [qr 1 (some 0), qi l1, qi l2, qi l3, qi l4, qi r1, none, none] [qi (32 : Int32)] u2 (mI Z)))))) : mWP M_Mod_enter 7 [qr 1 (some 0), qi l1, qi l2, qi l3, qi l4, none, none, none] [] u (mI Z) := by
  refine mp_iload (i := 4) (x := l4) (dz dl_Mod_enter_0 6 7 (.iload 4) 2 rfl) rfl ?_
  refine mp_iload_n (i := 1) (x := l1) (dz dl_Mod_enter_0 7 9 (.iload_n 1) 1 rfl) rfl rfl ?_
  refine mp_icmp_ge (tgt := 123) (dz dl_Mod_enter_0 8 10 (.if_icmp .ge (113)) 3 rfl) (by decide) (fun hc => ?_) (fun hc => ?_)
  · replace h := h.1 hc
    refine mp_iload_n (i := 2) (x := l2) (dz dl_Mod_enter_1 29 123 (.iload_n 2) 1 rfl) rfl rfl ?_
    exact mp_rt (qi _) (rt_I rfl (dz dl_Mod_enter_1 30 124 (.ireturn) 1 rfl)) ⟨_, rfl, h⟩
  · replace h := h.2 hc
    refine mp_aload_n (i := 0) (v := qr 1 (some 0)) (dz dl_Mod_enter_0 9 13 (.aload_n 0) 1 rfl) rfl rfl trivial ?_
    refine mp_iload_n (i := 3) (x := l3) (dz dl_Mod_enter_0 10 14 (.iload_n 3) 1 rfl) rfl rfl ?_
    refine mp_callV [qi l3] [] (dz dl_Mod_enter_0 11 15 (.invokevirtual 168) 3 rfl) ok_Mod_at lm_Mod_168 ws_Mod_at wv_Mod_at ⟨Nat.le_of_ble_eq_true rfl, Nat.le_of_ble_eq_true rfl⟩ pn_Mod_at (Nat.le_of_ble_eq_true rfl) (Nat.le_of_ble_eq_true rfl) (Or.inl rfl) (mmono h ?_)
    rintro _ u1 ⟨r1, rfl, h⟩
    show mWP _ _ _ [qi r1] _ _
    refine mp_istore (i := 5) (dz dl_Mod_enter_0 12 18 (.istore 5) 2 rfl) [qr 1 (some 0), qi l1, qi l2, qi l3, qi l4, qi r1, none, none] (by decide) rfl ?_
    refine mp_aload_n (i := 0) (v := qr 1 (some 0)) (dz dl_Mod_enter_0 13 20 (.aload_n 0) 1 rfl) rfl rfl trivial ?_
    refine mp_iload_n (i := 3) (x := l3) (dz dl_Mod_enter_0 14 21 (.iload_n 3) 1 rfl) rfl rfl ?_
    refine mp_iconst (dz dl_Mod_enter_0 15 22 (.iconst (1)) 1 rfl) (v := (1 : Int32)) (by decide) ?_
    refine mp_iadd (dz dl_Mod_enter_0 16 23 (.iadd) 1 rfl) ?_
    refine mp_callV [qi (l3 + (1 : Int32))] [] (dz dl_Mod_enter_0 17 24 (.invokevirtual 168) 3 rfl) ok_Mod_at lm_Mod_168 ws_Mod_at wv_Mod_at ⟨Nat.le_of_ble_eq_true rfl, Nat.le_of_ble_eq_true rfl⟩ pn_Mod_at (Nat.le_of_ble_eq_true rfl) (Nat.le_of_ble_eq_true rfl) (Or.inl rfl) (mmono h ?_)
    rintro _ u2 ⟨r2, rfl, h⟩
    show mWP _ _ _ [qi r2] _ _
    refine mp_bipush (dz dl_Mod_enter_0 18 27 (.bipush (47)) 2 rfl) (v := (47 : Int32)) (by decide) ?_
    refine mp_icmp_ne (tgt := 37) (dz dl_Mod_enter_0 19 29 (.if_icmp .ne (8)) 3 rfl) (by decide) (fun hc => ?_) (fun hc => ?_)
    · replace h := h.1 hc
      refine mp_aload_n (i := 0) (v := qr 1 (some 0)) (dz dl_Mod_enter_0 22 37 (.aload_n 0) 1 rfl) rfl rfl trivial ?_
      refine mp_iload_n (i := 3) (x := l3) (dz dl_Mod_enter_0 23 38 (.iload_n 3) 1 rfl) rfl rfl ?_
      refine mp_iconst (dz dl_Mod_enter_0 24 39 (.iconst (1)) 1 rfl) (v := (1 : Int32)) (by decide) ?_
      refine mp_iadd (dz dl_Mod_enter_0 25 40 (.iadd) 1 rfl) ?_
      refine mp_callV [qi (l3 + (1 : Int32))] [] (dz dl_Mod_enter_0 26 41 (.invokevirtual 168) 3 rfl) ok_Mod_at lm_Mod_168 ws_Mod_at wv_Mod_at ⟨Nat.le_of_ble_eq_true rfl, Nat.le_of_ble_eq_true rfl⟩ pn_Mod_at (Nat.le_of_ble_eq_true rfl) (Nat.le_of_ble_eq_true rfl) (Or.inl rfl) (mmono h ?_)
      rintro _ u3 ⟨r3, rfl, h⟩
      show mWP _ _ _ [qi r3] _ _
      exact mp_cut h ⟨Or.inr rfl, Or.inr rfl, Or.inr rfl, Or.inr rfl, Or.inr rfl, Or.inr rfl, Or.inl rfl, Or.inl rfl, trivial⟩
    · replace h := h.2 hc
      refine mp_bipush (dz dl_Mod_enter_0 20 32 (.bipush (32)) 2 rfl) (v := (32 : Int32)) (by decide) ?_
      refine mp_goto (tgt := 44) (dz dl_Mod_enter_0 21 34 (.goto (10)) 3 rfl) (by decide) ?_
      exact mp_cut h ⟨Or.inr rfl, Or.inr rfl, Or.inr rfl, Or.inr rfl, Or.inr rfl, Or.inr rfl, Or.inl rfl, Or.inl rfl, trivial⟩

theorem mb_Mod_enter_44 {u : MS} {l1 : Int32} {l2 : Int32} {l3 : Int32} {l4 : Int32} {l5 : Int32} {s0 : Int32} {Z : Int32 → MS → Prop} (h : (s0 = (32 : Int32) → mMT M_Mod_made [qr 1 (some 0), qi l2, qi l5, qi s0, qi (32 : Int32)] u (mI fun r1 u1 => (¬ s0 = (32 : Int32) → (¬ (32 : Int32) = (32 : Int32) → mWP M_Mod_enter 7 [qr 1 (some 0), qi l1, qi r1, qi (l3 + (4 : Int32)), qi (l4 + 1), none, none, none] [] u1 (mI Z)) ∧ ((32 : Int32) = (32 : Int32) → mWP M_Mod_enter 7 [qr 1 (some 0), qi l1, qi r1, qi (l3 + (3 : Int32)), qi (l4 + 1), none, none, none] [] u1 (mI Z))) ∧ (s0 = (32 : Int32) → mWP M_Mod_enter 7 [qr 1 (some 0), qi l1, qi r1, qi (l3 + (2 : Int32)), qi (l4 + 1), none, none, none] [] u1 (mI Z)))) ∧ (¬ s0 = (32 : Int32) → mMT M_Mod_at [qr 1 (some 0), qi (l3 + (2 : Int32))] u (mI fun r2 u2 => (¬ r2 = (47 : Int32) → mMT M_Mod_at [qr 1 (some 0), qi (l3 + (2 : Int32))] u2 (mI fun r3 u3 => mMT M_Mod_made [qr 1 (some 0), qi l2, qi l5, qi s0, qi r3] u3 (mI fun r4 u4 => (¬ s0 = (32 : Int32) → (¬ r3 = (32 : Int32) → mWP M_Mod_enter 7 [qr 1 (some 0), qi l1, qi r4, qi (l3 + (4 : Int32)), qi (l4 + 1), none, none, none] [] u4 (mI Z)) ∧ (r3 = (32 : Int32) → mWP M_Mod_enter 7 [qr 1 (some 0), qi l1, qi r4, qi (l3 + (3 : Int32)), qi (l4 + 1), none, none, none] [] u4 (mI Z))) ∧ (s0 = (32 : Int32) → mWP M_Mod_enter 7 [qr 1 (some 0), qi l1, qi r4, qi (l3 + (2 : Int32)), qi (l4 + 1), none, none, none] [] u4 (mI Z))))) ∧ (r2 = (47 : Int32) → mMT M_Mod_made [qr 1 (some 0), qi l2, qi l5, qi s0, qi (32 : Int32)] u2 (mI fun r5 u5 => (¬ s0 = (32 : Int32) → (¬ (32 : Int32) = (32 : Int32) → mWP M_Mod_enter 7 [qr 1 (some 0), qi l1, qi r5, qi (l3 + (4 : Int32)), qi (l4 + 1), none, none, none] [] u5 (mI Z)) ∧ ((32 : Int32) = (32 : Int32) → mWP M_Mod_enter 7 [qr 1 (some 0), qi l1, qi r5, qi (l3 + (3 : Int32)), qi (l4 + 1), none, none, none] [] u5 (mI Z))) ∧ (s0 = (32 : Int32) → mWP M_Mod_enter 7 [qr 1 (some 0), qi l1, qi r5, qi (l3 + (2 : Int32)), qi (l4 + 1), none, none, none] [] u5 (mI Z))))))) : mWP M_Mod_enter 44 [qr 1 (some 0), qi l1, qi l2, qi l3, qi l4, qi l5, none, none] [qi s0] u (mI Z) := by
  refine mp_istore (i := 6) (dz dl_Mod_enter_0 27 44 (.istore 6) 2 rfl) [qr 1 (some 0), qi l1, qi l2, qi l3, qi l4, qi l5, qi s0, none] (by decide) rfl ?_
  refine mp_iload (i := 6) (x := s0) (dz dl_Mod_enter_0 28 46 (.iload 6) 2 rfl) rfl ?_
  refine mp_bipush (dz dl_Mod_enter_0 29 48 (.bipush (32)) 2 rfl) (v := (32 : Int32)) (by decide) ?_
  refine mp_icmp_eq (tgt := 65) (dz dl_Mod_enter_0 30 50 (.if_icmp .eq (15)) 3 rfl) (by decide) (fun hc => ?_) (fun hc => ?_)
  · replace h := h.1 hc
    refine mp_bipush (dz dl_Mod_enter_0 38 65 (.bipush (32)) 2 rfl) (v := (32 : Int32)) (by decide) ?_
    refine mp_goto (tgt := 77) (dz dl_Mod_enter_0 39 67 (.goto (10)) 3 rfl) (by decide) ?_
    refine mp_istore (i := 7) (dz dl_Mod_enter_1 5 77 (.istore 7) 2 rfl) [qr 1 (some 0), qi l1, qi l2, qi l3, qi l4, qi l5, qi s0, qi (32 : Int32)] (by decide) rfl ?_
    refine mp_aload_n (i := 0) (v := qr 1 (some 0)) (dz dl_Mod_enter_1 6 79 (.aload_n 0) 1 rfl) rfl rfl trivial ?_
    refine mp_iload_n (i := 2) (x := l2) (dz dl_Mod_enter_1 7 80 (.iload_n 2) 1 rfl) rfl rfl ?_
    refine mp_iload (i := 5) (x := l5) (dz dl_Mod_enter_1 8 81 (.iload 5) 2 rfl) rfl ?_
    refine mp_iload (i := 6) (x := s0) (dz dl_Mod_enter_1 9 83 (.iload 6) 2 rfl) rfl ?_
    refine mp_iload (i := 7) (x := (32 : Int32)) (dz dl_Mod_enter_1 10 85 (.iload 7) 2 rfl) rfl ?_
    refine mp_callV [qi l2, qi l5, qi s0, qi (32 : Int32)] [] (dz dl_Mod_enter_1 11 87 (.invokevirtual 188) 3 rfl) ok_Mod_made lm_Mod_188 ws_Mod_made wv_Mod_made ⟨Nat.le_of_ble_eq_true rfl, Nat.le_of_ble_eq_true rfl⟩ pn_Mod_made (Nat.le_of_ble_eq_true rfl) (Nat.le_of_ble_eq_true rfl) (Or.inl rfl) (mmono h ?_)
    rintro _ u1 ⟨r1, rfl, h⟩
    show mWP _ _ _ [qi r1] _ _
    refine mp_istore_n (i := 2) (dz dl_Mod_enter_1 12 90 (.istore_n 2) 1 rfl) rfl [qr 1 (some 0), qi l1, qi r1, qi l3, qi l4, qi l5, qi s0, qi (32 : Int32)] (by decide) rfl ?_
    refine mp_iload_n (i := 3) (x := l3) (dz dl_Mod_enter_1 13 91 (.iload_n 3) 1 rfl) rfl rfl ?_
    refine mp_iload (i := 6) (x := s0) (dz dl_Mod_enter_1 14 92 (.iload 6) 2 rfl) rfl ?_
    refine mp_bipush (dz dl_Mod_enter_1 15 94 (.bipush (32)) 2 rfl) (v := (32 : Int32)) (by decide) ?_
    refine mp_icmp_ne (tgt := 103) (dz dl_Mod_enter_1 16 96 (.if_icmp .ne (7)) 3 rfl) (by decide) (fun hc => ?_) (fun hc => ?_)
    · replace h := h.1 hc
      refine mp_iload (i := 7) (x := (32 : Int32)) (dz dl_Mod_enter_1 19 103 (.iload 7) 2 rfl) rfl ?_
      refine mp_bipush (dz dl_Mod_enter_1 20 105 (.bipush (32)) 2 rfl) (v := (32 : Int32)) (by decide) ?_
      refine mp_icmp_ne (tgt := 114) (dz dl_Mod_enter_1 21 107 (.if_icmp .ne (7)) 3 rfl) (by decide) (fun hc => ?_) (fun hc => ?_)
      · replace h := h.1 hc
        refine mp_iconst (dz dl_Mod_enter_1 24 114 (.iconst (4)) 1 rfl) (v := (4 : Int32)) (by decide) ?_
        refine mp_iadd (dz dl_Mod_enter_1 25 115 (.iadd) 1 rfl) ?_
        refine mp_istore_n (i := 3) (dz dl_Mod_enter_1 26 116 (.istore_n 3) 1 rfl) rfl [qr 1 (some 0), qi l1, qi r1, qi (l3 + (4 : Int32)), qi l4, qi l5, qi s0, qi (32 : Int32)] (by decide) rfl ?_
        refine mp_iinc (i := 4) (v := l4 + 1) (dz dl_Mod_enter_1 27 117 (.iinc 4 (1)) 3 rfl) rfl (congrArg (fun z => l4 + z) (by decide)) [qr 1 (some 0), qi l1, qi r1, qi (l3 + (4 : Int32)), qi (l4 + 1), qi l5, qi s0, qi (32 : Int32)] (by decide) rfl ?_
        refine mp_goto (tgt := 7) (dz dl_Mod_enter_1 28 120 (.goto (-113)) 3 rfl) (by decide) ?_
        exact mp_cut h ⟨Or.inr rfl, Or.inr rfl, Or.inr rfl, Or.inr rfl, Or.inr rfl, Or.inl rfl, Or.inl rfl, Or.inl rfl, trivial⟩
      · replace h := h.2 hc
        refine mp_iconst (dz dl_Mod_enter_1 22 110 (.iconst (3)) 1 rfl) (v := (3 : Int32)) (by decide) ?_
        refine mp_goto (tgt := 115) (dz dl_Mod_enter_1 23 111 (.goto (4)) 3 rfl) (by decide) ?_
        refine mp_iadd (dz dl_Mod_enter_1 25 115 (.iadd) 1 rfl) ?_
        refine mp_istore_n (i := 3) (dz dl_Mod_enter_1 26 116 (.istore_n 3) 1 rfl) rfl [qr 1 (some 0), qi l1, qi r1, qi (l3 + (3 : Int32)), qi l4, qi l5, qi s0, qi (32 : Int32)] (by decide) rfl ?_
        refine mp_iinc (i := 4) (v := l4 + 1) (dz dl_Mod_enter_1 27 117 (.iinc 4 (1)) 3 rfl) rfl (congrArg (fun z => l4 + z) (by decide)) [qr 1 (some 0), qi l1, qi r1, qi (l3 + (3 : Int32)), qi (l4 + 1), qi l5, qi s0, qi (32 : Int32)] (by decide) rfl ?_
        refine mp_goto (tgt := 7) (dz dl_Mod_enter_1 28 120 (.goto (-113)) 3 rfl) (by decide) ?_
        exact mp_cut h ⟨Or.inr rfl, Or.inr rfl, Or.inr rfl, Or.inr rfl, Or.inr rfl, Or.inl rfl, Or.inl rfl, Or.inl rfl, trivial⟩
    · replace h := h.2 hc
      refine mp_iconst (dz dl_Mod_enter_1 17 99 (.iconst (2)) 1 rfl) (v := (2 : Int32)) (by decide) ?_
      refine mp_goto (tgt := 115) (dz dl_Mod_enter_1 18 100 (.goto (15)) 3 rfl) (by decide) ?_
      refine mp_iadd (dz dl_Mod_enter_1 25 115 (.iadd) 1 rfl) ?_
      refine mp_istore_n (i := 3) (dz dl_Mod_enter_1 26 116 (.istore_n 3) 1 rfl) rfl [qr 1 (some 0), qi l1, qi r1, qi (l3 + (2 : Int32)), qi l4, qi l5, qi s0, qi (32 : Int32)] (by decide) rfl ?_
      refine mp_iinc (i := 4) (v := l4 + 1) (dz dl_Mod_enter_1 27 117 (.iinc 4 (1)) 3 rfl) rfl (congrArg (fun z => l4 + z) (by decide)) [qr 1 (some 0), qi l1, qi r1, qi (l3 + (2 : Int32)), qi (l4 + 1), qi l5, qi s0, qi (32 : Int32)] (by decide) rfl ?_
      refine mp_goto (tgt := 7) (dz dl_Mod_enter_1 28 120 (.goto (-113)) 3 rfl) (by decide) ?_
      exact mp_cut h ⟨Or.inr rfl, Or.inr rfl, Or.inr rfl, Or.inr rfl, Or.inr rfl, Or.inl rfl, Or.inl rfl, Or.inl rfl, trivial⟩
  · replace h := h.2 hc
    refine mp_aload_n (i := 0) (v := qr 1 (some 0)) (dz dl_Mod_enter_0 31 53 (.aload_n 0) 1 rfl) rfl rfl trivial ?_
    refine mp_iload_n (i := 3) (x := l3) (dz dl_Mod_enter_0 32 54 (.iload_n 3) 1 rfl) rfl rfl ?_
    refine mp_iconst (dz dl_Mod_enter_0 33 55 (.iconst (2)) 1 rfl) (v := (2 : Int32)) (by decide) ?_
    refine mp_iadd (dz dl_Mod_enter_0 34 56 (.iadd) 1 rfl) ?_
    refine mp_callV [qi (l3 + (2 : Int32))] [] (dz dl_Mod_enter_0 35 57 (.invokevirtual 168) 3 rfl) ok_Mod_at lm_Mod_168 ws_Mod_at wv_Mod_at ⟨Nat.le_of_ble_eq_true rfl, Nat.le_of_ble_eq_true rfl⟩ pn_Mod_at (Nat.le_of_ble_eq_true rfl) (Nat.le_of_ble_eq_true rfl) (Or.inl rfl) (mmono h ?_)
    rintro _ u2 ⟨r2, rfl, h⟩
    show mWP _ _ _ [qi r2] _ _
    refine mp_bipush (dz dl_Mod_enter_0 36 60 (.bipush (47)) 2 rfl) (v := (47 : Int32)) (by decide) ?_
    refine mp_icmp_ne (tgt := 70) (dz dl_Mod_enter_0 37 62 (.if_icmp .ne (8)) 3 rfl) (by decide) (fun hc => ?_) (fun hc => ?_)
    · replace h := h.1 hc
      refine mp_aload_n (i := 0) (v := qr 1 (some 0)) (dz dl_Mod_enter_1 0 70 (.aload_n 0) 1 rfl) rfl rfl trivial ?_
      refine mp_iload_n (i := 3) (x := l3) (dz dl_Mod_enter_1 1 71 (.iload_n 3) 1 rfl) rfl rfl ?_
      refine mp_iconst (dz dl_Mod_enter_1 2 72 (.iconst (2)) 1 rfl) (v := (2 : Int32)) (by decide) ?_
      refine mp_iadd (dz dl_Mod_enter_1 3 73 (.iadd) 1 rfl) ?_
      refine mp_callV [qi (l3 + (2 : Int32))] [] (dz dl_Mod_enter_1 4 74 (.invokevirtual 168) 3 rfl) ok_Mod_at lm_Mod_168 ws_Mod_at wv_Mod_at ⟨Nat.le_of_ble_eq_true rfl, Nat.le_of_ble_eq_true rfl⟩ pn_Mod_at (Nat.le_of_ble_eq_true rfl) (Nat.le_of_ble_eq_true rfl) (Or.inl rfl) (mmono h ?_)
      rintro _ u3 ⟨r3, rfl, h⟩
      show mWP _ _ _ [qi r3] _ _
      refine mp_istore (i := 7) (dz dl_Mod_enter_1 5 77 (.istore 7) 2 rfl) [qr 1 (some 0), qi l1, qi l2, qi l3, qi l4, qi l5, qi s0, qi r3] (by decide) rfl ?_
      refine mp_aload_n (i := 0) (v := qr 1 (some 0)) (dz dl_Mod_enter_1 6 79 (.aload_n 0) 1 rfl) rfl rfl trivial ?_
      refine mp_iload_n (i := 2) (x := l2) (dz dl_Mod_enter_1 7 80 (.iload_n 2) 1 rfl) rfl rfl ?_
      refine mp_iload (i := 5) (x := l5) (dz dl_Mod_enter_1 8 81 (.iload 5) 2 rfl) rfl ?_
      refine mp_iload (i := 6) (x := s0) (dz dl_Mod_enter_1 9 83 (.iload 6) 2 rfl) rfl ?_
      refine mp_iload (i := 7) (x := r3) (dz dl_Mod_enter_1 10 85 (.iload 7) 2 rfl) rfl ?_
      refine mp_callV [qi l2, qi l5, qi s0, qi r3] [] (dz dl_Mod_enter_1 11 87 (.invokevirtual 188) 3 rfl) ok_Mod_made lm_Mod_188 ws_Mod_made wv_Mod_made ⟨Nat.le_of_ble_eq_true rfl, Nat.le_of_ble_eq_true rfl⟩ pn_Mod_made (Nat.le_of_ble_eq_true rfl) (Nat.le_of_ble_eq_true rfl) (Or.inl rfl) (mmono h ?_)
      rintro _ u4 ⟨r4, rfl, h⟩
      show mWP _ _ _ [qi r4] _ _
      refine mp_istore_n (i := 2) (dz dl_Mod_enter_1 12 90 (.istore_n 2) 1 rfl) rfl [qr 1 (some 0), qi l1, qi r4, qi l3, qi l4, qi l5, qi s0, qi r3] (by decide) rfl ?_
      refine mp_iload_n (i := 3) (x := l3) (dz dl_Mod_enter_1 13 91 (.iload_n 3) 1 rfl) rfl rfl ?_
      refine mp_iload (i := 6) (x := s0) (dz dl_Mod_enter_1 14 92 (.iload 6) 2 rfl) rfl ?_
      refine mp_bipush (dz dl_Mod_enter_1 15 94 (.bipush (32)) 2 rfl) (v := (32 : Int32)) (by decide) ?_
      refine mp_icmp_ne (tgt := 103) (dz dl_Mod_enter_1 16 96 (.if_icmp .ne (7)) 3 rfl) (by decide) (fun hc => ?_) (fun hc => ?_)
      · replace h := h.1 hc
        refine mp_iload (i := 7) (x := r3) (dz dl_Mod_enter_1 19 103 (.iload 7) 2 rfl) rfl ?_
        refine mp_bipush (dz dl_Mod_enter_1 20 105 (.bipush (32)) 2 rfl) (v := (32 : Int32)) (by decide) ?_
        refine mp_icmp_ne (tgt := 114) (dz dl_Mod_enter_1 21 107 (.if_icmp .ne (7)) 3 rfl) (by decide) (fun hc => ?_) (fun hc => ?_)
        · replace h := h.1 hc
          refine mp_iconst (dz dl_Mod_enter_1 24 114 (.iconst (4)) 1 rfl) (v := (4 : Int32)) (by decide) ?_
          refine mp_iadd (dz dl_Mod_enter_1 25 115 (.iadd) 1 rfl) ?_
          refine mp_istore_n (i := 3) (dz dl_Mod_enter_1 26 116 (.istore_n 3) 1 rfl) rfl [qr 1 (some 0), qi l1, qi r4, qi (l3 + (4 : Int32)), qi l4, qi l5, qi s0, qi r3] (by decide) rfl ?_
          refine mp_iinc (i := 4) (v := l4 + 1) (dz dl_Mod_enter_1 27 117 (.iinc 4 (1)) 3 rfl) rfl (congrArg (fun z => l4 + z) (by decide)) [qr 1 (some 0), qi l1, qi r4, qi (l3 + (4 : Int32)), qi (l4 + 1), qi l5, qi s0, qi r3] (by decide) rfl ?_
          refine mp_goto (tgt := 7) (dz dl_Mod_enter_1 28 120 (.goto (-113)) 3 rfl) (by decide) ?_
          exact mp_cut h ⟨Or.inr rfl, Or.inr rfl, Or.inr rfl, Or.inr rfl, Or.inr rfl, Or.inl rfl, Or.inl rfl, Or.inl rfl, trivial⟩
        · replace h := h.2 hc
          refine mp_iconst (dz dl_Mod_enter_1 22 110 (.iconst (3)) 1 rfl) (v := (3 : Int32)) (by decide) ?_
          refine mp_goto (tgt := 115) (dz dl_Mod_enter_1 23 111 (.goto (4)) 3 rfl) (by decide) ?_
          refine mp_iadd (dz dl_Mod_enter_1 25 115 (.iadd) 1 rfl) ?_
          refine mp_istore_n (i := 3) (dz dl_Mod_enter_1 26 116 (.istore_n 3) 1 rfl) rfl [qr 1 (some 0), qi l1, qi r4, qi (l3 + (3 : Int32)), qi l4, qi l5, qi s0, qi r3] (by decide) rfl ?_
          refine mp_iinc (i := 4) (v := l4 + 1) (dz dl_Mod_enter_1 27 117 (.iinc 4 (1)) 3 rfl) rfl (congrArg (fun z => l4 + z) (by decide)) [qr 1 (some 0), qi l1, qi r4, qi (l3 + (3 : Int32)), qi (l4 + 1), qi l5, qi s0, qi r3] (by decide) rfl ?_
          refine mp_goto (tgt := 7) (dz dl_Mod_enter_1 28 120 (.goto (-113)) 3 rfl) (by decide) ?_
          exact mp_cut h ⟨Or.inr rfl, Or.inr rfl, Or.inr rfl, Or.inr rfl, Or.inr rfl, Or.inl rfl, Or.inl rfl, Or.inl rfl, trivial⟩
      · replace h := h.2 hc
        refine mp_iconst (dz dl_Mod_enter_1 17 99 (.iconst (2)) 1 rfl) (v := (2 : Int32)) (by decide) ?_
        refine mp_goto (tgt := 115) (dz dl_Mod_enter_1 18 100 (.goto (15)) 3 rfl) (by decide) ?_
        refine mp_iadd (dz dl_Mod_enter_1 25 115 (.iadd) 1 rfl) ?_
        refine mp_istore_n (i := 3) (dz dl_Mod_enter_1 26 116 (.istore_n 3) 1 rfl) rfl [qr 1 (some 0), qi l1, qi r4, qi (l3 + (2 : Int32)), qi l4, qi l5, qi s0, qi r3] (by decide) rfl ?_
        refine mp_iinc (i := 4) (v := l4 + 1) (dz dl_Mod_enter_1 27 117 (.iinc 4 (1)) 3 rfl) rfl (congrArg (fun z => l4 + z) (by decide)) [qr 1 (some 0), qi l1, qi r4, qi (l3 + (2 : Int32)), qi (l4 + 1), qi l5, qi s0, qi r3] (by decide) rfl ?_
        refine mp_goto (tgt := 7) (dz dl_Mod_enter_1 28 120 (.goto (-113)) 3 rfl) (by decide) ?_
        exact mp_cut h ⟨Or.inr rfl, Or.inr rfl, Or.inr rfl, Or.inr rfl, Or.inr rfl, Or.inl rfl, Or.inl rfl, Or.inl rfl, trivial⟩
    · replace h := h.2 hc
      refine mp_bipush (dz dl_Mod_enter_0 38 65 (.bipush (32)) 2 rfl) (v := (32 : Int32)) (by decide) ?_
      refine mp_goto (tgt := 77) (dz dl_Mod_enter_0 39 67 (.goto (10)) 3 rfl) (by decide) ?_
      refine mp_istore (i := 7) (dz dl_Mod_enter_1 5 77 (.istore 7) 2 rfl) [qr 1 (some 0), qi l1, qi l2, qi l3, qi l4, qi l5, qi s0, qi (32 : Int32)] (by decide) rfl ?_
      refine mp_aload_n (i := 0) (v := qr 1 (some 0)) (dz dl_Mod_enter_1 6 79 (.aload_n 0) 1 rfl) rfl rfl trivial ?_
      refine mp_iload_n (i := 2) (x := l2) (dz dl_Mod_enter_1 7 80 (.iload_n 2) 1 rfl) rfl rfl ?_
      refine mp_iload (i := 5) (x := l5) (dz dl_Mod_enter_1 8 81 (.iload 5) 2 rfl) rfl ?_
      refine mp_iload (i := 6) (x := s0) (dz dl_Mod_enter_1 9 83 (.iload 6) 2 rfl) rfl ?_
      refine mp_iload (i := 7) (x := (32 : Int32)) (dz dl_Mod_enter_1 10 85 (.iload 7) 2 rfl) rfl ?_
      refine mp_callV [qi l2, qi l5, qi s0, qi (32 : Int32)] [] (dz dl_Mod_enter_1 11 87 (.invokevirtual 188) 3 rfl) ok_Mod_made lm_Mod_188 ws_Mod_made wv_Mod_made ⟨Nat.le_of_ble_eq_true rfl, Nat.le_of_ble_eq_true rfl⟩ pn_Mod_made (Nat.le_of_ble_eq_true rfl) (Nat.le_of_ble_eq_true rfl) (Or.inl rfl) (mmono h ?_)
      rintro _ u5 ⟨r5, rfl, h⟩
      show mWP _ _ _ [qi r5] _ _
      refine mp_istore_n (i := 2) (dz dl_Mod_enter_1 12 90 (.istore_n 2) 1 rfl) rfl [qr 1 (some 0), qi l1, qi r5, qi l3, qi l4, qi l5, qi s0, qi (32 : Int32)] (by decide) rfl ?_
      refine mp_iload_n (i := 3) (x := l3) (dz dl_Mod_enter_1 13 91 (.iload_n 3) 1 rfl) rfl rfl ?_
      refine mp_iload (i := 6) (x := s0) (dz dl_Mod_enter_1 14 92 (.iload 6) 2 rfl) rfl ?_
      refine mp_bipush (dz dl_Mod_enter_1 15 94 (.bipush (32)) 2 rfl) (v := (32 : Int32)) (by decide) ?_
      refine mp_icmp_ne (tgt := 103) (dz dl_Mod_enter_1 16 96 (.if_icmp .ne (7)) 3 rfl) (by decide) (fun hc => ?_) (fun hc => ?_)
      · replace h := h.1 hc
        refine mp_iload (i := 7) (x := (32 : Int32)) (dz dl_Mod_enter_1 19 103 (.iload 7) 2 rfl) rfl ?_
        refine mp_bipush (dz dl_Mod_enter_1 20 105 (.bipush (32)) 2 rfl) (v := (32 : Int32)) (by decide) ?_
        refine mp_icmp_ne (tgt := 114) (dz dl_Mod_enter_1 21 107 (.if_icmp .ne (7)) 3 rfl) (by decide) (fun hc => ?_) (fun hc => ?_)
        · replace h := h.1 hc
          refine mp_iconst (dz dl_Mod_enter_1 24 114 (.iconst (4)) 1 rfl) (v := (4 : Int32)) (by decide) ?_
          refine mp_iadd (dz dl_Mod_enter_1 25 115 (.iadd) 1 rfl) ?_
          refine mp_istore_n (i := 3) (dz dl_Mod_enter_1 26 116 (.istore_n 3) 1 rfl) rfl [qr 1 (some 0), qi l1, qi r5, qi (l3 + (4 : Int32)), qi l4, qi l5, qi s0, qi (32 : Int32)] (by decide) rfl ?_
          refine mp_iinc (i := 4) (v := l4 + 1) (dz dl_Mod_enter_1 27 117 (.iinc 4 (1)) 3 rfl) rfl (congrArg (fun z => l4 + z) (by decide)) [qr 1 (some 0), qi l1, qi r5, qi (l3 + (4 : Int32)), qi (l4 + 1), qi l5, qi s0, qi (32 : Int32)] (by decide) rfl ?_
          refine mp_goto (tgt := 7) (dz dl_Mod_enter_1 28 120 (.goto (-113)) 3 rfl) (by decide) ?_
          exact mp_cut h ⟨Or.inr rfl, Or.inr rfl, Or.inr rfl, Or.inr rfl, Or.inr rfl, Or.inl rfl, Or.inl rfl, Or.inl rfl, trivial⟩
        · replace h := h.2 hc
          refine mp_iconst (dz dl_Mod_enter_1 22 110 (.iconst (3)) 1 rfl) (v := (3 : Int32)) (by decide) ?_
          refine mp_goto (tgt := 115) (dz dl_Mod_enter_1 23 111 (.goto (4)) 3 rfl) (by decide) ?_
          refine mp_iadd (dz dl_Mod_enter_1 25 115 (.iadd) 1 rfl) ?_
          refine mp_istore_n (i := 3) (dz dl_Mod_enter_1 26 116 (.istore_n 3) 1 rfl) rfl [qr 1 (some 0), qi l1, qi r5, qi (l3 + (3 : Int32)), qi l4, qi l5, qi s0, qi (32 : Int32)] (by decide) rfl ?_
          refine mp_iinc (i := 4) (v := l4 + 1) (dz dl_Mod_enter_1 27 117 (.iinc 4 (1)) 3 rfl) rfl (congrArg (fun z => l4 + z) (by decide)) [qr 1 (some 0), qi l1, qi r5, qi (l3 + (3 : Int32)), qi (l4 + 1), qi l5, qi s0, qi (32 : Int32)] (by decide) rfl ?_
          refine mp_goto (tgt := 7) (dz dl_Mod_enter_1 28 120 (.goto (-113)) 3 rfl) (by decide) ?_
          exact mp_cut h ⟨Or.inr rfl, Or.inr rfl, Or.inr rfl, Or.inr rfl, Or.inr rfl, Or.inl rfl, Or.inl rfl, Or.inl rfl, trivial⟩
      · replace h := h.2 hc
        refine mp_iconst (dz dl_Mod_enter_1 17 99 (.iconst (2)) 1 rfl) (v := (2 : Int32)) (by decide) ?_
        refine mp_goto (tgt := 115) (dz dl_Mod_enter_1 18 100 (.goto (15)) 3 rfl) (by decide) ?_
        refine mp_iadd (dz dl_Mod_enter_1 25 115 (.iadd) 1 rfl) ?_
        refine mp_istore_n (i := 3) (dz dl_Mod_enter_1 26 116 (.istore_n 3) 1 rfl) rfl [qr 1 (some 0), qi l1, qi r5, qi (l3 + (2 : Int32)), qi l4, qi l5, qi s0, qi (32 : Int32)] (by decide) rfl ?_
        refine mp_iinc (i := 4) (v := l4 + 1) (dz dl_Mod_enter_1 27 117 (.iinc 4 (1)) 3 rfl) rfl (congrArg (fun z => l4 + z) (by decide)) [qr 1 (some 0), qi l1, qi r5, qi (l3 + (2 : Int32)), qi (l4 + 1), qi l5, qi s0, qi (32 : Int32)] (by decide) rfl ?_
        refine mp_goto (tgt := 7) (dz dl_Mod_enter_1 28 120 (.goto (-113)) 3 rfl) (by decide) ?_
        exact mp_cut h ⟨Or.inr rfl, Or.inr rfl, Or.inr rfl, Or.inr rfl, Or.inr rfl, Or.inl rfl, Or.inl rfl, Or.inl rfl, trivial⟩

theorem mb_Mod_parent_0 {u : MS} {l1 : Int32} {Z : Int32 → MS → Prop} (h : (l1 ≤ 0 → Z (-1 : Int32) u) ∧ (¬ l1 ≤ 0 → ((u 70 0) ≤ l1 → Z (-1 : Int32) u) ∧ (¬ (u 70 0) ≤ l1 → vp_in l1 48 ∧ Z (u 71 l1.toNatClampNeg) u))) : mWP M_Mod_parent 0 [qr 1 (some 0), qi l1] [] u (mI Z) := by
  refine mp_iload_n (i := 1) (x := l1) (dz dl_Mod_parent_0 0 0 (.iload_n 1) 1 rfl) rfl rfl ?_
  refine mp_if_le (tgt := 21) (dz dl_Mod_parent_0 1 1 (.ifCond .le (20)) 3 rfl) (by decide) (fun hc => ?_) (fun hc => ?_)
  · replace h := h.1 hc
    refine mp_iconst (dz dl_Mod_parent_0 11 21 (.iconst (-1)) 1 rfl) (v := (-1 : Int32)) (by decide) ?_
    exact mp_rt (qi _) (rt_I rfl (dz dl_Mod_parent_0 12 22 (.ireturn) 1 rfl)) ⟨_, rfl, h⟩
  · replace h := h.2 hc
    refine mp_iload_n (i := 1) (x := l1) (dz dl_Mod_parent_0 2 4 (.iload_n 1) 1 rfl) rfl rfl ?_
    refine mp_aload_n (i := 0) (v := qr 1 (some 0)) (dz dl_Mod_parent_0 3 5 (.aload_n 0) 1 rfl) rfl rfl trivial ?_
    refine mp_getI (dz dl_Mod_parent_0 4 6 (.getfield 13) 3 rfl) lk_Mod_13 kd_70 rfl ?_
    refine mp_icmp_ge (tgt := 21) (dz dl_Mod_parent_0 5 9 (.if_icmp .ge (12)) 3 rfl) (by decide) (fun hc => ?_) (fun hc => ?_)
    · replace h := h.1 hc
      refine mp_iconst (dz dl_Mod_parent_0 11 21 (.iconst (-1)) 1 rfl) (v := (-1 : Int32)) (by decide) ?_
      exact mp_rt (qi _) (rt_I rfl (dz dl_Mod_parent_0 12 22 (.ireturn) 1 rfl)) ⟨_, rfl, h⟩
    · replace h := h.2 hc
      refine mp_aload_n (i := 0) (v := qr 1 (some 0)) (dz dl_Mod_parent_0 6 12 (.aload_n 0) 1 rfl) rfl rfl trivial ?_
      refine mp_getA (dz dl_Mod_parent_0 7 13 (.getfield 17) 3 rfl) lk_Mod_17 (q := 0) kd_71 rfl sm_71 ?_
      refine mp_iload_n (i := 1) (x := l1) (dz dl_Mod_parent_0 8 16 (.iload_n 1) 1 rfl) rfl rfl ?_
      obtain ⟨i1, h⟩ := h
      refine mp_iald (dz dl_Mod_parent_0 9 17 (.iaload) 1 rfl) kd_71 rfl sm_71 i1 ?_
      refine mp_goto (tgt := 22) (dz dl_Mod_parent_0 10 18 (.goto (4)) 3 rfl) (by decide) ?_
      exact mp_rt (qi _) (rt_I rfl (dz dl_Mod_parent_0 12 22 (.ireturn) 1 rfl)) ⟨_, rfl, h⟩
theorem mt_Mod_parent {u : MS} {l1 : Int32} {Z : Int32 → MS → Prop} (h : (l1 ≤ 0 → Z (-1 : Int32) u) ∧ (¬ l1 ≤ 0 → ((u 70 0) ≤ l1 → Z (-1 : Int32) u) ∧ (¬ (u 70 0) ≤ l1 → vp_in l1 48 ∧ Z (u 71 l1.toNatClampNeg) u))) : mMT M_Mod_parent [qr 1 (some 0), qi l1] u (mI Z) := mb_Mod_parent_0 h

theorem mb_Mod_isPrefix_0 {u : MS} {l1 : Int32} {l2 : Int32} {Z : Int32 → MS → Prop} (h : mWP M_Mod_isPrefix 2 [qr 1 (some 0), qi l1, none, qi l2] [] u (mI Z)) : mWP M_Mod_isPrefix 0 [qr 1 (some 0), qi l1, qi l2, none] [] u (mI Z) := by
  refine mp_iload_n (i := 2) (x := l2) (dz dl_Mod_isPrefix_0 0 0 (.iload_n 2) 1 rfl) rfl rfl ?_
  refine mp_istore_n (i := 3) (dz dl_Mod_isPrefix_0 1 1 (.istore_n 3) 1 rfl) rfl [qr 1 (some 0), qi l1, qi l2, qi l2] (by decide) rfl ?_
  exact mp_cut h ⟨Or.inr rfl, Or.inr rfl, Or.inl rfl, Or.inr rfl, trivial⟩
theorem mt_Mod_isPrefix {u : MS} {l1 : Int32} {l2 : Int32} {Z : Int32 → MS → Prop} (h : mWP M_Mod_isPrefix 2 [qr 1 (some 0), qi l1, none, qi l2] [] u (mI Z)) : mMT M_Mod_isPrefix [qr 1 (some 0), qi l1, qi l2] u (mI Z) := mb_Mod_isPrefix_0 h

theorem mb_Mod_isPrefix_2 {u : MS} {l1 : Int32} {l3 : Int32} {Z : Int32 → MS → Prop} (h : vp_in l3 48 ∧ vp_in l1 48 ∧ ((u 72 l3.toNatClampNeg) ≤ (u 72 l1.toNatClampNeg) → (¬ l3 = l1 → Z (0 : Int32) u) ∧ (l3 = l1 → Z (1 : Int32) u)) ∧ (¬ (u 72 l3.toNatClampNeg) ≤ (u 72 l1.toNatClampNeg) → mWP M_Mod_isPrefix 2 [qr 1 (some 0), qi l1, none, qi (u 71 l3.toNatClampNeg)] [] u (mI Z))) : mWP M_Mod_isPrefix 2 [qr 1 (some 0), qi l1, none, qi l3] [] u (mI Z) := by
  refine mp_aload_n (i := 0) (v := qr 1 (some 0)) (dz dl_Mod_isPrefix_0 2 2 (.aload_n 0) 1 rfl) rfl rfl trivial ?_
  refine mp_getA (dz dl_Mod_isPrefix_0 3 3 (.getfield 21) 3 rfl) lk_Mod_21 (q := 0) kd_72 rfl sm_72 ?_
  refine mp_iload_n (i := 3) (x := l3) (dz dl_Mod_isPrefix_0 4 6 (.iload_n 3) 1 rfl) rfl rfl ?_
  obtain ⟨i1, h⟩ := h
  refine mp_iald (dz dl_Mod_isPrefix_0 5 7 (.iaload) 1 rfl) kd_72 rfl sm_72 i1 ?_
  refine mp_aload_n (i := 0) (v := qr 1 (some 0)) (dz dl_Mod_isPrefix_0 6 8 (.aload_n 0) 1 rfl) rfl rfl trivial ?_
  refine mp_getA (dz dl_Mod_isPrefix_0 7 9 (.getfield 21) 3 rfl) lk_Mod_21 (q := 0) kd_72 rfl sm_72 ?_
  refine mp_iload_n (i := 1) (x := l1) (dz dl_Mod_isPrefix_0 8 12 (.iload_n 1) 1 rfl) rfl rfl ?_
  obtain ⟨i2, h⟩ := h
  refine mp_iald (dz dl_Mod_isPrefix_0 9 13 (.iaload) 1 rfl) kd_72 rfl sm_72 i2 ?_
  refine mp_icmp_le (tgt := 27) (dz dl_Mod_isPrefix_0 10 14 (.if_icmp .le (13)) 3 rfl) (by decide) (fun hc => ?_) (fun hc => ?_)
  · replace h := h.1 hc
    refine mp_iload_n (i := 3) (x := l3) (dz dl_Mod_isPrefix_0 17 27 (.iload_n 3) 1 rfl) rfl rfl ?_
    refine mp_iload_n (i := 1) (x := l1) (dz dl_Mod_isPrefix_0 18 28 (.iload_n 1) 1 rfl) rfl rfl ?_
    refine mp_icmp_ne (tgt := 36) (dz dl_Mod_isPrefix_0 19 29 (.if_icmp .ne (7)) 3 rfl) (by decide) (fun hc => ?_) (fun hc => ?_)
    · replace h := h.1 hc
      refine mp_iconst (dz dl_Mod_isPrefix_0 22 36 (.iconst (0)) 1 rfl) (v := (0 : Int32)) (by decide) ?_
      exact mp_rt (qi _) (rt_Z rfl (Or.inl rfl) (dz dl_Mod_isPrefix_0 23 37 (.ireturn) 1 rfl)) ⟨_, rfl, h⟩
    · replace h := h.2 hc
      refine mp_iconst (dz dl_Mod_isPrefix_0 20 32 (.iconst (1)) 1 rfl) (v := (1 : Int32)) (by decide) ?_
      refine mp_goto (tgt := 37) (dz dl_Mod_isPrefix_0 21 33 (.goto (4)) 3 rfl) (by decide) ?_
      exact mp_rt (qi _) (rt_Z rfl (Or.inr rfl) (dz dl_Mod_isPrefix_0 23 37 (.ireturn) 1 rfl)) ⟨_, rfl, h⟩
  · replace h := h.2 hc
    refine mp_aload_n (i := 0) (v := qr 1 (some 0)) (dz dl_Mod_isPrefix_0 11 17 (.aload_n 0) 1 rfl) rfl rfl trivial ?_
    refine mp_getA (dz dl_Mod_isPrefix_0 12 18 (.getfield 17) 3 rfl) lk_Mod_17 (q := 0) kd_71 rfl sm_71 ?_
    refine mp_iload_n (i := 3) (x := l3) (dz dl_Mod_isPrefix_0 13 21 (.iload_n 3) 1 rfl) rfl rfl ?_
    refine mp_iald (dz dl_Mod_isPrefix_0 14 22 (.iaload) 1 rfl) kd_71 rfl sm_71 i1 ?_
    refine mp_istore_n (i := 3) (dz dl_Mod_isPrefix_0 15 23 (.istore_n 3) 1 rfl) rfl [qr 1 (some 0), qi l1, none, qi (u 71 l3.toNatClampNeg)] (by decide) rfl ?_
    refine mp_goto (tgt := 2) (dz dl_Mod_isPrefix_0 16 24 (.goto (-22)) 3 rfl) (by decide) ?_
    exact mp_cut h ⟨Or.inr rfl, Or.inr rfl, Or.inl rfl, Or.inr rfl, trivial⟩

theorem mb_Mod_answers_0 {u : MS} {l1 : Int32} {l2 : Int32} {l3 : Int32} {Z : Int32 → MS → Prop} (h : (l1 = l2 → Z (1 : Int32) u) ∧ (¬ l1 = l2 → (¬ (l3 &&& (1 : Int32)) = (1 : Int32) → Z (0 : Int32) u) ∧ ((l3 &&& (1 : Int32)) = (1 : Int32) → mMT M_Mod_isPrefix [qr 1 (some 0), qi l2, qi l1] u (mI fun r1 u1 => (r1 = 0 → Z (0 : Int32) u1) ∧ (¬ r1 = 0 → Z (1 : Int32) u1))))) : mWP M_Mod_answers 0 [qr 1 (some 0), qi l1, qi l2, qi l3] [] u (mI Z) := by
  refine mp_iload_n (i := 1) (x := l1) (dz dl_Mod_answers_0 0 0 (.iload_n 1) 1 rfl) rfl rfl ?_
  refine mp_iload_n (i := 2) (x := l2) (dz dl_Mod_answers_0 1 1 (.iload_n 2) 1 rfl) rfl rfl ?_
  refine mp_icmp_eq (tgt := 21) (dz dl_Mod_answers_0 2 2 (.if_icmp .eq (19)) 3 rfl) (by decide) (fun hc => ?_) (fun hc => ?_)
  · replace h := h.1 hc
    refine mp_iconst (dz dl_Mod_answers_0 13 21 (.iconst (1)) 1 rfl) (v := (1 : Int32)) (by decide) ?_
    refine mp_goto (tgt := 26) (dz dl_Mod_answers_0 14 22 (.goto (4)) 3 rfl) (by decide) ?_
    exact mp_rt (qi _) (rt_Z rfl (Or.inr rfl) (dz dl_Mod_answers_0 16 26 (.ireturn) 1 rfl)) ⟨_, rfl, h⟩
  · replace h := h.2 hc
    refine mp_iload_n (i := 3) (x := l3) (dz dl_Mod_answers_0 3 5 (.iload_n 3) 1 rfl) rfl rfl ?_
    refine mp_iconst (dz dl_Mod_answers_0 4 6 (.iconst (1)) 1 rfl) (v := (1 : Int32)) (by decide) ?_
    refine mp_iand (dz dl_Mod_answers_0 5 7 (.iand) 1 rfl) ?_
    refine mp_iconst (dz dl_Mod_answers_0 6 8 (.iconst (1)) 1 rfl) (v := (1 : Int32)) (by decide) ?_
    refine mp_icmp_ne (tgt := 25) (dz dl_Mod_answers_0 7 9 (.if_icmp .ne (16)) 3 rfl) (by decide) (fun hc => ?_) (fun hc => ?_)
    · replace h := h.1 hc
      refine mp_iconst (dz dl_Mod_answers_0 15 25 (.iconst (0)) 1 rfl) (v := (0 : Int32)) (by decide) ?_
      exact mp_rt (qi _) (rt_Z rfl (Or.inl rfl) (dz dl_Mod_answers_0 16 26 (.ireturn) 1 rfl)) ⟨_, rfl, h⟩
    · replace h := h.2 hc
      refine mp_aload_n (i := 0) (v := qr 1 (some 0)) (dz dl_Mod_answers_0 8 12 (.aload_n 0) 1 rfl) rfl rfl trivial ?_
      refine mp_iload_n (i := 2) (x := l2) (dz dl_Mod_answers_0 9 13 (.iload_n 2) 1 rfl) rfl rfl ?_
      refine mp_iload_n (i := 1) (x := l1) (dz dl_Mod_answers_0 10 14 (.iload_n 1) 1 rfl) rfl rfl ?_
      refine mp_callV [qi l2, qi l1] [] (dz dl_Mod_answers_0 11 15 (.invokevirtual 191) 3 rfl) ok_Mod_isPrefix lm_Mod_191 ws_Mod_isPrefix wv_Mod_isPrefix ⟨Nat.le_of_ble_eq_true rfl, Nat.le_of_ble_eq_true rfl⟩ pn_Mod_isPrefix (Nat.le_of_ble_eq_true rfl) (Nat.le_of_ble_eq_true rfl) (Or.inl rfl) (mmono h ?_)
      rintro _ u1 ⟨r1, rfl, h⟩
      show mWP _ _ _ [qi r1] _ _
      refine mp_if_eq (tgt := 25) (dz dl_Mod_answers_0 12 18 (.ifCond .eq (7)) 3 rfl) (by decide) (fun hc => ?_) (fun hc => ?_)
      · replace h := h.1 hc
        refine mp_iconst (dz dl_Mod_answers_0 15 25 (.iconst (0)) 1 rfl) (v := (0 : Int32)) (by decide) ?_
        exact mp_rt (qi _) (rt_Z rfl (Or.inl rfl) (dz dl_Mod_answers_0 16 26 (.ireturn) 1 rfl)) ⟨_, rfl, h⟩
      · replace h := h.2 hc
        refine mp_iconst (dz dl_Mod_answers_0 13 21 (.iconst (1)) 1 rfl) (v := (1 : Int32)) (by decide) ?_
        refine mp_goto (tgt := 26) (dz dl_Mod_answers_0 14 22 (.goto (4)) 3 rfl) (by decide) ?_
        exact mp_rt (qi _) (rt_Z rfl (Or.inr rfl) (dz dl_Mod_answers_0 16 26 (.ireturn) 1 rfl)) ⟨_, rfl, h⟩
theorem mt_Mod_answers {u : MS} {l1 : Int32} {l2 : Int32} {l3 : Int32} {Z : Int32 → MS → Prop} (h : (l1 = l2 → Z (1 : Int32) u) ∧ (¬ l1 = l2 → (¬ (l3 &&& (1 : Int32)) = (1 : Int32) → Z (0 : Int32) u) ∧ ((l3 &&& (1 : Int32)) = (1 : Int32) → mMT M_Mod_isPrefix [qr 1 (some 0), qi l2, qi l1] u (mI fun r1 u1 => (r1 = 0 → Z (0 : Int32) u1) ∧ (¬ r1 = 0 → Z (1 : Int32) u1))))) : mMT M_Mod_answers [qr 1 (some 0), qi l1, qi l2, qi l3] u (mI Z) := mb_Mod_answers_0 h

set_option maxRecDepth 20000 in
theorem mb_Mod_link_0 {u : MS} {l1 : Int32} {l2 : Int32} {l3 : Int32} {l4 : Int32} {Z : Int32 → MS → Prop} (h : mMT M_Mod_isWire [qi l1, qi l2] u (mI fun r1 u1 => (r1 = 0 → Z (0 : Int32) u1) ∧ (¬ r1 = 0 → mMT M_Mod_isWire [qi l3, qi l4] u1 (mI fun r2 u2 => (r2 = 0 → Z (0 : Int32) u2) ∧ (¬ r2 = 0 → (l1 = l3 → Z (0 : Int32) u2) ∧ (¬ l1 = l3 → vp_in (((4 : Int32) * l1) + l2) 20 ∧ (0 < (u2 74 (((4 : Int32) * l1) + l2).toNatClampNeg) → Z (0 : Int32) u2) ∧ (¬ 0 < (u2 74 (((4 : Int32) * l1) + l2).toNatClampNeg) → vp_in (((4 : Int32) * l3) + l4) 20 ∧ ((u2 74 (((4 : Int32) * l3) + l4).toNatClampNeg) ≤ 0 → mWP M_Mod_link 51 [qr 1 (some 0), qi l1, qi l2, qi l3, qi l4] [] u2 (mI Z)) ∧ (¬ (u2 74 (((4 : Int32) * l3) + l4).toNatClampNeg) ≤ 0 → Z (0 : Int32) u2)))))))) : mWP M_Mod_link 0 [qr 1 (some 0), qi l1, qi l2, qi l3, qi l4] [] u (mI Z) := by
  refine mp_iload_n (i := 1) (x := l1) (dz dl_Mod_link_0 0 0 (.iload_n 1) 1 rfl) rfl rfl ?_
  refine mp_iload_n (i := 2) (x := l2) (dz dl_Mod_link_0 1 1 (.iload_n 2) 1 rfl) rfl rfl ?_
  refine mp_callS [qi l1, qi l2] [] (dz dl_Mod_link_0 2 2 (.invokestatic 195) 3 rfl) ok_Mod_isWire lm_Mod_195 ws_Mod_isWire ⟨Nat.le_of_ble_eq_true rfl, Nat.le_of_ble_eq_true rfl⟩ pn_Mod_isWire (Nat.le_of_ble_eq_true rfl) (Nat.le_of_ble_eq_true rfl) (Or.inl rfl) (mmono h ?_)
  rintro _ u1 ⟨r1, rfl, h⟩
  show mWP _ _ _ [qi r1] _ _
  refine mp_if_eq (tgt := 49) (dz dl_Mod_link_0 3 5 (.ifCond .eq (44)) 3 rfl) (by decide) (fun hc => ?_) (fun hc => ?_)
  · replace h := h.1 hc
    refine mp_iconst (dz dl_Mod_link_0 29 49 (.iconst (0)) 1 rfl) (v := (0 : Int32)) (by decide) ?_
    exact mp_rt (qi _) (rt_Z rfl (Or.inl rfl) (dz dl_Mod_link_0 30 50 (.ireturn) 1 rfl)) ⟨_, rfl, h⟩
  · replace h := h.2 hc
    refine mp_iload_n (i := 3) (x := l3) (dz dl_Mod_link_0 4 8 (.iload_n 3) 1 rfl) rfl rfl ?_
    refine mp_iload (i := 4) (x := l4) (dz dl_Mod_link_0 5 9 (.iload 4) 2 rfl) rfl ?_
    refine mp_callS [qi l3, qi l4] [] (dz dl_Mod_link_0 6 11 (.invokestatic 195) 3 rfl) ok_Mod_isWire lm_Mod_195 ws_Mod_isWire ⟨Nat.le_of_ble_eq_true rfl, Nat.le_of_ble_eq_true rfl⟩ pn_Mod_isWire (Nat.le_of_ble_eq_true rfl) (Nat.le_of_ble_eq_true rfl) (Or.inl rfl) (mmono h ?_)
    rintro _ u2 ⟨r2, rfl, h⟩
    show mWP _ _ _ [qi r2] _ _
    refine mp_if_eq (tgt := 49) (dz dl_Mod_link_0 7 14 (.ifCond .eq (35)) 3 rfl) (by decide) (fun hc => ?_) (fun hc => ?_)
    · replace h := h.1 hc
      refine mp_iconst (dz dl_Mod_link_0 29 49 (.iconst (0)) 1 rfl) (v := (0 : Int32)) (by decide) ?_
      exact mp_rt (qi _) (rt_Z rfl (Or.inl rfl) (dz dl_Mod_link_0 30 50 (.ireturn) 1 rfl)) ⟨_, rfl, h⟩
    · replace h := h.2 hc
      refine mp_iload_n (i := 1) (x := l1) (dz dl_Mod_link_0 8 17 (.iload_n 1) 1 rfl) rfl rfl ?_
      refine mp_iload_n (i := 3) (x := l3) (dz dl_Mod_link_0 9 18 (.iload_n 3) 1 rfl) rfl rfl ?_
      refine mp_icmp_eq (tgt := 49) (dz dl_Mod_link_0 10 19 (.if_icmp .eq (30)) 3 rfl) (by decide) (fun hc => ?_) (fun hc => ?_)
      · replace h := h.1 hc
        refine mp_iconst (dz dl_Mod_link_0 29 49 (.iconst (0)) 1 rfl) (v := (0 : Int32)) (by decide) ?_
        exact mp_rt (qi _) (rt_Z rfl (Or.inl rfl) (dz dl_Mod_link_0 30 50 (.ireturn) 1 rfl)) ⟨_, rfl, h⟩
      · replace h := h.2 hc
        refine mp_aload_n (i := 0) (v := qr 1 (some 0)) (dz dl_Mod_link_0 11 22 (.aload_n 0) 1 rfl) rfl rfl trivial ?_
        refine mp_getA (dz dl_Mod_link_0 12 23 (.getfield 27) 3 rfl) lk_Mod_27 (q := 0) kd_74 rfl sm_74 ?_
        refine mp_iconst (dz dl_Mod_link_0 13 26 (.iconst (4)) 1 rfl) (v := (4 : Int32)) (by decide) ?_
        refine mp_iload_n (i := 1) (x := l1) (dz dl_Mod_link_0 14 27 (.iload_n 1) 1 rfl) rfl rfl ?_
        refine mp_imul (dz dl_Mod_link_0 15 28 (.imul) 1 rfl) ?_
        refine mp_iload_n (i := 2) (x := l2) (dz dl_Mod_link_0 16 29 (.iload_n 2) 1 rfl) rfl rfl ?_
        refine mp_iadd (dz dl_Mod_link_0 17 30 (.iadd) 1 rfl) ?_
        obtain ⟨i1, h⟩ := h
        refine mp_iald (dz dl_Mod_link_0 18 31 (.iaload) 1 rfl) kd_74 rfl sm_74 i1 ?_
        refine mp_if_gt (tgt := 49) (dz dl_Mod_link_0 19 32 (.ifCond .gt (17)) 3 rfl) (by decide) (fun hc => ?_) (fun hc => ?_)
        · replace h := h.1 hc
          refine mp_iconst (dz dl_Mod_link_0 29 49 (.iconst (0)) 1 rfl) (v := (0 : Int32)) (by decide) ?_
          exact mp_rt (qi _) (rt_Z rfl (Or.inl rfl) (dz dl_Mod_link_0 30 50 (.ireturn) 1 rfl)) ⟨_, rfl, h⟩
        · replace h := h.2 hc
          refine mp_aload_n (i := 0) (v := qr 1 (some 0)) (dz dl_Mod_link_0 20 35 (.aload_n 0) 1 rfl) rfl rfl trivial ?_
          refine mp_getA (dz dl_Mod_link_0 21 36 (.getfield 27) 3 rfl) lk_Mod_27 (q := 0) kd_74 rfl sm_74 ?_
          refine mp_iconst (dz dl_Mod_link_0 22 39 (.iconst (4)) 1 rfl) (v := (4 : Int32)) (by decide) ?_
          refine mp_iload_n (i := 3) (x := l3) (dz dl_Mod_link_0 23 40 (.iload_n 3) 1 rfl) rfl rfl ?_
          refine mp_imul (dz dl_Mod_link_0 24 41 (.imul) 1 rfl) ?_
          refine mp_iload (i := 4) (x := l4) (dz dl_Mod_link_0 25 42 (.iload 4) 2 rfl) rfl ?_
          refine mp_iadd (dz dl_Mod_link_0 26 44 (.iadd) 1 rfl) ?_
          obtain ⟨i2, h⟩ := h
          refine mp_iald (dz dl_Mod_link_0 27 45 (.iaload) 1 rfl) kd_74 rfl sm_74 i2 ?_
          refine mp_if_le (tgt := 51) (dz dl_Mod_link_0 28 46 (.ifCond .le (5)) 3 rfl) (by decide) (fun hc => ?_) (fun hc => ?_)
          · replace h := h.1 hc
            exact mp_cut h ⟨Or.inr rfl, Or.inr rfl, Or.inr rfl, Or.inr rfl, Or.inr rfl, trivial⟩
          · replace h := h.2 hc
            refine mp_iconst (dz dl_Mod_link_0 29 49 (.iconst (0)) 1 rfl) (v := (0 : Int32)) (by decide) ?_
            exact mp_rt (qi _) (rt_Z rfl (Or.inl rfl) (dz dl_Mod_link_0 30 50 (.ireturn) 1 rfl)) ⟨_, rfl, h⟩
theorem mt_Mod_link {u : MS} {l1 : Int32} {l2 : Int32} {l3 : Int32} {l4 : Int32} {Z : Int32 → MS → Prop} (h : mMT M_Mod_isWire [qi l1, qi l2] u (mI fun r1 u1 => (r1 = 0 → Z (0 : Int32) u1) ∧ (¬ r1 = 0 → mMT M_Mod_isWire [qi l3, qi l4] u1 (mI fun r2 u2 => (r2 = 0 → Z (0 : Int32) u2) ∧ (¬ r2 = 0 → (l1 = l3 → Z (0 : Int32) u2) ∧ (¬ l1 = l3 → vp_in (((4 : Int32) * l1) + l2) 20 ∧ (0 < (u2 74 (((4 : Int32) * l1) + l2).toNatClampNeg) → Z (0 : Int32) u2) ∧ (¬ 0 < (u2 74 (((4 : Int32) * l1) + l2).toNatClampNeg) → vp_in (((4 : Int32) * l3) + l4) 20 ∧ ((u2 74 (((4 : Int32) * l3) + l4).toNatClampNeg) ≤ 0 → mWP M_Mod_link 51 [qr 1 (some 0), qi l1, qi l2, qi l3, qi l4] [] u2 (mI Z)) ∧ (¬ (u2 74 (((4 : Int32) * l3) + l4).toNatClampNeg) ≤ 0 → Z (0 : Int32) u2)))))))) : mMT M_Mod_link [qr 1 (some 0), qi l1, qi l2, qi l3, qi l4] u (mI Z) := mb_Mod_link_0 h

set_option maxRecDepth 20000 in
theorem mb_Mod_link_51 {u : MS} {l1 : Int32} {l2 : Int32} {l3 : Int32} {l4 : Int32} {Z : Int32 → MS → Prop} (h : vp_in (((4 : Int32) * l1) + l2) 20 ∧ ∀ u1, u1 = mu u 74 (((4 : Int32) * l1) + l2).toNatClampNeg ((((4 : Int32) * l3) + l4) + (1 : Int32)) → vp_in (((4 : Int32) * l3) + l4) 20 ∧ ∀ u2, u2 = mu u1 74 (((4 : Int32) * l3) + l4).toNatClampNeg ((((4 : Int32) * l1) + l2) + (1 : Int32)) → mWP M_Mod_link 87 [qr 1 (some 0), qi l1, qi l2, qi l3, qi l4] [] u2 (mI Z)) : mWP M_Mod_link 51 [qr 1 (some 0), qi l1, qi l2, qi l3, qi l4] [] u (mI Z) := by
  refine mp_aload_n (i := 0) (v := qr 1 (some 0)) (dz dl_Mod_link_0 31 51 (.aload_n 0) 1 rfl) rfl rfl trivial ?_
  refine mp_getA (dz dl_Mod_link_0 32 52 (.getfield 27) 3 rfl) lk_Mod_27 (q := 0) kd_74 rfl sm_74 ?_
  refine mp_iconst (dz dl_Mod_link_0 33 55 (.iconst (4)) 1 rfl) (v := (4 : Int32)) (by decide) ?_
  refine mp_iload_n (i := 1) (x := l1) (dz dl_Mod_link_0 34 56 (.iload_n 1) 1 rfl) rfl rfl ?_
  refine mp_imul (dz dl_Mod_link_0 35 57 (.imul) 1 rfl) ?_
  refine mp_iload_n (i := 2) (x := l2) (dz dl_Mod_link_0 36 58 (.iload_n 2) 1 rfl) rfl rfl ?_
  refine mp_iadd (dz dl_Mod_link_0 37 59 (.iadd) 1 rfl) ?_
  refine mp_iconst (dz dl_Mod_link_0 38 60 (.iconst (4)) 1 rfl) (v := (4 : Int32)) (by decide) ?_
  refine mp_iload_n (i := 3) (x := l3) (dz dl_Mod_link_0 39 61 (.iload_n 3) 1 rfl) rfl rfl ?_
  refine mp_imul (dz dl_Mod_link_1 0 62 (.imul) 1 rfl) ?_
  refine mp_iload (i := 4) (x := l4) (dz dl_Mod_link_1 1 63 (.iload 4) 2 rfl) rfl ?_
  refine mp_iadd (dz dl_Mod_link_1 2 65 (.iadd) 1 rfl) ?_
  refine mp_iconst (dz dl_Mod_link_1 3 66 (.iconst (1)) 1 rfl) (v := (1 : Int32)) (by decide) ?_
  refine mp_iadd (dz dl_Mod_link_1 4 67 (.iadd) 1 rfl) ?_
  obtain ⟨i1, h⟩ := h
  have h := h _ rfl
  refine mp_iast (dz dl_Mod_link_1 5 68 (.iastore) 1 rfl) kd_74 rfl sm_74 i1 rfl ?_
  refine mp_aload_n (i := 0) (v := qr 1 (some 0)) (dz dl_Mod_link_1 6 69 (.aload_n 0) 1 rfl) rfl rfl trivial ?_
  refine mp_getA (dz dl_Mod_link_1 7 70 (.getfield 27) 3 rfl) lk_Mod_27 (q := 0) kd_74 rfl sm_74 ?_
  refine mp_iconst (dz dl_Mod_link_1 8 73 (.iconst (4)) 1 rfl) (v := (4 : Int32)) (by decide) ?_
  refine mp_iload_n (i := 3) (x := l3) (dz dl_Mod_link_1 9 74 (.iload_n 3) 1 rfl) rfl rfl ?_
  refine mp_imul (dz dl_Mod_link_1 10 75 (.imul) 1 rfl) ?_
  refine mp_iload (i := 4) (x := l4) (dz dl_Mod_link_1 11 76 (.iload 4) 2 rfl) rfl ?_
  refine mp_iadd (dz dl_Mod_link_1 12 78 (.iadd) 1 rfl) ?_
  refine mp_iconst (dz dl_Mod_link_1 13 79 (.iconst (4)) 1 rfl) (v := (4 : Int32)) (by decide) ?_
  refine mp_iload_n (i := 1) (x := l1) (dz dl_Mod_link_1 14 80 (.iload_n 1) 1 rfl) rfl rfl ?_
  refine mp_imul (dz dl_Mod_link_1 15 81 (.imul) 1 rfl) ?_
  refine mp_iload_n (i := 2) (x := l2) (dz dl_Mod_link_1 16 82 (.iload_n 2) 1 rfl) rfl rfl ?_
  refine mp_iadd (dz dl_Mod_link_1 17 83 (.iadd) 1 rfl) ?_
  refine mp_iconst (dz dl_Mod_link_1 18 84 (.iconst (1)) 1 rfl) (v := (1 : Int32)) (by decide) ?_
  refine mp_iadd (dz dl_Mod_link_1 19 85 (.iadd) 1 rfl) ?_
  obtain ⟨i2, h⟩ := h
  have h := h _ rfl
  refine mp_iast (dz dl_Mod_link_1 20 86 (.iastore) 1 rfl) kd_74 rfl sm_74 i2 rfl ?_
  exact mp_cut h ⟨Or.inr rfl, Or.inr rfl, Or.inr rfl, Or.inr rfl, Or.inr rfl, trivial⟩

set_option maxRecDepth 20000 in
theorem mb_Mod_link_87 {u : MS} {l1 : Int32} {l2 : Int32} {l3 : Int32} {l4 : Int32} {Z : Int32 → MS → Prop} (h : vp_in (((4 : Int32) * l1) + l2) 20 ∧ ∀ u1, u1 = mu u 75 (((4 : Int32) * l1) + l2).toNatClampNeg (1 : Int32) → vp_in (((4 : Int32) * l3) + l4) 20 ∧ ∀ u2, u2 = mu u1 75 (((4 : Int32) * l3) + l4).toNatClampNeg (1 : Int32) → Z (1 : Int32) u2) : mWP M_Mod_link 87 [qr 1 (some 0), qi l1, qi l2, qi l3, qi l4] [] u (mI Z) := by
  refine mp_aload_n (i := 0) (v := qr 1 (some 0)) (dz dl_Mod_link_1 21 87 (.aload_n 0) 1 rfl) rfl rfl trivial ?_
  refine mp_getA (dz dl_Mod_link_1 22 88 (.getfield 30) 3 rfl) lk_Mod_30 (q := 0) kd_75 rfl sm_75 ?_
  refine mp_iconst (dz dl_Mod_link_1 23 91 (.iconst (4)) 1 rfl) (v := (4 : Int32)) (by decide) ?_
  refine mp_iload_n (i := 1) (x := l1) (dz dl_Mod_link_1 24 92 (.iload_n 1) 1 rfl) rfl rfl ?_
  refine mp_imul (dz dl_Mod_link_1 25 93 (.imul) 1 rfl) ?_
  refine mp_iload_n (i := 2) (x := l2) (dz dl_Mod_link_1 26 94 (.iload_n 2) 1 rfl) rfl rfl ?_
  refine mp_iadd (dz dl_Mod_link_1 27 95 (.iadd) 1 rfl) ?_
  refine mp_iconst (dz dl_Mod_link_1 28 96 (.iconst (1)) 1 rfl) (v := (1 : Int32)) (by decide) ?_
  obtain ⟨i1, h⟩ := h
  have h := h _ rfl
  refine mp_zast (dz dl_Mod_link_1 29 97 (.bastore) 1 rfl) kd_75 rfl sm_75 i1 (okI_2 (Or.inr rfl)) rfl ?_
  refine mp_aload_n (i := 0) (v := qr 1 (some 0)) (dz dl_Mod_link_1 30 98 (.aload_n 0) 1 rfl) rfl rfl trivial ?_
  refine mp_getA (dz dl_Mod_link_1 31 99 (.getfield 30) 3 rfl) lk_Mod_30 (q := 0) kd_75 rfl sm_75 ?_
  refine mp_iconst (dz dl_Mod_link_1 32 102 (.iconst (4)) 1 rfl) (v := (4 : Int32)) (by decide) ?_
  refine mp_iload_n (i := 3) (x := l3) (dz dl_Mod_link_1 33 103 (.iload_n 3) 1 rfl) rfl rfl ?_
  refine mp_imul (dz dl_Mod_link_1 34 104 (.imul) 1 rfl) ?_
  refine mp_iload (i := 4) (x := l4) (dz dl_Mod_link_1 35 105 (.iload 4) 2 rfl) rfl ?_
  refine mp_iadd (dz dl_Mod_link_1 36 107 (.iadd) 1 rfl) ?_
  refine mp_iconst (dz dl_Mod_link_1 37 108 (.iconst (1)) 1 rfl) (v := (1 : Int32)) (by decide) ?_
  obtain ⟨i2, h⟩ := h
  have h := h _ rfl
  refine mp_zast (dz dl_Mod_link_1 38 109 (.bastore) 1 rfl) kd_75 rfl sm_75 i2 (okI_2 (Or.inr rfl)) rfl ?_
  refine mp_iconst (dz dl_Mod_link_1 39 110 (.iconst (1)) 1 rfl) (v := (1 : Int32)) (by decide) ?_
  exact mp_rt (qi _) (rt_Z rfl (Or.inr rfl) (dz dl_Mod_link_2 0 111 (.ireturn) 1 rfl)) ⟨_, rfl, h⟩

set_option maxRecDepth 20000 in
theorem mb_Mod_turn_0 {u : MS} {l1 : Int32} {l2 : Int32} {l3 : Int32} {Z : Int32 → MS → Prop} (h : mMT M_Mod_isWire [qi l1, qi l2] u (mI fun r1 u1 => (r1 = 0 → Z (0 : Int32) u1) ∧ (¬ r1 = 0 → vp_in (((4 : Int32) * l1) + l2) 20 ∧ ((u1 74 (((4 : Int32) * l1) + l2).toNatClampNeg) = 0 → Z (0 : Int32) u1) ∧ (¬ (u1 74 (((4 : Int32) * l1) + l2).toNatClampNeg) = 0 → (¬ (u1 75 (((4 : Int32) * l1) + l2).toNatClampNeg) = l3 → okI 2 l3 ∧ ∀ u2, u2 = mu u1 75 (((4 : Int32) * l1) + l2).toNatClampNeg l3 → vp_in ((u1 74 (((4 : Int32) * l1) + l2).toNatClampNeg) - (1 : Int32)) 20 ∧ okI 2 l3 ∧ ∀ u3, u3 = mu u2 75 ((u1 74 (((4 : Int32) * l1) + l2).toNatClampNeg) - (1 : Int32)).toNatClampNeg l3 → (l3 = 0 → mWP M_Mod_turn 97 [qr 1 (some 0), none, none, qi l3, qi ((u1 74 (((4 : Int32) * l1) + l2).toNatClampNeg) - (1 : Int32))] [qi (0 : Int32), qi (((4 : Int32) * l1) + l2), qa 76 0] u3 (mI Z)) ∧ (¬ l3 = 0 → mWP M_Mod_turn 97 [qr 1 (some 0), none, none, qi l3, qi ((u1 74 (((4 : Int32) * l1) + l2).toNatClampNeg) - (1 : Int32))] [qi (u3 76 (((4 : Int32) * l1) + l2).toNatClampNeg), qi (((4 : Int32) * l1) + l2), qa 76 0] u3 (mI Z))) ∧ ((u1 75 (((4 : Int32) * l1) + l2).toNatClampNeg) = l3 → Z (0 : Int32) u1))))) : mWP M_Mod_turn 0 [qr 1 (some 0), qi l1, qi l2, qi l3, none] [] u (mI Z) := by
  refine mp_iload_n (i := 1) (x := l1) (dz dl_Mod_turn_0 0 0 (.iload_n 1) 1 rfl) rfl rfl ?_
  refine mp_iload_n (i := 2) (x := l2) (dz dl_Mod_turn_0 1 1 (.iload_n 2) 1 rfl) rfl rfl ?_
  refine mp_callS [qi l1, qi l2] [] (dz dl_Mod_turn_0 2 2 (.invokestatic 195) 3 rfl) ok_Mod_isWire lm_Mod_195 ws_Mod_isWire ⟨Nat.le_of_ble_eq_true rfl, Nat.le_of_ble_eq_true rfl⟩ pn_Mod_isWire (Nat.le_of_ble_eq_true rfl) (Nat.le_of_ble_eq_true rfl) (Or.inl rfl) (mmono h ?_)
  rintro _ u1 ⟨r1, rfl, h⟩
  show mWP _ _ _ [qi r1] _ _
  refine mp_if_eq (tgt := 35) (dz dl_Mod_turn_0 3 5 (.ifCond .eq (30)) 3 rfl) (by decide) (fun hc => ?_) (fun hc => ?_)
  · replace h := h.1 hc
    refine mp_iconst (dz dl_Mod_turn_0 23 35 (.iconst (0)) 1 rfl) (v := (0 : Int32)) (by decide) ?_
    exact mp_rt (qi _) (rt_Z rfl (Or.inl rfl) (dz dl_Mod_turn_0 24 36 (.ireturn) 1 rfl)) ⟨_, rfl, h⟩
  · replace h := h.2 hc
    refine mp_aload_n (i := 0) (v := qr 1 (some 0)) (dz dl_Mod_turn_0 4 8 (.aload_n 0) 1 rfl) rfl rfl trivial ?_
    refine mp_getA (dz dl_Mod_turn_0 5 9 (.getfield 27) 3 rfl) lk_Mod_27 (q := 0) kd_74 rfl sm_74 ?_
    refine mp_iconst (dz dl_Mod_turn_0 6 12 (.iconst (4)) 1 rfl) (v := (4 : Int32)) (by decide) ?_
    refine mp_iload_n (i := 1) (x := l1) (dz dl_Mod_turn_0 7 13 (.iload_n 1) 1 rfl) rfl rfl ?_
    refine mp_imul (dz dl_Mod_turn_0 8 14 (.imul) 1 rfl) ?_
    refine mp_iload_n (i := 2) (x := l2) (dz dl_Mod_turn_0 9 15 (.iload_n 2) 1 rfl) rfl rfl ?_
    refine mp_iadd (dz dl_Mod_turn_0 10 16 (.iadd) 1 rfl) ?_
    obtain ⟨i1, h⟩ := h
    refine mp_iald (dz dl_Mod_turn_0 11 17 (.iaload) 1 rfl) kd_74 rfl sm_74 i1 ?_
    refine mp_if_eq (tgt := 35) (dz dl_Mod_turn_0 12 18 (.ifCond .eq (17)) 3 rfl) (by decide) (fun hc => ?_) (fun hc => ?_)
    · replace h := h.1 hc
      refine mp_iconst (dz dl_Mod_turn_0 23 35 (.iconst (0)) 1 rfl) (v := (0 : Int32)) (by decide) ?_
      exact mp_rt (qi _) (rt_Z rfl (Or.inl rfl) (dz dl_Mod_turn_0 24 36 (.ireturn) 1 rfl)) ⟨_, rfl, h⟩
    · replace h := h.2 hc
      refine mp_aload_n (i := 0) (v := qr 1 (some 0)) (dz dl_Mod_turn_0 13 21 (.aload_n 0) 1 rfl) rfl rfl trivial ?_
      refine mp_getA (dz dl_Mod_turn_0 14 22 (.getfield 30) 3 rfl) lk_Mod_30 (q := 0) kd_75 rfl sm_75 ?_
      refine mp_iconst (dz dl_Mod_turn_0 15 25 (.iconst (4)) 1 rfl) (v := (4 : Int32)) (by decide) ?_
      refine mp_iload_n (i := 1) (x := l1) (dz dl_Mod_turn_0 16 26 (.iload_n 1) 1 rfl) rfl rfl ?_
      refine mp_imul (dz dl_Mod_turn_0 17 27 (.imul) 1 rfl) ?_
      refine mp_iload_n (i := 2) (x := l2) (dz dl_Mod_turn_0 18 28 (.iload_n 2) 1 rfl) rfl rfl ?_
      refine mp_iadd (dz dl_Mod_turn_0 19 29 (.iadd) 1 rfl) ?_
      refine mp_zald (dz dl_Mod_turn_0 20 30 (.baload) 1 rfl) kd_75 rfl sm_75 i1 ?_
      refine mp_iload_n (i := 3) (x := l3) (dz dl_Mod_turn_0 21 31 (.iload_n 3) 1 rfl) rfl rfl ?_
      refine mp_icmp_ne (tgt := 37) (dz dl_Mod_turn_0 22 32 (.if_icmp .ne (5)) 3 rfl) (by decide) (fun hc => ?_) (fun hc => ?_)
      · replace h := h.1 hc
        refine mp_aload_n (i := 0) (v := qr 1 (some 0)) (dz dl_Mod_turn_0 25 37 (.aload_n 0) 1 rfl) rfl rfl trivial ?_
        refine mp_getA (dz dl_Mod_turn_0 26 38 (.getfield 27) 3 rfl) lk_Mod_27 (q := 0) kd_74 rfl sm_74 ?_
        refine mp_iconst (dz dl_Mod_turn_0 27 41 (.iconst (4)) 1 rfl) (v := (4 : Int32)) (by decide) ?_
        refine mp_iload_n (i := 1) (x := l1) (dz dl_Mod_turn_0 28 42 (.iload_n 1) 1 rfl) rfl rfl ?_
        refine mp_imul (dz dl_Mod_turn_0 29 43 (.imul) 1 rfl) ?_
        refine mp_iload_n (i := 2) (x := l2) (dz dl_Mod_turn_0 30 44 (.iload_n 2) 1 rfl) rfl rfl ?_
        refine mp_iadd (dz dl_Mod_turn_0 31 45 (.iadd) 1 rfl) ?_
        refine mp_iald (dz dl_Mod_turn_0 32 46 (.iaload) 1 rfl) kd_74 rfl sm_74 i1 ?_
        refine mp_iconst (dz dl_Mod_turn_0 33 47 (.iconst (1)) 1 rfl) (v := (1 : Int32)) (by decide) ?_
        refine mp_isub (dz dl_Mod_turn_0 34 48 (.isub) 1 rfl) ?_
        refine mp_istore (i := 4) (dz dl_Mod_turn_0 35 49 (.istore 4) 2 rfl) [qr 1 (some 0), qi l1, qi l2, qi l3, qi ((u1 74 (((4 : Int32) * l1) + l2).toNatClampNeg) - (1 : Int32))] (by decide) rfl ?_
        refine mp_aload_n (i := 0) (v := qr 1 (some 0)) (dz dl_Mod_turn_0 36 51 (.aload_n 0) 1 rfl) rfl rfl trivial ?_
        refine mp_getA (dz dl_Mod_turn_0 37 52 (.getfield 30) 3 rfl) lk_Mod_30 (q := 0) kd_75 rfl sm_75 ?_
        refine mp_iconst (dz dl_Mod_turn_0 38 55 (.iconst (4)) 1 rfl) (v := (4 : Int32)) (by decide) ?_
        refine mp_iload_n (i := 1) (x := l1) (dz dl_Mod_turn_0 39 56 (.iload_n 1) 1 rfl) rfl rfl ?_
        refine mp_imul (dz dl_Mod_turn_1 0 57 (.imul) 1 rfl) ?_
        refine mp_iload_n (i := 2) (x := l2) (dz dl_Mod_turn_1 1 58 (.iload_n 2) 1 rfl) rfl rfl ?_
        refine mp_iadd (dz dl_Mod_turn_1 2 59 (.iadd) 1 rfl) ?_
        refine mp_iload_n (i := 3) (x := l3) (dz dl_Mod_turn_1 3 60 (.iload_n 3) 1 rfl) rfl rfl ?_
        obtain ⟨o1, h⟩ := h
        have h := h _ rfl
        refine mp_zast (dz dl_Mod_turn_1 4 61 (.bastore) 1 rfl) kd_75 rfl sm_75 i1 o1 rfl ?_
        refine mp_aload_n (i := 0) (v := qr 1 (some 0)) (dz dl_Mod_turn_1 5 62 (.aload_n 0) 1 rfl) rfl rfl trivial ?_
        refine mp_getA (dz dl_Mod_turn_1 6 63 (.getfield 30) 3 rfl) lk_Mod_30 (q := 0) kd_75 rfl sm_75 ?_
        refine mp_iload (i := 4) (x := (u1 74 (((4 : Int32) * l1) + l2).toNatClampNeg) - (1 : Int32)) (dz dl_Mod_turn_1 7 66 (.iload 4) 2 rfl) rfl ?_
        refine mp_iload_n (i := 3) (x := l3) (dz dl_Mod_turn_1 8 68 (.iload_n 3) 1 rfl) rfl rfl ?_
        obtain ⟨i2, h⟩ := h
        obtain ⟨o2, h⟩ := h
        have h := h _ rfl
        refine mp_zast (dz dl_Mod_turn_1 9 69 (.bastore) 1 rfl) kd_75 rfl sm_75 i2 o2 rfl ?_
        refine mp_aload_n (i := 0) (v := qr 1 (some 0)) (dz dl_Mod_turn_1 10 70 (.aload_n 0) 1 rfl) rfl rfl trivial ?_
        refine mp_getA (dz dl_Mod_turn_1 11 71 (.getfield 34) 3 rfl) lk_Mod_34 (q := 0) kd_76 rfl sm_76 ?_
        refine mp_iconst (dz dl_Mod_turn_1 12 74 (.iconst (4)) 1 rfl) (v := (4 : Int32)) (by decide) ?_
        refine mp_iload_n (i := 1) (x := l1) (dz dl_Mod_turn_1 13 75 (.iload_n 1) 1 rfl) rfl rfl ?_
        refine mp_imul (dz dl_Mod_turn_1 14 76 (.imul) 1 rfl) ?_
        refine mp_iload_n (i := 2) (x := l2) (dz dl_Mod_turn_1 15 77 (.iload_n 2) 1 rfl) rfl rfl ?_
        refine mp_iadd (dz dl_Mod_turn_1 16 78 (.iadd) 1 rfl) ?_
        refine mp_iload_n (i := 3) (x := l3) (dz dl_Mod_turn_1 17 79 (.iload_n 3) 1 rfl) rfl rfl ?_
        refine mp_if_eq (tgt := 96) (dz dl_Mod_turn_1 18 80 (.ifCond .eq (16)) 3 rfl) (by decide) (fun hc => ?_) (fun hc => ?_)
        · replace h := h.1 hc
          refine mp_iconst (dz dl_Mod_turn_1 28 96 (.iconst (0)) 1 rfl) (v := (0 : Int32)) (by decide) ?_
          exact mp_cut h ⟨Or.inr rfl, Or.inl rfl, Or.inl rfl, Or.inr rfl, Or.inr rfl, trivial⟩
        · replace h := h.2 hc
          refine mp_aload_n (i := 0) (v := qr 1 (some 0)) (dz dl_Mod_turn_1 19 83 (.aload_n 0) 1 rfl) rfl rfl trivial ?_
          refine mp_getA (dz dl_Mod_turn_1 20 84 (.getfield 34) 3 rfl) lk_Mod_34 (q := 0) kd_76 rfl sm_76 ?_
          refine mp_iconst (dz dl_Mod_turn_1 21 87 (.iconst (4)) 1 rfl) (v := (4 : Int32)) (by decide) ?_
          refine mp_iload_n (i := 1) (x := l1) (dz dl_Mod_turn_1 22 88 (.iload_n 1) 1 rfl) rfl rfl ?_
          refine mp_imul (dz dl_Mod_turn_1 23 89 (.imul) 1 rfl) ?_
          refine mp_iload_n (i := 2) (x := l2) (dz dl_Mod_turn_1 24 90 (.iload_n 2) 1 rfl) rfl rfl ?_
          refine mp_iadd (dz dl_Mod_turn_1 25 91 (.iadd) 1 rfl) ?_
          refine mp_iald (dz dl_Mod_turn_1 26 92 (.iaload) 1 rfl) kd_76 rfl sm_76 i1 ?_
          refine mp_goto (tgt := 97) (dz dl_Mod_turn_1 27 93 (.goto (4)) 3 rfl) (by decide) ?_
          exact mp_cut h ⟨Or.inr rfl, Or.inl rfl, Or.inl rfl, Or.inr rfl, Or.inr rfl, trivial⟩
      · replace h := h.2 hc
        refine mp_iconst (dz dl_Mod_turn_0 23 35 (.iconst (0)) 1 rfl) (v := (0 : Int32)) (by decide) ?_
        exact mp_rt (qi _) (rt_Z rfl (Or.inl rfl) (dz dl_Mod_turn_0 24 36 (.ireturn) 1 rfl)) ⟨_, rfl, h⟩
theorem mt_Mod_turn {u : MS} {l1 : Int32} {l2 : Int32} {l3 : Int32} {Z : Int32 → MS → Prop} (h : mMT M_Mod_isWire [qi l1, qi l2] u (mI fun r1 u1 => (r1 = 0 → Z (0 : Int32) u1) ∧ (¬ r1 = 0 → vp_in (((4 : Int32) * l1) + l2) 20 ∧ ((u1 74 (((4 : Int32) * l1) + l2).toNatClampNeg) = 0 → Z (0 : Int32) u1) ∧ (¬ (u1 74 (((4 : Int32) * l1) + l2).toNatClampNeg) = 0 → (¬ (u1 75 (((4 : Int32) * l1) + l2).toNatClampNeg) = l3 → okI 2 l3 ∧ ∀ u2, u2 = mu u1 75 (((4 : Int32) * l1) + l2).toNatClampNeg l3 → vp_in ((u1 74 (((4 : Int32) * l1) + l2).toNatClampNeg) - (1 : Int32)) 20 ∧ okI 2 l3 ∧ ∀ u3, u3 = mu u2 75 ((u1 74 (((4 : Int32) * l1) + l2).toNatClampNeg) - (1 : Int32)).toNatClampNeg l3 → (l3 = 0 → mWP M_Mod_turn 97 [qr 1 (some 0), none, none, qi l3, qi ((u1 74 (((4 : Int32) * l1) + l2).toNatClampNeg) - (1 : Int32))] [qi (0 : Int32), qi (((4 : Int32) * l1) + l2), qa 76 0] u3 (mI Z)) ∧ (¬ l3 = 0 → mWP M_Mod_turn 97 [qr 1 (some 0), none, none, qi l3, qi ((u1 74 (((4 : Int32) * l1) + l2).toNatClampNeg) - (1 : Int32))] [qi (u3 76 (((4 : Int32) * l1) + l2).toNatClampNeg), qi (((4 : Int32) * l1) + l2), qa 76 0] u3 (mI Z))) ∧ ((u1 75 (((4 : Int32) * l1) + l2).toNatClampNeg) = l3 → Z (0 : Int32) u1))))) : mMT M_Mod_turn [qr 1 (some 0), qi l1, qi l2, qi l3] u (mI Z) := mb_Mod_turn_0 h

set_option maxRecDepth 20000 in
theorem mb_Mod_turn_97 {u : MS} {l3 : Int32} {l4 : Int32} {s1 : Int32} {s2 : Int32} {Z : Int32 → MS → Prop} (h : vp_in s1 20 ∧ ∀ u1, u1 = mu u 76 s1.toNatClampNeg s2 → (l3 = 0 → vp_in l4 20 ∧ ∀ u2, u2 = mu u1 76 l4.toNatClampNeg (0 : Int32) → Z (1 : Int32) u2) ∧ (¬ l3 = 0 → vp_in l4 20 ∧ ∀ u3, u3 = mu u1 76 l4.toNatClampNeg (u1 76 l4.toNatClampNeg) → Z (1 : Int32) u3)) : mWP M_Mod_turn 97 [qr 1 (some 0), none, none, qi l3, qi l4] [qi s2, qi s1, qa 76 0] u (mI Z) := by
  obtain ⟨i1, h⟩ := h
  have h := h _ rfl
  refine mp_iast (dz dl_Mod_turn_1 29 97 (.iastore) 1 rfl) kd_76 rfl sm_76 i1 rfl ?_
  refine mp_aload_n (i := 0) (v := qr 1 (some 0)) (dz dl_Mod_turn_1 30 98 (.aload_n 0) 1 rfl) rfl rfl trivial ?_
  refine mp_getA (dz dl_Mod_turn_1 31 99 (.getfield 34) 3 rfl) lk_Mod_34 (q := 0) kd_76 rfl sm_76 ?_
  refine mp_iload (i := 4) (x := l4) (dz dl_Mod_turn_1 32 102 (.iload 4) 2 rfl) rfl ?_
  refine mp_iload_n (i := 3) (x := l3) (dz dl_Mod_turn_1 33 104 (.iload_n 3) 1 rfl) rfl rfl ?_
  refine mp_if_eq (tgt := 118) (dz dl_Mod_turn_1 34 105 (.ifCond .eq (13)) 3 rfl) (by decide) (fun hc => ?_) (fun hc => ?_)
  · replace h := h.1 hc
    refine mp_iconst (dz dl_Mod_turn_2 0 118 (.iconst (0)) 1 rfl) (v := (0 : Int32)) (by decide) ?_
    obtain ⟨i2, h⟩ := h
    have h := h _ rfl
    refine mp_iast (dz dl_Mod_turn_2 1 119 (.iastore) 1 rfl) kd_76 rfl sm_76 i2 rfl ?_
    refine mp_iconst (dz dl_Mod_turn_2 2 120 (.iconst (1)) 1 rfl) (v := (1 : Int32)) (by decide) ?_
    exact mp_rt (qi _) (rt_Z rfl (Or.inr rfl) (dz dl_Mod_turn_2 3 121 (.ireturn) 1 rfl)) ⟨_, rfl, h⟩
  · replace h := h.2 hc
    refine mp_aload_n (i := 0) (v := qr 1 (some 0)) (dz dl_Mod_turn_1 35 108 (.aload_n 0) 1 rfl) rfl rfl trivial ?_
    refine mp_getA (dz dl_Mod_turn_1 36 109 (.getfield 34) 3 rfl) lk_Mod_34 (q := 0) kd_76 rfl sm_76 ?_
    refine mp_iload (i := 4) (x := l4) (dz dl_Mod_turn_1 37 112 (.iload 4) 2 rfl) rfl ?_
    obtain ⟨i3, h⟩ := h
    refine mp_iald (dz dl_Mod_turn_1 38 114 (.iaload) 1 rfl) kd_76 rfl sm_76 i3 ?_
    refine mp_goto (tgt := 119) (dz dl_Mod_turn_1 39 115 (.goto (4)) 3 rfl) (by decide) ?_
    have h := h _ rfl
    refine mp_iast (dz dl_Mod_turn_2 1 119 (.iastore) 1 rfl) kd_76 rfl sm_76 i3 rfl ?_
    refine mp_iconst (dz dl_Mod_turn_2 2 120 (.iconst (1)) 1 rfl) (v := (1 : Int32)) (by decide) ?_
    exact mp_rt (qi _) (rt_Z rfl (Or.inr rfl) (dz dl_Mod_turn_2 3 121 (.ireturn) 1 rfl)) ⟨_, rfl, h⟩

theorem mb_Mod_put_0 {u : MS} {l1 : Int32} {l2 : Int32} {l3 : Int32} {l4 : Int32} {l5 : Int32} {l6 : Int32} {Z : MS → Prop} (h : vp_in l1 20 ∧ ((u 74 l1.toNatClampNeg) = 0 → Z u) ∧ (¬ (u 74 l1.toNatClampNeg) = 0 → ((u 75 l1.toNatClampNeg) = 0 → Z u) ∧ (¬ (u 75 l1.toNatClampNeg) = 0 → (¬ (u 76 l1.toNatClampNeg) = (8 : Int32) → vp_in (((40 : Int32) * l1) + ((5 : Int32) * (u 76 l1.toNatClampNeg))) 800 ∧ ∀ u1, u1 = mu u 77 (((40 : Int32) * l1) + ((5 : Int32) * (u 76 l1.toNatClampNeg))).toNatClampNeg l2 → vp_in ((((40 : Int32) * l1) + ((5 : Int32) * (u 76 l1.toNatClampNeg))) + (1 : Int32)) 800 ∧ ∀ u2, u2 = mu u1 77 ((((40 : Int32) * l1) + ((5 : Int32) * (u 76 l1.toNatClampNeg))) + (1 : Int32)).toNatClampNeg l3 → vp_in ((((40 : Int32) * l1) + ((5 : Int32) * (u 76 l1.toNatClampNeg))) + (2 : Int32)) 800 ∧ ∀ u3, u3 = mu u2 77 ((((40 : Int32) * l1) + ((5 : Int32) * (u 76 l1.toNatClampNeg))) + (2 : Int32)).toNatClampNeg l4 → vp_in ((((40 : Int32) * l1) + ((5 : Int32) * (u 76 l1.toNatClampNeg))) + (3 : Int32)) 800 ∧ ∀ u4, u4 = mu u3 77 ((((40 : Int32) * l1) + ((5 : Int32) * (u 76 l1.toNatClampNeg))) + (3 : Int32)).toNatClampNeg l5 → vp_in ((((40 : Int32) * l1) + ((5 : Int32) * (u 76 l1.toNatClampNeg))) + (4 : Int32)) 800 ∧ ∀ u5, u5 = mu u4 77 ((((40 : Int32) * l1) + ((5 : Int32) * (u 76 l1.toNatClampNeg))) + (4 : Int32)).toNatClampNeg l6 → ∀ u6, u6 = mu u5 76 l1.toNatClampNeg ((u5 76 l1.toNatClampNeg) + (1 : Int32)) → Z u6) ∧ ((u 76 l1.toNatClampNeg) = (8 : Int32) → Z u)))) : mWP M_Mod_put 0 [qr 1 (some 0), qi l1, qi l2, qi l3, qi l4, qi l5, qi l6, none] [] u (mV Z) := by
  refine mp_aload_n (i := 0) (v := qr 1 (some 0)) (dz dl_Mod_put_0 0 0 (.aload_n 0) 1 rfl) rfl rfl trivial ?_
  refine mp_getA (dz dl_Mod_put_0 1 1 (.getfield 27) 3 rfl) lk_Mod_27 (q := 0) kd_74 rfl sm_74 ?_
  refine mp_iload_n (i := 1) (x := l1) (dz dl_Mod_put_0 2 4 (.iload_n 1) 1 rfl) rfl rfl ?_
  obtain ⟨i1, h⟩ := h
  refine mp_iald (dz dl_Mod_put_0 3 5 (.iaload) 1 rfl) kd_74 rfl sm_74 i1 ?_
  refine mp_if_eq (tgt := 29) (dz dl_Mod_put_0 4 6 (.ifCond .eq (23)) 3 rfl) (by decide) (fun hc => ?_) (fun hc => ?_)
  · replace h := h.1 hc
    exact mp_rt none (rt_V rfl (dz dl_Mod_put_0 16 29 (.return_) 1 rfl)) ⟨rfl, h⟩
  · replace h := h.2 hc
    refine mp_aload_n (i := 0) (v := qr 1 (some 0)) (dz dl_Mod_put_0 5 9 (.aload_n 0) 1 rfl) rfl rfl trivial ?_
    refine mp_getA (dz dl_Mod_put_0 6 10 (.getfield 30) 3 rfl) lk_Mod_30 (q := 0) kd_75 rfl sm_75 ?_
    refine mp_iload_n (i := 1) (x := l1) (dz dl_Mod_put_0 7 13 (.iload_n 1) 1 rfl) rfl rfl ?_
    refine mp_zald (dz dl_Mod_put_0 8 14 (.baload) 1 rfl) kd_75 rfl sm_75 i1 ?_
    refine mp_if_eq (tgt := 29) (dz dl_Mod_put_0 9 15 (.ifCond .eq (14)) 3 rfl) (by decide) (fun hc => ?_) (fun hc => ?_)
    · replace h := h.1 hc
      exact mp_rt none (rt_V rfl (dz dl_Mod_put_0 16 29 (.return_) 1 rfl)) ⟨rfl, h⟩
    · replace h := h.2 hc
      refine mp_aload_n (i := 0) (v := qr 1 (some 0)) (dz dl_Mod_put_0 10 18 (.aload_n 0) 1 rfl) rfl rfl trivial ?_
      refine mp_getA (dz dl_Mod_put_0 11 19 (.getfield 34) 3 rfl) lk_Mod_34 (q := 0) kd_76 rfl sm_76 ?_
      refine mp_iload_n (i := 1) (x := l1) (dz dl_Mod_put_0 12 22 (.iload_n 1) 1 rfl) rfl rfl ?_
      refine mp_iald (dz dl_Mod_put_0 13 23 (.iaload) 1 rfl) kd_76 rfl sm_76 i1 ?_
      refine mp_bipush (dz dl_Mod_put_0 14 24 (.bipush (8)) 2 rfl) (v := (8 : Int32)) (by decide) ?_
      refine mp_icmp_ne (tgt := 30) (dz dl_Mod_put_0 15 26 (.if_icmp .ne (4)) 3 rfl) (by decide) (fun hc => ?_) (fun hc => ?_)
      · replace h := h.1 hc
        refine mp_bipush (dz dl_Mod_put_0 17 30 (.bipush (40)) 2 rfl) (v := (40 : Int32)) (by decide) ?_
        refine mp_iload_n (i := 1) (x := l1) (dz dl_Mod_put_0 18 32 (.iload_n 1) 1 rfl) rfl rfl ?_
        refine mp_imul (dz dl_Mod_put_0 19 33 (.imul) 1 rfl) ?_
        refine mp_iconst (dz dl_Mod_put_0 20 34 (.iconst (5)) 1 rfl) (v := (5 : Int32)) (by decide) ?_
        refine mp_aload_n (i := 0) (v := qr 1 (some 0)) (dz dl_Mod_put_0 21 35 (.aload_n 0) 1 rfl) rfl rfl trivial ?_
        refine mp_getA (dz dl_Mod_put_0 22 36 (.getfield 34) 3 rfl) lk_Mod_34 (q := 0) kd_76 rfl sm_76 ?_
        refine mp_iload_n (i := 1) (x := l1) (dz dl_Mod_put_0 23 39 (.iload_n 1) 1 rfl) rfl rfl ?_
        refine mp_iald (dz dl_Mod_put_0 24 40 (.iaload) 1 rfl) kd_76 rfl sm_76 i1 ?_
        refine mp_imul (dz dl_Mod_put_0 25 41 (.imul) 1 rfl) ?_
        refine mp_iadd (dz dl_Mod_put_0 26 42 (.iadd) 1 rfl) ?_
        refine mp_istore (i := 7) (dz dl_Mod_put_0 27 43 (.istore 7) 2 rfl) [qr 1 (some 0), qi l1, qi l2, qi l3, qi l4, qi l5, qi l6, qi (((40 : Int32) * l1) + ((5 : Int32) * (u 76 l1.toNatClampNeg)))] (by decide) rfl ?_
        refine mp_aload_n (i := 0) (v := qr 1 (some 0)) (dz dl_Mod_put_0 28 45 (.aload_n 0) 1 rfl) rfl rfl trivial ?_
        refine mp_getA (dz dl_Mod_put_0 29 46 (.getfield 37) 3 rfl) lk_Mod_37 (q := 0) kd_77 rfl sm_77 ?_
        refine mp_iload (i := 7) (x := ((40 : Int32) * l1) + ((5 : Int32) * (u 76 l1.toNatClampNeg))) (dz dl_Mod_put_0 30 49 (.iload 7) 2 rfl) rfl ?_
        refine mp_iload_n (i := 2) (x := l2) (dz dl_Mod_put_0 31 51 (.iload_n 2) 1 rfl) rfl rfl ?_
        obtain ⟨i2, h⟩ := h
        have h := h _ rfl
        refine mp_iast (dz dl_Mod_put_0 32 52 (.iastore) 1 rfl) kd_77 rfl sm_77 i2 rfl ?_
        refine mp_aload_n (i := 0) (v := qr 1 (some 0)) (dz dl_Mod_put_0 33 53 (.aload_n 0) 1 rfl) rfl rfl trivial ?_
        refine mp_getA (dz dl_Mod_put_0 34 54 (.getfield 37) 3 rfl) lk_Mod_37 (q := 0) kd_77 rfl sm_77 ?_
        refine mp_iload (i := 7) (x := ((40 : Int32) * l1) + ((5 : Int32) * (u 76 l1.toNatClampNeg))) (dz dl_Mod_put_0 35 57 (.iload 7) 2 rfl) rfl ?_
        refine mp_iconst (dz dl_Mod_put_0 36 59 (.iconst (1)) 1 rfl) (v := (1 : Int32)) (by decide) ?_
        refine mp_iadd (dz dl_Mod_put_0 37 60 (.iadd) 1 rfl) ?_
        refine mp_iload_n (i := 3) (x := l3) (dz dl_Mod_put_0 38 61 (.iload_n 3) 1 rfl) rfl rfl ?_
        obtain ⟨i3, h⟩ := h
        have h := h _ rfl
        refine mp_iast (dz dl_Mod_put_0 39 62 (.iastore) 1 rfl) kd_77 rfl sm_77 i3 rfl ?_
        refine mp_aload_n (i := 0) (v := qr 1 (some 0)) (dz dl_Mod_put_1 0 63 (.aload_n 0) 1 rfl) rfl rfl trivial ?_
        refine mp_getA (dz dl_Mod_put_1 1 64 (.getfield 37) 3 rfl) lk_Mod_37 (q := 0) kd_77 rfl sm_77 ?_
        refine mp_iload (i := 7) (x := ((40 : Int32) * l1) + ((5 : Int32) * (u 76 l1.toNatClampNeg))) (dz dl_Mod_put_1 2 67 (.iload 7) 2 rfl) rfl ?_
        refine mp_iconst (dz dl_Mod_put_1 3 69 (.iconst (2)) 1 rfl) (v := (2 : Int32)) (by decide) ?_
        refine mp_iadd (dz dl_Mod_put_1 4 70 (.iadd) 1 rfl) ?_
        refine mp_iload (i := 4) (x := l4) (dz dl_Mod_put_1 5 71 (.iload 4) 2 rfl) rfl ?_
        obtain ⟨i4, h⟩ := h
        have h := h _ rfl
        refine mp_iast (dz dl_Mod_put_1 6 73 (.iastore) 1 rfl) kd_77 rfl sm_77 i4 rfl ?_
        refine mp_aload_n (i := 0) (v := qr 1 (some 0)) (dz dl_Mod_put_1 7 74 (.aload_n 0) 1 rfl) rfl rfl trivial ?_
        refine mp_getA (dz dl_Mod_put_1 8 75 (.getfield 37) 3 rfl) lk_Mod_37 (q := 0) kd_77 rfl sm_77 ?_
        refine mp_iload (i := 7) (x := ((40 : Int32) * l1) + ((5 : Int32) * (u 76 l1.toNatClampNeg))) (dz dl_Mod_put_1 9 78 (.iload 7) 2 rfl) rfl ?_
        refine mp_iconst (dz dl_Mod_put_1 10 80 (.iconst (3)) 1 rfl) (v := (3 : Int32)) (by decide) ?_
        refine mp_iadd (dz dl_Mod_put_1 11 81 (.iadd) 1 rfl) ?_
        refine mp_iload (i := 5) (x := l5) (dz dl_Mod_put_1 12 82 (.iload 5) 2 rfl) rfl ?_
        obtain ⟨i5, h⟩ := h
        have h := h _ rfl
        refine mp_iast (dz dl_Mod_put_1 13 84 (.iastore) 1 rfl) kd_77 rfl sm_77 i5 rfl ?_
        refine mp_aload_n (i := 0) (v := qr 1 (some 0)) (dz dl_Mod_put_1 14 85 (.aload_n 0) 1 rfl) rfl rfl trivial ?_
        refine mp_getA (dz dl_Mod_put_1 15 86 (.getfield 37) 3 rfl) lk_Mod_37 (q := 0) kd_77 rfl sm_77 ?_
        refine mp_iload (i := 7) (x := ((40 : Int32) * l1) + ((5 : Int32) * (u 76 l1.toNatClampNeg))) (dz dl_Mod_put_1 16 89 (.iload 7) 2 rfl) rfl ?_
        refine mp_iconst (dz dl_Mod_put_1 17 91 (.iconst (4)) 1 rfl) (v := (4 : Int32)) (by decide) ?_
        refine mp_iadd (dz dl_Mod_put_1 18 92 (.iadd) 1 rfl) ?_
        refine mp_iload (i := 6) (x := l6) (dz dl_Mod_put_1 19 93 (.iload 6) 2 rfl) rfl ?_
        obtain ⟨i6, h⟩ := h
        have h := h _ rfl
        refine mp_iast (dz dl_Mod_put_1 20 95 (.iastore) 1 rfl) kd_77 rfl sm_77 i6 rfl ?_
        refine mp_aload_n (i := 0) (v := qr 1 (some 0)) (dz dl_Mod_put_1 21 96 (.aload_n 0) 1 rfl) rfl rfl trivial ?_
        refine mp_getA (dz dl_Mod_put_1 22 97 (.getfield 34) 3 rfl) lk_Mod_34 (q := 0) kd_76 rfl sm_76 ?_
        refine mp_iload_n (i := 1) (x := l1) (dz dl_Mod_put_1 23 100 (.iload_n 1) 1 rfl) rfl rfl ?_
        refine mp_dup2 (dz dl_Mod_put_1 24 101 (.dup2) 1 rfl) ?_
        refine mp_iald (dz dl_Mod_put_1 25 102 (.iaload) 1 rfl) kd_76 rfl sm_76 i1 ?_
        refine mp_iconst (dz dl_Mod_put_1 26 103 (.iconst (1)) 1 rfl) (v := (1 : Int32)) (by decide) ?_
        refine mp_iadd (dz dl_Mod_put_1 27 104 (.iadd) 1 rfl) ?_
        have h := h _ rfl
        refine mp_iast (dz dl_Mod_put_1 28 105 (.iastore) 1 rfl) kd_76 rfl sm_76 i1 rfl ?_
        exact mp_rt none (rt_V rfl (dz dl_Mod_put_1 29 106 (.return_) 1 rfl)) ⟨rfl, h⟩
      · replace h := h.2 hc
        exact mp_rt none (rt_V rfl (dz dl_Mod_put_0 16 29 (.return_) 1 rfl)) ⟨rfl, h⟩
theorem mt_Mod_put {u : MS} {l1 : Int32} {l2 : Int32} {l3 : Int32} {l4 : Int32} {l5 : Int32} {l6 : Int32} {Z : MS → Prop} (h : vp_in l1 20 ∧ ((u 74 l1.toNatClampNeg) = 0 → Z u) ∧ (¬ (u 74 l1.toNatClampNeg) = 0 → ((u 75 l1.toNatClampNeg) = 0 → Z u) ∧ (¬ (u 75 l1.toNatClampNeg) = 0 → (¬ (u 76 l1.toNatClampNeg) = (8 : Int32) → vp_in (((40 : Int32) * l1) + ((5 : Int32) * (u 76 l1.toNatClampNeg))) 800 ∧ ∀ u1, u1 = mu u 77 (((40 : Int32) * l1) + ((5 : Int32) * (u 76 l1.toNatClampNeg))).toNatClampNeg l2 → vp_in ((((40 : Int32) * l1) + ((5 : Int32) * (u 76 l1.toNatClampNeg))) + (1 : Int32)) 800 ∧ ∀ u2, u2 = mu u1 77 ((((40 : Int32) * l1) + ((5 : Int32) * (u 76 l1.toNatClampNeg))) + (1 : Int32)).toNatClampNeg l3 → vp_in ((((40 : Int32) * l1) + ((5 : Int32) * (u 76 l1.toNatClampNeg))) + (2 : Int32)) 800 ∧ ∀ u3, u3 = mu u2 77 ((((40 : Int32) * l1) + ((5 : Int32) * (u 76 l1.toNatClampNeg))) + (2 : Int32)).toNatClampNeg l4 → vp_in ((((40 : Int32) * l1) + ((5 : Int32) * (u 76 l1.toNatClampNeg))) + (3 : Int32)) 800 ∧ ∀ u4, u4 = mu u3 77 ((((40 : Int32) * l1) + ((5 : Int32) * (u 76 l1.toNatClampNeg))) + (3 : Int32)).toNatClampNeg l5 → vp_in ((((40 : Int32) * l1) + ((5 : Int32) * (u 76 l1.toNatClampNeg))) + (4 : Int32)) 800 ∧ ∀ u5, u5 = mu u4 77 ((((40 : Int32) * l1) + ((5 : Int32) * (u 76 l1.toNatClampNeg))) + (4 : Int32)).toNatClampNeg l6 → ∀ u6, u6 = mu u5 76 l1.toNatClampNeg ((u5 76 l1.toNatClampNeg) + (1 : Int32)) → Z u6) ∧ ((u 76 l1.toNatClampNeg) = (8 : Int32) → Z u)))) : mMT M_Mod_put [qr 1 (some 0), qi l1, qi l2, qi l3, qi l4, qi l5, qi l6] u (mV Z) := mb_Mod_put_0 h

theorem mb_Mod_take_0 {u : MS} {l1 : Int32} {Z : MS → Prop} (h : mWP M_Mod_take 2 [qr 1 (some 0), qi l1, qi (0 : Int32)] [] u (mV Z)) : mWP M_Mod_take 0 [qr 1 (some 0), qi l1, none] [] u (mV Z) := by
  refine mp_iconst (dz dl_Mod_take_0 0 0 (.iconst (0)) 1 rfl) (v := (0 : Int32)) (by decide) ?_
  refine mp_istore_n (i := 2) (dz dl_Mod_take_0 1 1 (.istore_n 2) 1 rfl) rfl [qr 1 (some 0), qi l1, qi (0 : Int32)] (by decide) rfl ?_
  exact mp_cut h ⟨Or.inr rfl, Or.inr rfl, Or.inr rfl, trivial⟩
theorem mt_Mod_take {u : MS} {l1 : Int32} {Z : MS → Prop} (h : mWP M_Mod_take 2 [qr 1 (some 0), qi l1, qi (0 : Int32)] [] u (mV Z)) : mMT M_Mod_take [qr 1 (some 0), qi l1] u (mV Z) := mb_Mod_take_0 h

theorem mb_Mod_take_2 {u : MS} {l1 : Int32} {l2 : Int32} {Z : MS → Prop} (h : ((5 : Int32) ≤ l2 → vp_in l1 20 ∧ ∀ u1, u1 = mu u 76 l1.toNatClampNeg ((u 76 l1.toNatClampNeg) - (1 : Int32)) → mWP M_Mod_take 45 [qr 1 (some 0), qi l1, qi ((40 : Int32) * l1)] [] u1 (mV Z)) ∧ (¬ (5 : Int32) ≤ l2 → vp_in (((40 : Int32) * l1) + l2) 800 ∧ vp_in l2 5 ∧ ∀ u2, u2 = mu u 78 l2.toNatClampNeg (u 77 (((40 : Int32) * l1) + l2).toNatClampNeg) → mWP M_Mod_take 2 [qr 1 (some 0), qi l1, qi (l2 + 1)] [] u2 (mV Z))) : mWP M_Mod_take 2 [qr 1 (some 0), qi l1, qi l2] [] u (mV Z) := by
  refine mp_iload_n (i := 2) (x := l2) (dz dl_Mod_take_0 2 2 (.iload_n 2) 1 rfl) rfl rfl ?_
  refine mp_iconst (dz dl_Mod_take_0 3 3 (.iconst (5)) 1 rfl) (v := (5 : Int32)) (by decide) ?_
  refine mp_icmp_ge (tgt := 30) (dz dl_Mod_take_0 4 4 (.if_icmp .ge (26)) 3 rfl) (by decide) (fun hc => ?_) (fun hc => ?_)
  · replace h := h.1 hc
    refine mp_aload_n (i := 0) (v := qr 1 (some 0)) (dz dl_Mod_take_0 19 30 (.aload_n 0) 1 rfl) rfl rfl trivial ?_
    refine mp_getA (dz dl_Mod_take_0 20 31 (.getfield 34) 3 rfl) lk_Mod_34 (q := 0) kd_76 rfl sm_76 ?_
    refine mp_iload_n (i := 1) (x := l1) (dz dl_Mod_take_0 21 34 (.iload_n 1) 1 rfl) rfl rfl ?_
    refine mp_dup2 (dz dl_Mod_take_0 22 35 (.dup2) 1 rfl) ?_
    obtain ⟨i1, h⟩ := h
    refine mp_iald (dz dl_Mod_take_0 23 36 (.iaload) 1 rfl) kd_76 rfl sm_76 i1 ?_
    refine mp_iconst (dz dl_Mod_take_0 24 37 (.iconst (1)) 1 rfl) (v := (1 : Int32)) (by decide) ?_
    refine mp_isub (dz dl_Mod_take_0 25 38 (.isub) 1 rfl) ?_
    have h := h _ rfl
    refine mp_iast (dz dl_Mod_take_0 26 39 (.iastore) 1 rfl) kd_76 rfl sm_76 i1 rfl ?_
    refine mp_bipush (dz dl_Mod_take_0 27 40 (.bipush (40)) 2 rfl) (v := (40 : Int32)) (by decide) ?_
    refine mp_iload_n (i := 1) (x := l1) (dz dl_Mod_take_0 28 42 (.iload_n 1) 1 rfl) rfl rfl ?_
    refine mp_imul (dz dl_Mod_take_0 29 43 (.imul) 1 rfl) ?_
    refine mp_istore_n (i := 2) (dz dl_Mod_take_0 30 44 (.istore_n 2) 1 rfl) rfl [qr 1 (some 0), qi l1, qi ((40 : Int32) * l1)] (by decide) rfl ?_
    exact mp_cut h ⟨Or.inr rfl, Or.inr rfl, Or.inr rfl, trivial⟩
  · replace h := h.2 hc
    refine mp_aload_n (i := 0) (v := qr 1 (some 0)) (dz dl_Mod_take_0 5 7 (.aload_n 0) 1 rfl) rfl rfl trivial ?_
    refine mp_getA (dz dl_Mod_take_0 6 8 (.getfield 40) 3 rfl) lk_Mod_40 (q := 0) kd_78 rfl sm_78 ?_
    refine mp_iload_n (i := 2) (x := l2) (dz dl_Mod_take_0 7 11 (.iload_n 2) 1 rfl) rfl rfl ?_
    refine mp_aload_n (i := 0) (v := qr 1 (some 0)) (dz dl_Mod_take_0 8 12 (.aload_n 0) 1 rfl) rfl rfl trivial ?_
    refine mp_getA (dz dl_Mod_take_0 9 13 (.getfield 37) 3 rfl) lk_Mod_37 (q := 0) kd_77 rfl sm_77 ?_
    refine mp_bipush (dz dl_Mod_take_0 10 16 (.bipush (40)) 2 rfl) (v := (40 : Int32)) (by decide) ?_
    refine mp_iload_n (i := 1) (x := l1) (dz dl_Mod_take_0 11 18 (.iload_n 1) 1 rfl) rfl rfl ?_
    refine mp_imul (dz dl_Mod_take_0 12 19 (.imul) 1 rfl) ?_
    refine mp_iload_n (i := 2) (x := l2) (dz dl_Mod_take_0 13 20 (.iload_n 2) 1 rfl) rfl rfl ?_
    refine mp_iadd (dz dl_Mod_take_0 14 21 (.iadd) 1 rfl) ?_
    obtain ⟨i2, h⟩ := h
    refine mp_iald (dz dl_Mod_take_0 15 22 (.iaload) 1 rfl) kd_77 rfl sm_77 i2 ?_
    obtain ⟨i3, h⟩ := h
    have h := h _ rfl
    refine mp_iast (dz dl_Mod_take_0 16 23 (.iastore) 1 rfl) kd_78 rfl sm_78 i3 rfl ?_
    refine mp_iinc (i := 2) (v := l2 + 1) (dz dl_Mod_take_0 17 24 (.iinc 2 (1)) 3 rfl) rfl (congrArg (fun z => l2 + z) (by decide)) [qr 1 (some 0), qi l1, qi (l2 + 1)] (by decide) rfl ?_
    refine mp_goto (tgt := 2) (dz dl_Mod_take_0 18 27 (.goto (-25)) 3 rfl) (by decide) ?_
    exact mp_cut h ⟨Or.inr rfl, Or.inr rfl, Or.inr rfl, trivial⟩

theorem mb_Mod_take_45 {u : MS} {l1 : Int32} {l2 : Int32} {Z : MS → Prop} (h : vp_in l1 20 ∧ ((((40 : Int32) * l1) + ((5 : Int32) * (u 76 l1.toNatClampNeg))) ≤ l2 → Z u) ∧ (¬ (((40 : Int32) * l1) + ((5 : Int32) * (u 76 l1.toNatClampNeg))) ≤ l2 → vp_in (l2 + (5 : Int32)) 800 ∧ vp_in l2 800 ∧ ∀ u1, u1 = mu u 77 l2.toNatClampNeg (u 77 (l2 + (5 : Int32)).toNatClampNeg) → mWP M_Mod_take 45 [qr 1 (some 0), qi l1, qi (l2 + 1)] [] u1 (mV Z))) : mWP M_Mod_take 45 [qr 1 (some 0), qi l1, qi l2] [] u (mV Z) := by
  refine mp_iload_n (i := 2) (x := l2) (dz dl_Mod_take_0 31 45 (.iload_n 2) 1 rfl) rfl rfl ?_
  refine mp_bipush (dz dl_Mod_take_0 32 46 (.bipush (40)) 2 rfl) (v := (40 : Int32)) (by decide) ?_
  refine mp_iload_n (i := 1) (x := l1) (dz dl_Mod_take_0 33 48 (.iload_n 1) 1 rfl) rfl rfl ?_
  refine mp_imul (dz dl_Mod_take_0 34 49 (.imul) 1 rfl) ?_
  refine mp_iconst (dz dl_Mod_take_0 35 50 (.iconst (5)) 1 rfl) (v := (5 : Int32)) (by decide) ?_
  refine mp_aload_n (i := 0) (v := qr 1 (some 0)) (dz dl_Mod_take_0 36 51 (.aload_n 0) 1 rfl) rfl rfl trivial ?_
  refine mp_getA (dz dl_Mod_take_0 37 52 (.getfield 34) 3 rfl) lk_Mod_34 (q := 0) kd_76 rfl sm_76 ?_
  refine mp_iload_n (i := 1) (x := l1) (dz dl_Mod_take_0 38 55 (.iload_n 1) 1 rfl) rfl rfl ?_
  obtain ⟨i1, h⟩ := h
  refine mp_iald (dz dl_Mod_take_0 39 56 (.iaload) 1 rfl) kd_76 rfl sm_76 i1 ?_
  refine mp_imul (dz dl_Mod_take_1 0 57 (.imul) 1 rfl) ?_
  refine mp_iadd (dz dl_Mod_take_1 1 58 (.iadd) 1 rfl) ?_
  refine mp_icmp_ge (tgt := 82) (dz dl_Mod_take_1 2 59 (.if_icmp .ge (23)) 3 rfl) (by decide) (fun hc => ?_) (fun hc => ?_)
  · replace h := h.1 hc
    exact mp_rt none (rt_V rfl (dz dl_Mod_take_1 15 82 (.return_) 1 rfl)) ⟨rfl, h⟩
  · replace h := h.2 hc
    refine mp_aload_n (i := 0) (v := qr 1 (some 0)) (dz dl_Mod_take_1 3 62 (.aload_n 0) 1 rfl) rfl rfl trivial ?_
    refine mp_getA (dz dl_Mod_take_1 4 63 (.getfield 37) 3 rfl) lk_Mod_37 (q := 0) kd_77 rfl sm_77 ?_
    refine mp_iload_n (i := 2) (x := l2) (dz dl_Mod_take_1 5 66 (.iload_n 2) 1 rfl) rfl rfl ?_
    refine mp_aload_n (i := 0) (v := qr 1 (some 0)) (dz dl_Mod_take_1 6 67 (.aload_n 0) 1 rfl) rfl rfl trivial ?_
    refine mp_getA (dz dl_Mod_take_1 7 68 (.getfield 37) 3 rfl) lk_Mod_37 (q := 0) kd_77 rfl sm_77 ?_
    refine mp_iload_n (i := 2) (x := l2) (dz dl_Mod_take_1 8 71 (.iload_n 2) 1 rfl) rfl rfl ?_
    refine mp_iconst (dz dl_Mod_take_1 9 72 (.iconst (5)) 1 rfl) (v := (5 : Int32)) (by decide) ?_
    refine mp_iadd (dz dl_Mod_take_1 10 73 (.iadd) 1 rfl) ?_
    obtain ⟨i2, h⟩ := h
    refine mp_iald (dz dl_Mod_take_1 11 74 (.iaload) 1 rfl) kd_77 rfl sm_77 i2 ?_
    obtain ⟨i3, h⟩ := h
    have h := h _ rfl
    refine mp_iast (dz dl_Mod_take_1 12 75 (.iastore) 1 rfl) kd_77 rfl sm_77 i3 rfl ?_
    refine mp_iinc (i := 2) (v := l2 + 1) (dz dl_Mod_take_1 13 76 (.iinc 2 (1)) 3 rfl) rfl (congrArg (fun z => l2 + z) (by decide)) [qr 1 (some 0), qi l1, qi (l2 + 1)] (by decide) rfl ?_
    refine mp_goto (tgt := 45) (dz dl_Mod_take_1 14 79 (.goto (-34)) 3 rfl) (by decide) ?_
    exact mp_cut h ⟨Or.inr rfl, Or.inr rfl, Or.inr rfl, trivial⟩

theorem mb_Mod_carry_0 {u : MS} {l1 : Int32} {l2 : Int32} {Z : Int32 → MS → Prop} (h : mMT M_Mod_isWire [qi l1, qi l2] u (mI fun r1 u1 => (r1 = 0 → Z (-1 : Int32) u1) ∧ (¬ r1 = 0 → vp_in (((4 : Int32) * l1) + l2) 20 ∧ (¬ (u1 76 (((4 : Int32) * l1) + l2).toNatClampNeg) = 0 → mMT M_Mod_take [qr 1 (some 0), qi (((4 : Int32) * l1) + l2)] u1 (mV fun u2 => (¬ (u2 78 (0 : Int32).toNatClampNeg) = 0 → (¬ (u2 78 (0 : Int32).toNatClampNeg) = (1 : Int32) → (¬ (u2 78 (0 : Int32).toNatClampNeg) = (2 : Int32) → mMT M_Mod_hear [qr 1 (some 0), qi (((u2 74 (((4 : Int32) * l1) + l2).toNatClampNeg) - (1 : Int32)) / (4 : Int32)), qi (((u2 74 (((4 : Int32) * l1) + l2).toNatClampNeg) - (1 : Int32)) - ((u2 74 (((4 : Int32) * l1) + l2).toNatClampNeg) - (1 : Int32)) / (4 : Int32) * (4 : Int32)), qi (u2 78 (1 : Int32).toNatClampNeg), qi (u2 78 (2 : Int32).toNatClampNeg), qi (u2 78 (3 : Int32).toNatClampNeg), qi (u2 78 (4 : Int32).toNatClampNeg)] u2 (mV fun u3 => Z (u2 78 (0 : Int32).toNatClampNeg) u3)) ∧ ((u2 78 (0 : Int32).toNatClampNeg) = (2 : Int32) → mMT M_Mod_nack [qr 1 (some 0), qi (((u2 74 (((4 : Int32) * l1) + l2).toNatClampNeg) - (1 : Int32)) / (4 : Int32)), qi (((u2 74 (((4 : Int32) * l1) + l2).toNatClampNeg) - (1 : Int32)) - ((u2 74 (((4 : Int32) * l1) + l2).toNatClampNeg) - (1 : Int32)) / (4 : Int32) * (4 : Int32)), qi (u2 78 (1 : Int32).toNatClampNeg), qi (u2 78 (2 : Int32).toNatClampNeg), qi (u2 78 (3 : Int32).toNatClampNeg)] u2 (mV fun u4 => Z (u2 78 (0 : Int32).toNatClampNeg) u4))) ∧ ((u2 78 (0 : Int32).toNatClampNeg) = (1 : Int32) → mMT M_Mod_data [qr 1 (some 0), qi (((u2 74 (((4 : Int32) * l1) + l2).toNatClampNeg) - (1 : Int32)) / (4 : Int32)), qi (((u2 74 (((4 : Int32) * l1) + l2).toNatClampNeg) - (1 : Int32)) - ((u2 74 (((4 : Int32) * l1) + l2).toNatClampNeg) - (1 : Int32)) / (4 : Int32) * (4 : Int32)), qi (u2 78 (1 : Int32).toNatClampNeg), qi (u2 78 (2 : Int32).toNatClampNeg), qi (u2 78 (3 : Int32).toNatClampNeg)] u2 (mV fun u5 => Z (u2 78 (0 : Int32).toNatClampNeg) u5))) ∧ ((u2 78 (0 : Int32).toNatClampNeg) = 0 → mMT M_Mod_interest [qr 1 (some 0), qi (((u2 74 (((4 : Int32) * l1) + l2).toNatClampNeg) - (1 : Int32)) / (4 : Int32)), qi (((u2 74 (((4 : Int32) * l1) + l2).toNatClampNeg) - (1 : Int32)) - ((u2 74 (((4 : Int32) * l1) + l2).toNatClampNeg) - (1 : Int32)) / (4 : Int32) * (4 : Int32)), qi (u2 78 (1 : Int32).toNatClampNeg), qi (u2 78 (2 : Int32).toNatClampNeg), qi (u2 78 (3 : Int32).toNatClampNeg), qi (u2 78 (4 : Int32).toNatClampNeg)] u2 (mV fun u6 => Z (u2 78 (0 : Int32).toNatClampNeg) u6)))) ∧ ((u1 76 (((4 : Int32) * l1) + l2).toNatClampNeg) = 0 → Z (-1 : Int32) u1)))) : mWP M_Mod_carry 0 [qr 1 (some 0), qi l1, qi l2, none, none, none, none, none, none] [] u (mI Z) := by
  refine mp_iload_n (i := 1) (x := l1) (dz dl_Mod_carry_0 0 0 (.iload_n 1) 1 rfl) rfl rfl ?_
  refine mp_iload_n (i := 2) (x := l2) (dz dl_Mod_carry_0 1 1 (.iload_n 2) 1 rfl) rfl rfl ?_
  refine mp_callS [qi l1, qi l2] [] (dz dl_Mod_carry_0 2 2 (.invokestatic 195) 3 rfl) ok_Mod_isWire lm_Mod_195 ws_Mod_isWire ⟨Nat.le_of_ble_eq_true rfl, Nat.le_of_ble_eq_true rfl⟩ pn_Mod_isWire (Nat.le_of_ble_eq_true rfl) (Nat.le_of_ble_eq_true rfl) (Or.inl rfl) (mmono h ?_)
  rintro _ u1 ⟨r1, rfl, h⟩
  show mWP _ _ _ [qi r1] _ _
  refine mp_if_eq (tgt := 21) (dz dl_Mod_carry_0 3 5 (.ifCond .eq (16)) 3 rfl) (by decide) (fun hc => ?_) (fun hc => ?_)
  · replace h := h.1 hc
    refine mp_iconst (dz dl_Mod_carry_0 13 21 (.iconst (-1)) 1 rfl) (v := (-1 : Int32)) (by decide) ?_
    exact mp_rt (qi _) (rt_I rfl (dz dl_Mod_carry_0 14 22 (.ireturn) 1 rfl)) ⟨_, rfl, h⟩
  · replace h := h.2 hc
    refine mp_aload_n (i := 0) (v := qr 1 (some 0)) (dz dl_Mod_carry_0 4 8 (.aload_n 0) 1 rfl) rfl rfl trivial ?_
    refine mp_getA (dz dl_Mod_carry_0 5 9 (.getfield 34) 3 rfl) lk_Mod_34 (q := 0) kd_76 rfl sm_76 ?_
    refine mp_iconst (dz dl_Mod_carry_0 6 12 (.iconst (4)) 1 rfl) (v := (4 : Int32)) (by decide) ?_
    refine mp_iload_n (i := 1) (x := l1) (dz dl_Mod_carry_0 7 13 (.iload_n 1) 1 rfl) rfl rfl ?_
    refine mp_imul (dz dl_Mod_carry_0 8 14 (.imul) 1 rfl) ?_
    refine mp_iload_n (i := 2) (x := l2) (dz dl_Mod_carry_0 9 15 (.iload_n 2) 1 rfl) rfl rfl ?_
    refine mp_iadd (dz dl_Mod_carry_0 10 16 (.iadd) 1 rfl) ?_
    obtain ⟨i1, h⟩ := h
    refine mp_iald (dz dl_Mod_carry_0 11 17 (.iaload) 1 rfl) kd_76 rfl sm_76 i1 ?_
    refine mp_if_ne (tgt := 23) (dz dl_Mod_carry_0 12 18 (.ifCond .ne (5)) 3 rfl) (by decide) (fun hc => ?_) (fun hc => ?_)
    · replace h := h.1 hc
      refine mp_aload_n (i := 0) (v := qr 1 (some 0)) (dz dl_Mod_carry_0 15 23 (.aload_n 0) 1 rfl) rfl rfl trivial ?_
      refine mp_iconst (dz dl_Mod_carry_0 16 24 (.iconst (4)) 1 rfl) (v := (4 : Int32)) (by decide) ?_
      refine mp_iload_n (i := 1) (x := l1) (dz dl_Mod_carry_0 17 25 (.iload_n 1) 1 rfl) rfl rfl ?_
      refine mp_imul (dz dl_Mod_carry_0 18 26 (.imul) 1 rfl) ?_
      refine mp_iload_n (i := 2) (x := l2) (dz dl_Mod_carry_0 19 27 (.iload_n 2) 1 rfl) rfl rfl ?_
      refine mp_iadd (dz dl_Mod_carry_0 20 28 (.iadd) 1 rfl) ?_
      refine mp_callV [qi (((4 : Int32) * l1) + l2)] [] (dz dl_Mod_carry_0 21 29 (.invokevirtual 198) 3 rfl) ok_Mod_take lm_Mod_198 ws_Mod_take wv_Mod_take ⟨Nat.le_of_ble_eq_true rfl, Nat.le_of_ble_eq_true rfl⟩ pn_Mod_take (Nat.le_of_ble_eq_true rfl) (Nat.le_of_ble_eq_true rfl) (Or.inl rfl) (mmono h ?_)
      rintro _ u2 ⟨rfl, h⟩
      show mWP _ _ _ [] _ _
      refine mp_aload_n (i := 0) (v := qr 1 (some 0)) (dz dl_Mod_carry_0 22 32 (.aload_n 0) 1 rfl) rfl rfl trivial ?_
      refine mp_getA (dz dl_Mod_carry_0 23 33 (.getfield 27) 3 rfl) lk_Mod_27 (q := 0) kd_74 rfl sm_74 ?_
      refine mp_iconst (dz dl_Mod_carry_0 24 36 (.iconst (4)) 1 rfl) (v := (4 : Int32)) (by decide) ?_
      refine mp_iload_n (i := 1) (x := l1) (dz dl_Mod_carry_0 25 37 (.iload_n 1) 1 rfl) rfl rfl ?_
      refine mp_imul (dz dl_Mod_carry_0 26 38 (.imul) 1 rfl) ?_
      refine mp_iload_n (i := 2) (x := l2) (dz dl_Mod_carry_0 27 39 (.iload_n 2) 1 rfl) rfl rfl ?_
      refine mp_iadd (dz dl_Mod_carry_0 28 40 (.iadd) 1 rfl) ?_
      refine mp_iald (dz dl_Mod_carry_0 29 41 (.iaload) 1 rfl) kd_74 rfl sm_74 i1 ?_
      refine mp_iconst (dz dl_Mod_carry_0 30 42 (.iconst (1)) 1 rfl) (v := (1 : Int32)) (by decide) ?_
      refine mp_isub (dz dl_Mod_carry_0 31 43 (.isub) 1 rfl) ?_
      refine mp_istore_n (i := 3) (dz dl_Mod_carry_0 32 44 (.istore_n 3) 1 rfl) rfl [qr 1 (some 0), qi l1, qi l2, qi ((u2 74 (((4 : Int32) * l1) + l2).toNatClampNeg) - (1 : Int32)), none, none, none, none, none] (by decide) rfl ?_
      refine mp_aload_n (i := 0) (v := qr 1 (some 0)) (dz dl_Mod_carry_0 33 45 (.aload_n 0) 1 rfl) rfl rfl trivial ?_
      refine mp_getA (dz dl_Mod_carry_0 34 46 (.getfield 40) 3 rfl) lk_Mod_40 (q := 0) kd_78 rfl sm_78 ?_
      refine mp_iconst (dz dl_Mod_carry_0 35 49 (.iconst (0)) 1 rfl) (v := (0 : Int32)) (by decide) ?_
      refine mp_iald (dz dl_Mod_carry_0 36 50 (.iaload) 1 rfl) kd_78 rfl sm_78 (show ¬ ((0 : Int32) < 0 ∨ 5 ≤ (0 : Int32).toNatClampNeg) by decide) ?_
      refine mp_istore (i := 4) (dz dl_Mod_carry_0 37 51 (.istore 4) 2 rfl) [qr 1 (some 0), qi l1, qi l2, qi ((u2 74 (((4 : Int32) * l1) + l2).toNatClampNeg) - (1 : Int32)), qi (u2 78 (0 : Int32).toNatClampNeg), none, none, none, none] (by decide) rfl ?_
      refine mp_aload_n (i := 0) (v := qr 1 (some 0)) (dz dl_Mod_carry_0 38 53 (.aload_n 0) 1 rfl) rfl rfl trivial ?_
      refine mp_getA (dz dl_Mod_carry_0 39 54 (.getfield 40) 3 rfl) lk_Mod_40 (q := 0) kd_78 rfl sm_78 ?_
      refine mp_iconst (dz dl_Mod_carry_1 0 57 (.iconst (1)) 1 rfl) (v := (1 : Int32)) (by decide) ?_
      refine mp_iald (dz dl_Mod_carry_1 1 58 (.iaload) 1 rfl) kd_78 rfl sm_78 (show ¬ ((1 : Int32) < 0 ∨ 5 ≤ (1 : Int32).toNatClampNeg) by decide) ?_
      refine mp_istore (i := 5) (dz dl_Mod_carry_1 2 59 (.istore 5) 2 rfl) [qr 1 (some 0), qi l1, qi l2, qi ((u2 74 (((4 : Int32) * l1) + l2).toNatClampNeg) - (1 : Int32)), qi (u2 78 (0 : Int32).toNatClampNeg), qi (u2 78 (1 : Int32).toNatClampNeg), none, none, none] (by decide) rfl ?_
      refine mp_aload_n (i := 0) (v := qr 1 (some 0)) (dz dl_Mod_carry_1 3 61 (.aload_n 0) 1 rfl) rfl rfl trivial ?_
      refine mp_getA (dz dl_Mod_carry_1 4 62 (.getfield 40) 3 rfl) lk_Mod_40 (q := 0) kd_78 rfl sm_78 ?_
      refine mp_iconst (dz dl_Mod_carry_1 5 65 (.iconst (2)) 1 rfl) (v := (2 : Int32)) (by decide) ?_
      refine mp_iald (dz dl_Mod_carry_1 6 66 (.iaload) 1 rfl) kd_78 rfl sm_78 (show ¬ ((2 : Int32) < 0 ∨ 5 ≤ (2 : Int32).toNatClampNeg) by decide) ?_
      refine mp_istore (i := 6) (dz dl_Mod_carry_1 7 67 (.istore 6) 2 rfl) [qr 1 (some 0), qi l1, qi l2, qi ((u2 74 (((4 : Int32) * l1) + l2).toNatClampNeg) - (1 : Int32)), qi (u2 78 (0 : Int32).toNatClampNeg), qi (u2 78 (1 : Int32).toNatClampNeg), qi (u2 78 (2 : Int32).toNatClampNeg), none, none] (by decide) rfl ?_
      refine mp_aload_n (i := 0) (v := qr 1 (some 0)) (dz dl_Mod_carry_1 8 69 (.aload_n 0) 1 rfl) rfl rfl trivial ?_
      refine mp_getA (dz dl_Mod_carry_1 9 70 (.getfield 40) 3 rfl) lk_Mod_40 (q := 0) kd_78 rfl sm_78 ?_
      refine mp_iconst (dz dl_Mod_carry_1 10 73 (.iconst (3)) 1 rfl) (v := (3 : Int32)) (by decide) ?_
      refine mp_iald (dz dl_Mod_carry_1 11 74 (.iaload) 1 rfl) kd_78 rfl sm_78 (show ¬ ((3 : Int32) < 0 ∨ 5 ≤ (3 : Int32).toNatClampNeg) by decide) ?_
      refine mp_istore (i := 7) (dz dl_Mod_carry_1 12 75 (.istore 7) 2 rfl) [qr 1 (some 0), qi l1, qi l2, qi ((u2 74 (((4 : Int32) * l1) + l2).toNatClampNeg) - (1 : Int32)), qi (u2 78 (0 : Int32).toNatClampNeg), qi (u2 78 (1 : Int32).toNatClampNeg), qi (u2 78 (2 : Int32).toNatClampNeg), qi (u2 78 (3 : Int32).toNatClampNeg), none] (by decide) rfl ?_
      refine mp_aload_n (i := 0) (v := qr 1 (some 0)) (dz dl_Mod_carry_1 13 77 (.aload_n 0) 1 rfl) rfl rfl trivial ?_
      refine mp_getA (dz dl_Mod_carry_1 14 78 (.getfield 40) 3 rfl) lk_Mod_40 (q := 0) kd_78 rfl sm_78 ?_
      refine mp_iconst (dz dl_Mod_carry_1 15 81 (.iconst (4)) 1 rfl) (v := (4 : Int32)) (by decide) ?_
      refine mp_iald (dz dl_Mod_carry_1 16 82 (.iaload) 1 rfl) kd_78 rfl sm_78 (show ¬ ((4 : Int32) < 0 ∨ 5 ≤ (4 : Int32).toNatClampNeg) by decide) ?_
      refine mp_istore (i := 8) (dz dl_Mod_carry_1 17 83 (.istore 8) 2 rfl) [qr 1 (some 0), qi l1, qi l2, qi ((u2 74 (((4 : Int32) * l1) + l2).toNatClampNeg) - (1 : Int32)), qi (u2 78 (0 : Int32).toNatClampNeg), qi (u2 78 (1 : Int32).toNatClampNeg), qi (u2 78 (2 : Int32).toNatClampNeg), qi (u2 78 (3 : Int32).toNatClampNeg), qi (u2 78 (4 : Int32).toNatClampNeg)] (by decide) rfl ?_
      refine mp_iload (i := 4) (x := u2 78 (0 : Int32).toNatClampNeg) (dz dl_Mod_carry_1 18 85 (.iload 4) 2 rfl) rfl ?_
      refine mp_if_ne (tgt := 111) (dz dl_Mod_carry_1 19 87 (.ifCond .ne (24)) 3 rfl) (by decide) (fun hc => ?_) (fun hc => ?_)
      · replace h := h.1 hc
        refine mp_iload (i := 4) (x := u2 78 (0 : Int32).toNatClampNeg) (dz dl_Mod_carry_1 33 111 (.iload 4) 2 rfl) rfl ?_
        refine mp_iconst (dz dl_Mod_carry_1 34 113 (.iconst (1)) 1 rfl) (v := (1 : Int32)) (by decide) ?_
        refine mp_icmp_ne (tgt := 136) (dz dl_Mod_carry_1 35 114 (.if_icmp .ne (22)) 3 rfl) (by decide) (fun hc => ?_) (fun hc => ?_)
        · replace h := h.1 hc
          refine mp_iload (i := 4) (x := u2 78 (0 : Int32).toNatClampNeg) (dz dl_Mod_carry_2 8 136 (.iload 4) 2 rfl) rfl ?_
          refine mp_iconst (dz dl_Mod_carry_2 9 138 (.iconst (2)) 1 rfl) (v := (2 : Int32)) (by decide) ?_
          refine mp_icmp_ne (tgt := 161) (dz dl_Mod_carry_2 10 139 (.if_icmp .ne (22)) 3 rfl) (by decide) (fun hc => ?_) (fun hc => ?_)
          · replace h := h.1 hc
            refine mp_aload_n (i := 0) (v := qr 1 (some 0)) (dz dl_Mod_carry_2 23 161 (.aload_n 0) 1 rfl) rfl rfl trivial ?_
            refine mp_iload_n (i := 3) (x := (u2 74 (((4 : Int32) * l1) + l2).toNatClampNeg) - (1 : Int32)) (dz dl_Mod_carry_2 24 162 (.iload_n 3) 1 rfl) rfl rfl ?_
            refine mp_iconst (dz dl_Mod_carry_2 25 163 (.iconst (4)) 1 rfl) (v := (4 : Int32)) (by decide) ?_
            refine mp_idiv (dz dl_Mod_carry_2 26 164 (.idiv) 1 rfl) (by decide) ?_
            refine mp_iload_n (i := 3) (x := (u2 74 (((4 : Int32) * l1) + l2).toNatClampNeg) - (1 : Int32)) (dz dl_Mod_carry_2 27 165 (.iload_n 3) 1 rfl) rfl rfl ?_
            refine mp_iconst (dz dl_Mod_carry_2 28 166 (.iconst (4)) 1 rfl) (v := (4 : Int32)) (by decide) ?_
            refine mp_irem (dz dl_Mod_carry_2 29 167 (.irem) 1 rfl) (by decide) ?_
            refine mp_iload (i := 5) (x := u2 78 (1 : Int32).toNatClampNeg) (dz dl_Mod_carry_2 30 168 (.iload 5) 2 rfl) rfl ?_
            refine mp_iload (i := 6) (x := u2 78 (2 : Int32).toNatClampNeg) (dz dl_Mod_carry_2 31 170 (.iload 6) 2 rfl) rfl ?_
            refine mp_iload (i := 7) (x := u2 78 (3 : Int32).toNatClampNeg) (dz dl_Mod_carry_2 32 172 (.iload 7) 2 rfl) rfl ?_
            refine mp_iload (i := 8) (x := u2 78 (4 : Int32).toNatClampNeg) (dz dl_Mod_carry_2 33 174 (.iload 8) 2 rfl) rfl ?_
            refine mp_callV [qi (((u2 74 (((4 : Int32) * l1) + l2).toNatClampNeg) - (1 : Int32)) / (4 : Int32)), qi (((u2 74 (((4 : Int32) * l1) + l2).toNatClampNeg) - (1 : Int32)) - ((u2 74 (((4 : Int32) * l1) + l2).toNatClampNeg) - (1 : Int32)) / (4 : Int32) * (4 : Int32)), qi (u2 78 (1 : Int32).toNatClampNeg), qi (u2 78 (2 : Int32).toNatClampNeg), qi (u2 78 (3 : Int32).toNatClampNeg), qi (u2 78 (4 : Int32).toNatClampNeg)] [] (dz dl_Mod_carry_2 34 176 (.invokevirtual 213) 3 rfl) ok_Mod_hear lm_Mod_213 ws_Mod_hear wv_Mod_hear ⟨Nat.le_of_ble_eq_true rfl, Nat.le_of_ble_eq_true rfl⟩ pn_Mod_hear (Nat.le_of_ble_eq_true rfl) (Nat.le_of_ble_eq_true rfl) (Or.inl rfl) (mmono h ?_)
            rintro _ u3 ⟨rfl, h⟩
            show mWP _ _ _ [] _ _
            refine mp_iload (i := 4) (x := u2 78 (0 : Int32).toNatClampNeg) (dz dl_Mod_carry_2 35 179 (.iload 4) 2 rfl) rfl ?_
            exact mp_rt (qi _) (rt_I rfl (dz dl_Mod_carry_2 36 181 (.ireturn) 1 rfl)) ⟨_, rfl, h⟩
          · replace h := h.2 hc
            refine mp_aload_n (i := 0) (v := qr 1 (some 0)) (dz dl_Mod_carry_2 11 142 (.aload_n 0) 1 rfl) rfl rfl trivial ?_
            refine mp_iload_n (i := 3) (x := (u2 74 (((4 : Int32) * l1) + l2).toNatClampNeg) - (1 : Int32)) (dz dl_Mod_carry_2 12 143 (.iload_n 3) 1 rfl) rfl rfl ?_
            refine mp_iconst (dz dl_Mod_carry_2 13 144 (.iconst (4)) 1 rfl) (v := (4 : Int32)) (by decide) ?_
            refine mp_idiv (dz dl_Mod_carry_2 14 145 (.idiv) 1 rfl) (by decide) ?_
            refine mp_iload_n (i := 3) (x := (u2 74 (((4 : Int32) * l1) + l2).toNatClampNeg) - (1 : Int32)) (dz dl_Mod_carry_2 15 146 (.iload_n 3) 1 rfl) rfl rfl ?_
            refine mp_iconst (dz dl_Mod_carry_2 16 147 (.iconst (4)) 1 rfl) (v := (4 : Int32)) (by decide) ?_
            refine mp_irem (dz dl_Mod_carry_2 17 148 (.irem) 1 rfl) (by decide) ?_
            refine mp_iload (i := 5) (x := u2 78 (1 : Int32).toNatClampNeg) (dz dl_Mod_carry_2 18 149 (.iload 5) 2 rfl) rfl ?_
            refine mp_iload (i := 6) (x := u2 78 (2 : Int32).toNatClampNeg) (dz dl_Mod_carry_2 19 151 (.iload 6) 2 rfl) rfl ?_
            refine mp_iload (i := 7) (x := u2 78 (3 : Int32).toNatClampNeg) (dz dl_Mod_carry_2 20 153 (.iload 7) 2 rfl) rfl ?_
            refine mp_callV [qi (((u2 74 (((4 : Int32) * l1) + l2).toNatClampNeg) - (1 : Int32)) / (4 : Int32)), qi (((u2 74 (((4 : Int32) * l1) + l2).toNatClampNeg) - (1 : Int32)) - ((u2 74 (((4 : Int32) * l1) + l2).toNatClampNeg) - (1 : Int32)) / (4 : Int32) * (4 : Int32)), qi (u2 78 (1 : Int32).toNatClampNeg), qi (u2 78 (2 : Int32).toNatClampNeg), qi (u2 78 (3 : Int32).toNatClampNeg)] [] (dz dl_Mod_carry_2 21 155 (.invokevirtual 210) 3 rfl) ok_Mod_nack lm_Mod_210 ws_Mod_nack wv_Mod_nack ⟨Nat.le_of_ble_eq_true rfl, Nat.le_of_ble_eq_true rfl⟩ pn_Mod_nack (Nat.le_of_ble_eq_true rfl) (Nat.le_of_ble_eq_true rfl) (Or.inl rfl) (mmono h ?_)
            rintro _ u4 ⟨rfl, h⟩
            show mWP _ _ _ [] _ _
            refine mp_goto (tgt := 179) (dz dl_Mod_carry_2 22 158 (.goto (21)) 3 rfl) (by decide) ?_
            refine mp_iload (i := 4) (x := u2 78 (0 : Int32).toNatClampNeg) (dz dl_Mod_carry_2 35 179 (.iload 4) 2 rfl) rfl ?_
            exact mp_rt (qi _) (rt_I rfl (dz dl_Mod_carry_2 36 181 (.ireturn) 1 rfl)) ⟨_, rfl, h⟩
        · replace h := h.2 hc
          refine mp_aload_n (i := 0) (v := qr 1 (some 0)) (dz dl_Mod_carry_1 36 117 (.aload_n 0) 1 rfl) rfl rfl trivial ?_
          refine mp_iload_n (i := 3) (x := (u2 74 (((4 : Int32) * l1) + l2).toNatClampNeg) - (1 : Int32)) (dz dl_Mod_carry_1 37 118 (.iload_n 3) 1 rfl) rfl rfl ?_
          refine mp_iconst (dz dl_Mod_carry_1 38 119 (.iconst (4)) 1 rfl) (v := (4 : Int32)) (by decide) ?_
          refine mp_idiv (dz dl_Mod_carry_1 39 120 (.idiv) 1 rfl) (by decide) ?_
          refine mp_iload_n (i := 3) (x := (u2 74 (((4 : Int32) * l1) + l2).toNatClampNeg) - (1 : Int32)) (dz dl_Mod_carry_2 0 121 (.iload_n 3) 1 rfl) rfl rfl ?_
          refine mp_iconst (dz dl_Mod_carry_2 1 122 (.iconst (4)) 1 rfl) (v := (4 : Int32)) (by decide) ?_
          refine mp_irem (dz dl_Mod_carry_2 2 123 (.irem) 1 rfl) (by decide) ?_
          refine mp_iload (i := 5) (x := u2 78 (1 : Int32).toNatClampNeg) (dz dl_Mod_carry_2 3 124 (.iload 5) 2 rfl) rfl ?_
          refine mp_iload (i := 6) (x := u2 78 (2 : Int32).toNatClampNeg) (dz dl_Mod_carry_2 4 126 (.iload 6) 2 rfl) rfl ?_
          refine mp_iload (i := 7) (x := u2 78 (3 : Int32).toNatClampNeg) (dz dl_Mod_carry_2 5 128 (.iload 7) 2 rfl) rfl ?_
          refine mp_callV [qi (((u2 74 (((4 : Int32) * l1) + l2).toNatClampNeg) - (1 : Int32)) / (4 : Int32)), qi (((u2 74 (((4 : Int32) * l1) + l2).toNatClampNeg) - (1 : Int32)) - ((u2 74 (((4 : Int32) * l1) + l2).toNatClampNeg) - (1 : Int32)) / (4 : Int32) * (4 : Int32)), qi (u2 78 (1 : Int32).toNatClampNeg), qi (u2 78 (2 : Int32).toNatClampNeg), qi (u2 78 (3 : Int32).toNatClampNeg)] [] (dz dl_Mod_carry_2 6 130 (.invokevirtual 206) 3 rfl) ok_Mod_data lm_Mod_206 ws_Mod_data wv_Mod_data ⟨Nat.le_of_ble_eq_true rfl, Nat.le_of_ble_eq_true rfl⟩ pn_Mod_data (Nat.le_of_ble_eq_true rfl) (Nat.le_of_ble_eq_true rfl) (Or.inl rfl) (mmono h ?_)
          rintro _ u5 ⟨rfl, h⟩
          show mWP _ _ _ [] _ _
          refine mp_goto (tgt := 179) (dz dl_Mod_carry_2 7 133 (.goto (46)) 3 rfl) (by decide) ?_
          refine mp_iload (i := 4) (x := u2 78 (0 : Int32).toNatClampNeg) (dz dl_Mod_carry_2 35 179 (.iload 4) 2 rfl) rfl ?_
          exact mp_rt (qi _) (rt_I rfl (dz dl_Mod_carry_2 36 181 (.ireturn) 1 rfl)) ⟨_, rfl, h⟩
      · replace h := h.2 hc
        refine mp_aload_n (i := 0) (v := qr 1 (some 0)) (dz dl_Mod_carry_1 20 90 (.aload_n 0) 1 rfl) rfl rfl trivial ?_
        refine mp_iload_n (i := 3) (x := (u2 74 (((4 : Int32) * l1) + l2).toNatClampNeg) - (1 : Int32)) (dz dl_Mod_carry_1 21 91 (.iload_n 3) 1 rfl) rfl rfl ?_
        refine mp_iconst (dz dl_Mod_carry_1 22 92 (.iconst (4)) 1 rfl) (v := (4 : Int32)) (by decide) ?_
        refine mp_idiv (dz dl_Mod_carry_1 23 93 (.idiv) 1 rfl) (by decide) ?_
        refine mp_iload_n (i := 3) (x := (u2 74 (((4 : Int32) * l1) + l2).toNatClampNeg) - (1 : Int32)) (dz dl_Mod_carry_1 24 94 (.iload_n 3) 1 rfl) rfl rfl ?_
        refine mp_iconst (dz dl_Mod_carry_1 25 95 (.iconst (4)) 1 rfl) (v := (4 : Int32)) (by decide) ?_
        refine mp_irem (dz dl_Mod_carry_1 26 96 (.irem) 1 rfl) (by decide) ?_
        refine mp_iload (i := 5) (x := u2 78 (1 : Int32).toNatClampNeg) (dz dl_Mod_carry_1 27 97 (.iload 5) 2 rfl) rfl ?_
        refine mp_iload (i := 6) (x := u2 78 (2 : Int32).toNatClampNeg) (dz dl_Mod_carry_1 28 99 (.iload 6) 2 rfl) rfl ?_
        refine mp_iload (i := 7) (x := u2 78 (3 : Int32).toNatClampNeg) (dz dl_Mod_carry_1 29 101 (.iload 7) 2 rfl) rfl ?_
        refine mp_iload (i := 8) (x := u2 78 (4 : Int32).toNatClampNeg) (dz dl_Mod_carry_1 30 103 (.iload 8) 2 rfl) rfl ?_
        refine mp_callV [qi (((u2 74 (((4 : Int32) * l1) + l2).toNatClampNeg) - (1 : Int32)) / (4 : Int32)), qi (((u2 74 (((4 : Int32) * l1) + l2).toNatClampNeg) - (1 : Int32)) - ((u2 74 (((4 : Int32) * l1) + l2).toNatClampNeg) - (1 : Int32)) / (4 : Int32) * (4 : Int32)), qi (u2 78 (1 : Int32).toNatClampNeg), qi (u2 78 (2 : Int32).toNatClampNeg), qi (u2 78 (3 : Int32).toNatClampNeg), qi (u2 78 (4 : Int32).toNatClampNeg)] [] (dz dl_Mod_carry_1 31 105 (.invokevirtual 202) 3 rfl) ok_Mod_interest lm_Mod_202 ws_Mod_interest wv_Mod_interest ⟨Nat.le_of_ble_eq_true rfl, Nat.le_of_ble_eq_true rfl⟩ pn_Mod_interest (Nat.le_of_ble_eq_true rfl) (Nat.le_of_ble_eq_true rfl) (Or.inl rfl) (mmono h ?_)
        rintro _ u6 ⟨rfl, h⟩
        show mWP _ _ _ [] _ _
        refine mp_goto (tgt := 179) (dz dl_Mod_carry_1 32 108 (.goto (71)) 3 rfl) (by decide) ?_
        refine mp_iload (i := 4) (x := u2 78 (0 : Int32).toNatClampNeg) (dz dl_Mod_carry_2 35 179 (.iload 4) 2 rfl) rfl ?_
        exact mp_rt (qi _) (rt_I rfl (dz dl_Mod_carry_2 36 181 (.ireturn) 1 rfl)) ⟨_, rfl, h⟩
    · replace h := h.2 hc
      refine mp_iconst (dz dl_Mod_carry_0 13 21 (.iconst (-1)) 1 rfl) (v := (-1 : Int32)) (by decide) ?_
      exact mp_rt (qi _) (rt_I rfl (dz dl_Mod_carry_0 14 22 (.ireturn) 1 rfl)) ⟨_, rfl, h⟩
theorem mt_Mod_carry {u : MS} {l1 : Int32} {l2 : Int32} {Z : Int32 → MS → Prop} (h : mMT M_Mod_isWire [qi l1, qi l2] u (mI fun r1 u1 => (r1 = 0 → Z (-1 : Int32) u1) ∧ (¬ r1 = 0 → vp_in (((4 : Int32) * l1) + l2) 20 ∧ (¬ (u1 76 (((4 : Int32) * l1) + l2).toNatClampNeg) = 0 → mMT M_Mod_take [qr 1 (some 0), qi (((4 : Int32) * l1) + l2)] u1 (mV fun u2 => (¬ (u2 78 (0 : Int32).toNatClampNeg) = 0 → (¬ (u2 78 (0 : Int32).toNatClampNeg) = (1 : Int32) → (¬ (u2 78 (0 : Int32).toNatClampNeg) = (2 : Int32) → mMT M_Mod_hear [qr 1 (some 0), qi (((u2 74 (((4 : Int32) * l1) + l2).toNatClampNeg) - (1 : Int32)) / (4 : Int32)), qi (((u2 74 (((4 : Int32) * l1) + l2).toNatClampNeg) - (1 : Int32)) - ((u2 74 (((4 : Int32) * l1) + l2).toNatClampNeg) - (1 : Int32)) / (4 : Int32) * (4 : Int32)), qi (u2 78 (1 : Int32).toNatClampNeg), qi (u2 78 (2 : Int32).toNatClampNeg), qi (u2 78 (3 : Int32).toNatClampNeg), qi (u2 78 (4 : Int32).toNatClampNeg)] u2 (mV fun u3 => Z (u2 78 (0 : Int32).toNatClampNeg) u3)) ∧ ((u2 78 (0 : Int32).toNatClampNeg) = (2 : Int32) → mMT M_Mod_nack [qr 1 (some 0), qi (((u2 74 (((4 : Int32) * l1) + l2).toNatClampNeg) - (1 : Int32)) / (4 : Int32)), qi (((u2 74 (((4 : Int32) * l1) + l2).toNatClampNeg) - (1 : Int32)) - ((u2 74 (((4 : Int32) * l1) + l2).toNatClampNeg) - (1 : Int32)) / (4 : Int32) * (4 : Int32)), qi (u2 78 (1 : Int32).toNatClampNeg), qi (u2 78 (2 : Int32).toNatClampNeg), qi (u2 78 (3 : Int32).toNatClampNeg)] u2 (mV fun u4 => Z (u2 78 (0 : Int32).toNatClampNeg) u4))) ∧ ((u2 78 (0 : Int32).toNatClampNeg) = (1 : Int32) → mMT M_Mod_data [qr 1 (some 0), qi (((u2 74 (((4 : Int32) * l1) + l2).toNatClampNeg) - (1 : Int32)) / (4 : Int32)), qi (((u2 74 (((4 : Int32) * l1) + l2).toNatClampNeg) - (1 : Int32)) - ((u2 74 (((4 : Int32) * l1) + l2).toNatClampNeg) - (1 : Int32)) / (4 : Int32) * (4 : Int32)), qi (u2 78 (1 : Int32).toNatClampNeg), qi (u2 78 (2 : Int32).toNatClampNeg), qi (u2 78 (3 : Int32).toNatClampNeg)] u2 (mV fun u5 => Z (u2 78 (0 : Int32).toNatClampNeg) u5))) ∧ ((u2 78 (0 : Int32).toNatClampNeg) = 0 → mMT M_Mod_interest [qr 1 (some 0), qi (((u2 74 (((4 : Int32) * l1) + l2).toNatClampNeg) - (1 : Int32)) / (4 : Int32)), qi (((u2 74 (((4 : Int32) * l1) + l2).toNatClampNeg) - (1 : Int32)) - ((u2 74 (((4 : Int32) * l1) + l2).toNatClampNeg) - (1 : Int32)) / (4 : Int32) * (4 : Int32)), qi (u2 78 (1 : Int32).toNatClampNeg), qi (u2 78 (2 : Int32).toNatClampNeg), qi (u2 78 (3 : Int32).toNatClampNeg), qi (u2 78 (4 : Int32).toNatClampNeg)] u2 (mV fun u6 => Z (u2 78 (0 : Int32).toNatClampNeg) u6)))) ∧ ((u1 76 (((4 : Int32) * l1) + l2).toNatClampNeg) = 0 → Z (-1 : Int32) u1)))) : mMT M_Mod_carry [qr 1 (some 0), qi l1, qi l2] u (mI Z) := mb_Mod_carry_0 h

theorem mb_Mod_alter_0 {u : MS} {l1 : Int32} {l2 : Int32} {l3 : Int32} {Z : Int32 → MS → Prop} (h : mMT M_Mod_isWire [qi l1, qi l2] u (mI fun r1 u1 => (r1 = 0 → Z (0 : Int32) u1) ∧ (¬ r1 = 0 → vp_in (((4 : Int32) * l1) + l2) 20 ∧ ((u1 76 (((4 : Int32) * l1) + l2).toNatClampNeg) = 0 → Z (0 : Int32) u1) ∧ (¬ (u1 76 (((4 : Int32) * l1) + l2).toNatClampNeg) = 0 → (l3 = 0 → mWP M_Mod_alter 42 [qr 1 (some 0), qi l1, qi l2, qi l3, none, none] [] u1 (mI Z)) ∧ (¬ l3 = 0 → (¬ (u1 76 (((4 : Int32) * l1) + l2).toNatClampNeg) = (8 : Int32) → mWP M_Mod_alter 42 [qr 1 (some 0), qi l1, qi l2, qi l3, none, none] [] u1 (mI Z)) ∧ ((u1 76 (((4 : Int32) * l1) + l2).toNatClampNeg) = (8 : Int32) → Z (0 : Int32) u1)))))) : mWP M_Mod_alter 0 [qr 1 (some 0), qi l1, qi l2, qi l3, none, none] [] u (mI Z) := by
  refine mp_iload_n (i := 1) (x := l1) (dz dl_Mod_alter_0 0 0 (.iload_n 1) 1 rfl) rfl rfl ?_
  refine mp_iload_n (i := 2) (x := l2) (dz dl_Mod_alter_0 1 1 (.iload_n 2) 1 rfl) rfl rfl ?_
  refine mp_callS [qi l1, qi l2] [] (dz dl_Mod_alter_0 2 2 (.invokestatic 195) 3 rfl) ok_Mod_isWire lm_Mod_195 ws_Mod_isWire ⟨Nat.le_of_ble_eq_true rfl, Nat.le_of_ble_eq_true rfl⟩ pn_Mod_isWire (Nat.le_of_ble_eq_true rfl) (Nat.le_of_ble_eq_true rfl) (Or.inl rfl) (mmono h ?_)
  rintro _ u1 ⟨r1, rfl, h⟩
  show mWP _ _ _ [qi r1] _ _
  refine mp_if_eq (tgt := 40) (dz dl_Mod_alter_0 3 5 (.ifCond .eq (35)) 3 rfl) (by decide) (fun hc => ?_) (fun hc => ?_)
  · replace h := h.1 hc
    refine mp_iconst (dz dl_Mod_alter_0 25 40 (.iconst (0)) 1 rfl) (v := (0 : Int32)) (by decide) ?_
    exact mp_rt (qi _) (rt_Z rfl (Or.inl rfl) (dz dl_Mod_alter_0 26 41 (.ireturn) 1 rfl)) ⟨_, rfl, h⟩
  · replace h := h.2 hc
    refine mp_aload_n (i := 0) (v := qr 1 (some 0)) (dz dl_Mod_alter_0 4 8 (.aload_n 0) 1 rfl) rfl rfl trivial ?_
    refine mp_getA (dz dl_Mod_alter_0 5 9 (.getfield 34) 3 rfl) lk_Mod_34 (q := 0) kd_76 rfl sm_76 ?_
    refine mp_iconst (dz dl_Mod_alter_0 6 12 (.iconst (4)) 1 rfl) (v := (4 : Int32)) (by decide) ?_
    refine mp_iload_n (i := 1) (x := l1) (dz dl_Mod_alter_0 7 13 (.iload_n 1) 1 rfl) rfl rfl ?_
    refine mp_imul (dz dl_Mod_alter_0 8 14 (.imul) 1 rfl) ?_
    refine mp_iload_n (i := 2) (x := l2) (dz dl_Mod_alter_0 9 15 (.iload_n 2) 1 rfl) rfl rfl ?_
    refine mp_iadd (dz dl_Mod_alter_0 10 16 (.iadd) 1 rfl) ?_
    obtain ⟨i1, h⟩ := h
    refine mp_iald (dz dl_Mod_alter_0 11 17 (.iaload) 1 rfl) kd_76 rfl sm_76 i1 ?_
    refine mp_if_eq (tgt := 40) (dz dl_Mod_alter_0 12 18 (.ifCond .eq (22)) 3 rfl) (by decide) (fun hc => ?_) (fun hc => ?_)
    · replace h := h.1 hc
      refine mp_iconst (dz dl_Mod_alter_0 25 40 (.iconst (0)) 1 rfl) (v := (0 : Int32)) (by decide) ?_
      exact mp_rt (qi _) (rt_Z rfl (Or.inl rfl) (dz dl_Mod_alter_0 26 41 (.ireturn) 1 rfl)) ⟨_, rfl, h⟩
    · replace h := h.2 hc
      refine mp_iload_n (i := 3) (x := l3) (dz dl_Mod_alter_0 13 21 (.iload_n 3) 1 rfl) rfl rfl ?_
      refine mp_if_eq (tgt := 42) (dz dl_Mod_alter_0 14 22 (.ifCond .eq (20)) 3 rfl) (by decide) (fun hc => ?_) (fun hc => ?_)
      · replace h := h.1 hc
        exact mp_cut h ⟨Or.inr rfl, Or.inr rfl, Or.inr rfl, Or.inr rfl, Or.inl rfl, Or.inl rfl, trivial⟩
      · replace h := h.2 hc
        refine mp_aload_n (i := 0) (v := qr 1 (some 0)) (dz dl_Mod_alter_0 15 25 (.aload_n 0) 1 rfl) rfl rfl trivial ?_
        refine mp_getA (dz dl_Mod_alter_0 16 26 (.getfield 34) 3 rfl) lk_Mod_34 (q := 0) kd_76 rfl sm_76 ?_
        refine mp_iconst (dz dl_Mod_alter_0 17 29 (.iconst (4)) 1 rfl) (v := (4 : Int32)) (by decide) ?_
        refine mp_iload_n (i := 1) (x := l1) (dz dl_Mod_alter_0 18 30 (.iload_n 1) 1 rfl) rfl rfl ?_
        refine mp_imul (dz dl_Mod_alter_0 19 31 (.imul) 1 rfl) ?_
        refine mp_iload_n (i := 2) (x := l2) (dz dl_Mod_alter_0 20 32 (.iload_n 2) 1 rfl) rfl rfl ?_
        refine mp_iadd (dz dl_Mod_alter_0 21 33 (.iadd) 1 rfl) ?_
        refine mp_iald (dz dl_Mod_alter_0 22 34 (.iaload) 1 rfl) kd_76 rfl sm_76 i1 ?_
        refine mp_bipush (dz dl_Mod_alter_0 23 35 (.bipush (8)) 2 rfl) (v := (8 : Int32)) (by decide) ?_
        refine mp_icmp_ne (tgt := 42) (dz dl_Mod_alter_0 24 37 (.if_icmp .ne (5)) 3 rfl) (by decide) (fun hc => ?_) (fun hc => ?_)
        · replace h := h.1 hc
          exact mp_cut h ⟨Or.inr rfl, Or.inr rfl, Or.inr rfl, Or.inr rfl, Or.inl rfl, Or.inl rfl, trivial⟩
        · replace h := h.2 hc
          refine mp_iconst (dz dl_Mod_alter_0 25 40 (.iconst (0)) 1 rfl) (v := (0 : Int32)) (by decide) ?_
          exact mp_rt (qi _) (rt_Z rfl (Or.inl rfl) (dz dl_Mod_alter_0 26 41 (.ireturn) 1 rfl)) ⟨_, rfl, h⟩
theorem mt_Mod_alter {u : MS} {l1 : Int32} {l2 : Int32} {l3 : Int32} {Z : Int32 → MS → Prop} (h : mMT M_Mod_isWire [qi l1, qi l2] u (mI fun r1 u1 => (r1 = 0 → Z (0 : Int32) u1) ∧ (¬ r1 = 0 → vp_in (((4 : Int32) * l1) + l2) 20 ∧ ((u1 76 (((4 : Int32) * l1) + l2).toNatClampNeg) = 0 → Z (0 : Int32) u1) ∧ (¬ (u1 76 (((4 : Int32) * l1) + l2).toNatClampNeg) = 0 → (l3 = 0 → mWP M_Mod_alter 42 [qr 1 (some 0), qi l1, qi l2, qi l3, none, none] [] u1 (mI Z)) ∧ (¬ l3 = 0 → (¬ (u1 76 (((4 : Int32) * l1) + l2).toNatClampNeg) = (8 : Int32) → mWP M_Mod_alter 42 [qr 1 (some 0), qi l1, qi l2, qi l3, none, none] [] u1 (mI Z)) ∧ ((u1 76 (((4 : Int32) * l1) + l2).toNatClampNeg) = (8 : Int32) → Z (0 : Int32) u1)))))) : mMT M_Mod_alter [qr 1 (some 0), qi l1, qi l2, qi l3] u (mI Z) := mb_Mod_alter_0 h

theorem mb_Mod_alter_42 {u : MS} {l1 : Int32} {l2 : Int32} {l3 : Int32} {Z : Int32 → MS → Prop} (h : (l3 = 0 → mMT M_Mod_take [qr 1 (some 0), qi (((4 : Int32) * l1) + l2)] u (mV fun u1 => Z (1 : Int32) u1)) ∧ (¬ l3 = 0 → vp_in ((40 : Int32) * (((4 : Int32) * l1) + l2)) 800 ∧ vp_in (((40 : Int32) * (((4 : Int32) * l1) + l2)) + (1 : Int32)) 800 ∧ vp_in (((40 : Int32) * (((4 : Int32) * l1) + l2)) + (2 : Int32)) 800 ∧ vp_in (((40 : Int32) * (((4 : Int32) * l1) + l2)) + (3 : Int32)) 800 ∧ vp_in (((40 : Int32) * (((4 : Int32) * l1) + l2)) + (4 : Int32)) 800 ∧ mMT M_Mod_put [qr 1 (some 0), qi (((4 : Int32) * l1) + l2), qi (u 77 ((40 : Int32) * (((4 : Int32) * l1) + l2)).toNatClampNeg), qi (u 77 (((40 : Int32) * (((4 : Int32) * l1) + l2)) + (1 : Int32)).toNatClampNeg), qi (u 77 (((40 : Int32) * (((4 : Int32) * l1) + l2)) + (2 : Int32)).toNatClampNeg), qi (u 77 (((40 : Int32) * (((4 : Int32) * l1) + l2)) + (3 : Int32)).toNatClampNeg), qi (u 77 (((40 : Int32) * (((4 : Int32) * l1) + l2)) + (4 : Int32)).toNatClampNeg)] u (mV fun u2 => Z (1 : Int32) u2))) : mWP M_Mod_alter 42 [qr 1 (some 0), qi l1, qi l2, qi l3, none, none] [] u (mI Z) := by
  refine mp_iconst (dz dl_Mod_alter_0 27 42 (.iconst (4)) 1 rfl) (v := (4 : Int32)) (by decide) ?_
  refine mp_iload_n (i := 1) (x := l1) (dz dl_Mod_alter_0 28 43 (.iload_n 1) 1 rfl) rfl rfl ?_
  refine mp_imul (dz dl_Mod_alter_0 29 44 (.imul) 1 rfl) ?_
  refine mp_iload_n (i := 2) (x := l2) (dz dl_Mod_alter_0 30 45 (.iload_n 2) 1 rfl) rfl rfl ?_
  refine mp_iadd (dz dl_Mod_alter_0 31 46 (.iadd) 1 rfl) ?_
  refine mp_istore (i := 4) (dz dl_Mod_alter_0 32 47 (.istore 4) 2 rfl) [qr 1 (some 0), qi l1, qi l2, qi l3, qi (((4 : Int32) * l1) + l2), none] (by decide) rfl ?_
  refine mp_iload_n (i := 3) (x := l3) (dz dl_Mod_alter_0 33 49 (.iload_n 3) 1 rfl) rfl rfl ?_
  refine mp_if_eq (tgt := 112) (dz dl_Mod_alter_0 34 50 (.ifCond .eq (62)) 3 rfl) (by decide) (fun hc => ?_) (fun hc => ?_)
  · replace h := h.1 hc
    refine mp_aload_n (i := 0) (v := qr 1 (some 0)) (dz dl_Mod_alter_1 31 112 (.aload_n 0) 1 rfl) rfl rfl trivial ?_
    refine mp_iload (i := 4) (x := ((4 : Int32) * l1) + l2) (dz dl_Mod_alter_1 32 113 (.iload 4) 2 rfl) rfl ?_
    refine mp_callV [qi (((4 : Int32) * l1) + l2)] [] (dz dl_Mod_alter_1 33 115 (.invokevirtual 198) 3 rfl) ok_Mod_take lm_Mod_198 ws_Mod_take wv_Mod_take ⟨Nat.le_of_ble_eq_true rfl, Nat.le_of_ble_eq_true rfl⟩ pn_Mod_take (Nat.le_of_ble_eq_true rfl) (Nat.le_of_ble_eq_true rfl) (Or.inl rfl) (mmono h ?_)
    rintro _ u1 ⟨rfl, h⟩
    show mWP _ _ _ [] _ _
    refine mp_iconst (dz dl_Mod_alter_1 34 118 (.iconst (1)) 1 rfl) (v := (1 : Int32)) (by decide) ?_
    exact mp_rt (qi _) (rt_Z rfl (Or.inr rfl) (dz dl_Mod_alter_1 35 119 (.ireturn) 1 rfl)) ⟨_, rfl, h⟩
  · replace h := h.2 hc
    refine mp_bipush (dz dl_Mod_alter_0 35 53 (.bipush (40)) 2 rfl) (v := (40 : Int32)) (by decide) ?_
    refine mp_iload (i := 4) (x := ((4 : Int32) * l1) + l2) (dz dl_Mod_alter_0 36 55 (.iload 4) 2 rfl) rfl ?_
    refine mp_imul (dz dl_Mod_alter_0 37 57 (.imul) 1 rfl) ?_
    refine mp_istore (i := 5) (dz dl_Mod_alter_0 38 58 (.istore 5) 2 rfl) [qr 1 (some 0), qi l1, qi l2, qi l3, qi (((4 : Int32) * l1) + l2), qi ((40 : Int32) * (((4 : Int32) * l1) + l2))] (by decide) rfl ?_
    refine mp_aload_n (i := 0) (v := qr 1 (some 0)) (dz dl_Mod_alter_0 39 60 (.aload_n 0) 1 rfl) rfl rfl trivial ?_
    refine mp_iload (i := 4) (x := ((4 : Int32) * l1) + l2) (dz dl_Mod_alter_1 0 61 (.iload 4) 2 rfl) rfl ?_
    refine mp_aload_n (i := 0) (v := qr 1 (some 0)) (dz dl_Mod_alter_1 1 63 (.aload_n 0) 1 rfl) rfl rfl trivial ?_
    refine mp_getA (dz dl_Mod_alter_1 2 64 (.getfield 37) 3 rfl) lk_Mod_37 (q := 0) kd_77 rfl sm_77 ?_
    refine mp_iload (i := 5) (x := (40 : Int32) * (((4 : Int32) * l1) + l2)) (dz dl_Mod_alter_1 3 67 (.iload 5) 2 rfl) rfl ?_
    obtain ⟨i1, h⟩ := h
    refine mp_iald (dz dl_Mod_alter_1 4 69 (.iaload) 1 rfl) kd_77 rfl sm_77 i1 ?_
    refine mp_aload_n (i := 0) (v := qr 1 (some 0)) (dz dl_Mod_alter_1 5 70 (.aload_n 0) 1 rfl) rfl rfl trivial ?_
    refine mp_getA (dz dl_Mod_alter_1 6 71 (.getfield 37) 3 rfl) lk_Mod_37 (q := 0) kd_77 rfl sm_77 ?_
    refine mp_iload (i := 5) (x := (40 : Int32) * (((4 : Int32) * l1) + l2)) (dz dl_Mod_alter_1 7 74 (.iload 5) 2 rfl) rfl ?_
    refine mp_iconst (dz dl_Mod_alter_1 8 76 (.iconst (1)) 1 rfl) (v := (1 : Int32)) (by decide) ?_
    refine mp_iadd (dz dl_Mod_alter_1 9 77 (.iadd) 1 rfl) ?_
    obtain ⟨i2, h⟩ := h
    refine mp_iald (dz dl_Mod_alter_1 10 78 (.iaload) 1 rfl) kd_77 rfl sm_77 i2 ?_
    refine mp_aload_n (i := 0) (v := qr 1 (some 0)) (dz dl_Mod_alter_1 11 79 (.aload_n 0) 1 rfl) rfl rfl trivial ?_
    refine mp_getA (dz dl_Mod_alter_1 12 80 (.getfield 37) 3 rfl) lk_Mod_37 (q := 0) kd_77 rfl sm_77 ?_
    refine mp_iload (i := 5) (x := (40 : Int32) * (((4 : Int32) * l1) + l2)) (dz dl_Mod_alter_1 13 83 (.iload 5) 2 rfl) rfl ?_
    refine mp_iconst (dz dl_Mod_alter_1 14 85 (.iconst (2)) 1 rfl) (v := (2 : Int32)) (by decide) ?_
    refine mp_iadd (dz dl_Mod_alter_1 15 86 (.iadd) 1 rfl) ?_
    obtain ⟨i3, h⟩ := h
    refine mp_iald (dz dl_Mod_alter_1 16 87 (.iaload) 1 rfl) kd_77 rfl sm_77 i3 ?_
    refine mp_aload_n (i := 0) (v := qr 1 (some 0)) (dz dl_Mod_alter_1 17 88 (.aload_n 0) 1 rfl) rfl rfl trivial ?_
    refine mp_getA (dz dl_Mod_alter_1 18 89 (.getfield 37) 3 rfl) lk_Mod_37 (q := 0) kd_77 rfl sm_77 ?_
    refine mp_iload (i := 5) (x := (40 : Int32) * (((4 : Int32) * l1) + l2)) (dz dl_Mod_alter_1 19 92 (.iload 5) 2 rfl) rfl ?_
    refine mp_iconst (dz dl_Mod_alter_1 20 94 (.iconst (3)) 1 rfl) (v := (3 : Int32)) (by decide) ?_
    refine mp_iadd (dz dl_Mod_alter_1 21 95 (.iadd) 1 rfl) ?_
    obtain ⟨i4, h⟩ := h
    refine mp_iald (dz dl_Mod_alter_1 22 96 (.iaload) 1 rfl) kd_77 rfl sm_77 i4 ?_
    refine mp_aload_n (i := 0) (v := qr 1 (some 0)) (dz dl_Mod_alter_1 23 97 (.aload_n 0) 1 rfl) rfl rfl trivial ?_
    refine mp_getA (dz dl_Mod_alter_1 24 98 (.getfield 37) 3 rfl) lk_Mod_37 (q := 0) kd_77 rfl sm_77 ?_
    refine mp_iload (i := 5) (x := (40 : Int32) * (((4 : Int32) * l1) + l2)) (dz dl_Mod_alter_1 25 101 (.iload 5) 2 rfl) rfl ?_
    refine mp_iconst (dz dl_Mod_alter_1 26 103 (.iconst (4)) 1 rfl) (v := (4 : Int32)) (by decide) ?_
    refine mp_iadd (dz dl_Mod_alter_1 27 104 (.iadd) 1 rfl) ?_
    obtain ⟨i5, h⟩ := h
    refine mp_iald (dz dl_Mod_alter_1 28 105 (.iaload) 1 rfl) kd_77 rfl sm_77 i5 ?_
    refine mp_callV [qi (((4 : Int32) * l1) + l2), qi (u 77 ((40 : Int32) * (((4 : Int32) * l1) + l2)).toNatClampNeg), qi (u 77 (((40 : Int32) * (((4 : Int32) * l1) + l2)) + (1 : Int32)).toNatClampNeg), qi (u 77 (((40 : Int32) * (((4 : Int32) * l1) + l2)) + (2 : Int32)).toNatClampNeg), qi (u 77 (((40 : Int32) * (((4 : Int32) * l1) + l2)) + (3 : Int32)).toNatClampNeg), qi (u 77 (((40 : Int32) * (((4 : Int32) * l1) + l2)) + (4 : Int32)).toNatClampNeg)] [] (dz dl_Mod_alter_1 29 106 (.invokevirtual 216) 3 rfl) ok_Mod_put lm_Mod_216 ws_Mod_put wv_Mod_put ⟨Nat.le_of_ble_eq_true rfl, Nat.le_of_ble_eq_true rfl⟩ pn_Mod_put (Nat.le_of_ble_eq_true rfl) (Nat.le_of_ble_eq_true rfl) (Or.inl rfl) (mmono h ?_)
    rintro _ u2 ⟨rfl, h⟩
    show mWP _ _ _ [] _ _
    refine mp_goto (tgt := 118) (dz dl_Mod_alter_1 30 109 (.goto (9)) 3 rfl) (by decide) ?_
    refine mp_iconst (dz dl_Mod_alter_1 34 118 (.iconst (1)) 1 rfl) (v := (1 : Int32)) (by decide) ?_
    exact mp_rt (qi _) (rt_Z rfl (Or.inr rfl) (dz dl_Mod_alter_1 35 119 (.ireturn) 1 rfl)) ⟨_, rfl, h⟩

theorem mb_Mod_route_0 {u : MS} {l1 : Int32} {l2 : Int32} {Z : Int32 → MS → Prop} (h : mWP M_Mod_route 2 [qr 1 (some 0), qi l1, qi l2, qi (0 : Int32)] [] u (mI Z)) : mWP M_Mod_route 0 [qr 1 (some 0), qi l1, qi l2, none] [] u (mI Z) := by
  refine mp_iconst (dz dl_Mod_route_0 0 0 (.iconst (0)) 1 rfl) (v := (0 : Int32)) (by decide) ?_
  refine mp_istore_n (i := 3) (dz dl_Mod_route_0 1 1 (.istore_n 3) 1 rfl) rfl [qr 1 (some 0), qi l1, qi l2, qi (0 : Int32)] (by decide) rfl ?_
  exact mp_cut h ⟨Or.inr rfl, Or.inr rfl, Or.inr rfl, Or.inr rfl, trivial⟩
theorem mt_Mod_route {u : MS} {l1 : Int32} {l2 : Int32} {Z : Int32 → MS → Prop} (h : mWP M_Mod_route 2 [qr 1 (some 0), qi l1, qi l2, qi (0 : Int32)] [] u (mI Z)) : mMT M_Mod_route [qr 1 (some 0), qi l1, qi l2] u (mI Z) := mb_Mod_route_0 h

theorem mb_Mod_route_2 {u : MS} {l1 : Int32} {l2 : Int32} {l3 : Int32} {Z : Int32 → MS → Prop} (h : ((u 79 0) ≤ l3 → Z (-1 : Int32) u) ∧ (¬ (u 79 0) ≤ l3 → vp_in l3 50 ∧ (¬ (u 80 l3.toNatClampNeg) = l1 → mWP M_Mod_route 2 [qr 1 (some 0), qi l1, qi l2, qi (l3 + 1)] [] u (mI Z)) ∧ ((u 80 l3.toNatClampNeg) = l1 → (¬ (u 81 l3.toNatClampNeg) = l2 → mWP M_Mod_route 2 [qr 1 (some 0), qi l1, qi l2, qi (l3 + 1)] [] u (mI Z)) ∧ ((u 81 l3.toNatClampNeg) = l2 → Z l3 u)))) : mWP M_Mod_route 2 [qr 1 (some 0), qi l1, qi l2, qi l3] [] u (mI Z) := by
  refine mp_iload_n (i := 3) (x := l3) (dz dl_Mod_route_0 2 2 (.iload_n 3) 1 rfl) rfl rfl ?_
  refine mp_aload_n (i := 0) (v := qr 1 (some 0)) (dz dl_Mod_route_0 3 3 (.aload_n 0) 1 rfl) rfl rfl trivial ?_
  refine mp_getI (dz dl_Mod_route_0 4 4 (.getfield 219) 3 rfl) lk_Mod_219 kd_79 rfl ?_
  refine mp_icmp_ge (tgt := 38) (dz dl_Mod_route_0 5 7 (.if_icmp .ge (31)) 3 rfl) (by decide) (fun hc => ?_) (fun hc => ?_)
  · replace h := h.1 hc
    refine mp_iconst (dz dl_Mod_route_0 22 38 (.iconst (-1)) 1 rfl) (v := (-1 : Int32)) (by decide) ?_
    exact mp_rt (qi _) (rt_I rfl (dz dl_Mod_route_0 23 39 (.ireturn) 1 rfl)) ⟨_, rfl, h⟩
  · replace h := h.2 hc
    refine mp_aload_n (i := 0) (v := qr 1 (some 0)) (dz dl_Mod_route_0 6 10 (.aload_n 0) 1 rfl) rfl rfl trivial ?_
    refine mp_getA (dz dl_Mod_route_0 7 11 (.getfield 43) 3 rfl) lk_Mod_43 (q := 0) kd_80 rfl sm_80 ?_
    refine mp_iload_n (i := 3) (x := l3) (dz dl_Mod_route_0 8 14 (.iload_n 3) 1 rfl) rfl rfl ?_
    obtain ⟨i1, h⟩ := h
    refine mp_iald (dz dl_Mod_route_0 9 15 (.iaload) 1 rfl) kd_80 rfl sm_80 i1 ?_
    refine mp_iload_n (i := 1) (x := l1) (dz dl_Mod_route_0 10 16 (.iload_n 1) 1 rfl) rfl rfl ?_
    refine mp_icmp_ne (tgt := 32) (dz dl_Mod_route_0 11 17 (.if_icmp .ne (15)) 3 rfl) (by decide) (fun hc => ?_) (fun hc => ?_)
    · replace h := h.1 hc
      refine mp_iinc (i := 3) (v := l3 + 1) (dz dl_Mod_route_0 20 32 (.iinc 3 (1)) 3 rfl) rfl (congrArg (fun z => l3 + z) (by decide)) [qr 1 (some 0), qi l1, qi l2, qi (l3 + 1)] (by decide) rfl ?_
      refine mp_goto (tgt := 2) (dz dl_Mod_route_0 21 35 (.goto (-33)) 3 rfl) (by decide) ?_
      exact mp_cut h ⟨Or.inr rfl, Or.inr rfl, Or.inr rfl, Or.inr rfl, trivial⟩
    · replace h := h.2 hc
      refine mp_aload_n (i := 0) (v := qr 1 (some 0)) (dz dl_Mod_route_0 12 20 (.aload_n 0) 1 rfl) rfl rfl trivial ?_
      refine mp_getA (dz dl_Mod_route_0 13 21 (.getfield 46) 3 rfl) lk_Mod_46 (q := 0) kd_81 rfl sm_81 ?_
      refine mp_iload_n (i := 3) (x := l3) (dz dl_Mod_route_0 14 24 (.iload_n 3) 1 rfl) rfl rfl ?_
      refine mp_iald (dz dl_Mod_route_0 15 25 (.iaload) 1 rfl) kd_81 rfl sm_81 i1 ?_
      refine mp_iload_n (i := 2) (x := l2) (dz dl_Mod_route_0 16 26 (.iload_n 2) 1 rfl) rfl rfl ?_
      refine mp_icmp_ne (tgt := 32) (dz dl_Mod_route_0 17 27 (.if_icmp .ne (5)) 3 rfl) (by decide) (fun hc => ?_) (fun hc => ?_)
      · replace h := h.1 hc
        refine mp_iinc (i := 3) (v := l3 + 1) (dz dl_Mod_route_0 20 32 (.iinc 3 (1)) 3 rfl) rfl (congrArg (fun z => l3 + z) (by decide)) [qr 1 (some 0), qi l1, qi l2, qi (l3 + 1)] (by decide) rfl ?_
        refine mp_goto (tgt := 2) (dz dl_Mod_route_0 21 35 (.goto (-33)) 3 rfl) (by decide) ?_
        exact mp_cut h ⟨Or.inr rfl, Or.inr rfl, Or.inr rfl, Or.inr rfl, trivial⟩
      · replace h := h.2 hc
        refine mp_iload_n (i := 3) (x := l3) (dz dl_Mod_route_0 18 30 (.iload_n 3) 1 rfl) rfl rfl ?_
        exact mp_rt (qi _) (rt_I rfl (dz dl_Mod_route_0 19 31 (.ireturn) 1 rfl)) ⟨_, rfl, h⟩

theorem mb_Mod_least_0 {u : MS} {l1 : Int32} {l2 : Int32} {Z : Int32 → MS → Prop} (h : mWP M_Mod_least 5 [qr 1 (some 0), qi l1, qi l2, qi (0 : Int32), qi (0 : Int32), none] [] u (mI Z)) : mWP M_Mod_least 0 [qr 1 (some 0), qi l1, qi l2, none, none, none] [] u (mI Z) := by
  refine mp_iconst (dz dl_Mod_least_0 0 0 (.iconst (0)) 1 rfl) (v := (0 : Int32)) (by decide) ?_
  refine mp_istore_n (i := 3) (dz dl_Mod_least_0 1 1 (.istore_n 3) 1 rfl) rfl [qr 1 (some 0), qi l1, qi l2, qi (0 : Int32), none, none] (by decide) rfl ?_
  refine mp_iconst (dz dl_Mod_least_0 2 2 (.iconst (0)) 1 rfl) (v := (0 : Int32)) (by decide) ?_
  refine mp_istore (i := 4) (dz dl_Mod_least_0 3 3 (.istore 4) 2 rfl) [qr 1 (some 0), qi l1, qi l2, qi (0 : Int32), qi (0 : Int32), none] (by decide) rfl ?_
  exact mp_cut h ⟨Or.inr rfl, Or.inr rfl, Or.inr rfl, Or.inr rfl, Or.inr rfl, Or.inl rfl, trivial⟩
theorem mt_Mod_least {u : MS} {l1 : Int32} {l2 : Int32} {Z : Int32 → MS → Prop} (h : mWP M_Mod_least 5 [qr 1 (some 0), qi l1, qi l2, qi (0 : Int32), qi (0 : Int32), none] [] u (mI Z)) : mMT M_Mod_least [qr 1 (some 0), qi l1, qi l2] u (mI Z) := mb_Mod_least_0 h

theorem mb_Mod_least_5 {u : MS} {l1 : Int32} {l2 : Int32} {l3 : Int32} {l4 : Int32} {Z : Int32 → MS → Prop} (h : ((5 : Int32) ≤ l4 → Z l3 u) ∧ (¬ (5 : Int32) ≤ l4 → vp_in ((((250 : Int32) * l1) + ((5 : Int32) * l2)) + l4) 1250 ∧ ((u 83 ((((250 : Int32) * l1) + ((5 : Int32) * l2)) + l4).toNatClampNeg) ≤ 0 → mWP M_Mod_least 5 [qr 1 (some 0), qi l1, qi l2, qi l3, qi (l4 + 1), none] [] u (mI Z)) ∧ (¬ (u 83 ((((250 : Int32) * l1) + ((5 : Int32) * l2)) + l4).toNatClampNeg) ≤ 0 → (l3 = 0 → mWP M_Mod_least 5 [qr 1 (some 0), qi l1, qi l2, qi (u 83 ((((250 : Int32) * l1) + ((5 : Int32) * l2)) + l4).toNatClampNeg), qi (l4 + 1), none] [] u (mI Z)) ∧ (¬ l3 = 0 → (l3 ≤ (u 83 ((((250 : Int32) * l1) + ((5 : Int32) * l2)) + l4).toNatClampNeg) → mWP M_Mod_least 5 [qr 1 (some 0), qi l1, qi l2, qi l3, qi (l4 + 1), none] [] u (mI Z)) ∧ (¬ l3 ≤ (u 83 ((((250 : Int32) * l1) + ((5 : Int32) * l2)) + l4).toNatClampNeg) → mWP M_Mod_least 5 [qr 1 (some 0), qi l1, qi l2, qi (u 83 ((((250 : Int32) * l1) + ((5 : Int32) * l2)) + l4).toNatClampNeg), qi (l4 + 1), none] [] u (mI Z)))))) : mWP M_Mod_least 5 [qr 1 (some 0), qi l1, qi l2, qi l3, qi l4, none] [] u (mI Z) := by
  refine mp_iload (i := 4) (x := l4) (dz dl_Mod_least_0 4 5 (.iload 4) 2 rfl) rfl ?_
  refine mp_iconst (dz dl_Mod_least_0 5 7 (.iconst (5)) 1 rfl) (v := (5 : Int32)) (by decide) ?_
  refine mp_icmp_ge (tgt := 58) (dz dl_Mod_least_0 6 8 (.if_icmp .ge (50)) 3 rfl) (by decide) (fun hc => ?_) (fun hc => ?_)
  · replace h := h.1 hc
    refine mp_iload_n (i := 3) (x := l3) (dz dl_Mod_least_0 33 58 (.iload_n 3) 1 rfl) rfl rfl ?_
    exact mp_rt (qi _) (rt_I rfl (dz dl_Mod_least_0 34 59 (.ireturn) 1 rfl)) ⟨_, rfl, h⟩
  · replace h := h.2 hc
    refine mp_aload_n (i := 0) (v := qr 1 (some 0)) (dz dl_Mod_least_0 7 11 (.aload_n 0) 1 rfl) rfl rfl trivial ?_
    refine mp_getA (dz dl_Mod_least_0 8 12 (.getfield 52) 3 rfl) lk_Mod_52 (q := 0) kd_83 rfl sm_83 ?_
    refine mp_sipush (dz dl_Mod_least_0 9 15 (.sipush (250)) 3 rfl) (v := (250 : Int32)) (by decide) ?_
    refine mp_iload_n (i := 1) (x := l1) (dz dl_Mod_least_0 10 18 (.iload_n 1) 1 rfl) rfl rfl ?_
    refine mp_imul (dz dl_Mod_least_0 11 19 (.imul) 1 rfl) ?_
    refine mp_iconst (dz dl_Mod_least_0 12 20 (.iconst (5)) 1 rfl) (v := (5 : Int32)) (by decide) ?_
    refine mp_iload_n (i := 2) (x := l2) (dz dl_Mod_least_0 13 21 (.iload_n 2) 1 rfl) rfl rfl ?_
    refine mp_imul (dz dl_Mod_least_0 14 22 (.imul) 1 rfl) ?_
    refine mp_iadd (dz dl_Mod_least_0 15 23 (.iadd) 1 rfl) ?_
    refine mp_iload (i := 4) (x := l4) (dz dl_Mod_least_0 16 24 (.iload 4) 2 rfl) rfl ?_
    refine mp_iadd (dz dl_Mod_least_0 17 26 (.iadd) 1 rfl) ?_
    obtain ⟨i1, h⟩ := h
    refine mp_iald (dz dl_Mod_least_0 18 27 (.iaload) 1 rfl) kd_83 rfl sm_83 i1 ?_
    refine mp_istore (i := 5) (dz dl_Mod_least_0 19 28 (.istore 5) 2 rfl) [qr 1 (some 0), qi l1, qi l2, qi l3, qi l4, qi (u 83 ((((250 : Int32) * l1) + ((5 : Int32) * l2)) + l4).toNatClampNeg)] (by decide) rfl ?_
    refine mp_iload (i := 5) (x := u 83 ((((250 : Int32) * l1) + ((5 : Int32) * l2)) + l4).toNatClampNeg) (dz dl_Mod_least_0 20 30 (.iload 5) 2 rfl) rfl ?_
    refine mp_if_le (tgt := 50) (dz dl_Mod_least_0 21 32 (.ifCond .le (18)) 3 rfl) (by decide) (fun hc => ?_) (fun hc => ?_)
    · replace h := h.1 hc
      refine mp_iload_n (i := 3) (x := l3) (dz dl_Mod_least_0 29 50 (.iload_n 3) 1 rfl) rfl rfl ?_
      refine mp_istore_n (i := 3) (dz dl_Mod_least_0 30 51 (.istore_n 3) 1 rfl) rfl [qr 1 (some 0), qi l1, qi l2, qi l3, qi l4, qi (u 83 ((((250 : Int32) * l1) + ((5 : Int32) * l2)) + l4).toNatClampNeg)] (by decide) rfl ?_
      refine mp_iinc (i := 4) (v := l4 + 1) (dz dl_Mod_least_0 31 52 (.iinc 4 (1)) 3 rfl) rfl (congrArg (fun z => l4 + z) (by decide)) [qr 1 (some 0), qi l1, qi l2, qi l3, qi (l4 + 1), qi (u 83 ((((250 : Int32) * l1) + ((5 : Int32) * l2)) + l4).toNatClampNeg)] (by decide) rfl ?_
      refine mp_goto (tgt := 5) (dz dl_Mod_least_0 32 55 (.goto (-50)) 3 rfl) (by decide) ?_
      exact mp_cut h ⟨Or.inr rfl, Or.inr rfl, Or.inr rfl, Or.inr rfl, Or.inr rfl, Or.inl rfl, trivial⟩
    · replace h := h.2 hc
      refine mp_iload_n (i := 3) (x := l3) (dz dl_Mod_least_0 22 35 (.iload_n 3) 1 rfl) rfl rfl ?_
      refine mp_if_eq (tgt := 45) (dz dl_Mod_least_0 23 36 (.ifCond .eq (9)) 3 rfl) (by decide) (fun hc => ?_) (fun hc => ?_)
      · replace h := h.1 hc
        refine mp_iload (i := 5) (x := u 83 ((((250 : Int32) * l1) + ((5 : Int32) * l2)) + l4).toNatClampNeg) (dz dl_Mod_least_0 27 45 (.iload 5) 2 rfl) rfl ?_
        refine mp_goto (tgt := 51) (dz dl_Mod_least_0 28 47 (.goto (4)) 3 rfl) (by decide) ?_
        refine mp_istore_n (i := 3) (dz dl_Mod_least_0 30 51 (.istore_n 3) 1 rfl) rfl [qr 1 (some 0), qi l1, qi l2, qi (u 83 ((((250 : Int32) * l1) + ((5 : Int32) * l2)) + l4).toNatClampNeg), qi l4, qi (u 83 ((((250 : Int32) * l1) + ((5 : Int32) * l2)) + l4).toNatClampNeg)] (by decide) rfl ?_
        refine mp_iinc (i := 4) (v := l4 + 1) (dz dl_Mod_least_0 31 52 (.iinc 4 (1)) 3 rfl) rfl (congrArg (fun z => l4 + z) (by decide)) [qr 1 (some 0), qi l1, qi l2, qi (u 83 ((((250 : Int32) * l1) + ((5 : Int32) * l2)) + l4).toNatClampNeg), qi (l4 + 1), qi (u 83 ((((250 : Int32) * l1) + ((5 : Int32) * l2)) + l4).toNatClampNeg)] (by decide) rfl ?_
        refine mp_goto (tgt := 5) (dz dl_Mod_least_0 32 55 (.goto (-50)) 3 rfl) (by decide) ?_
        exact mp_cut h ⟨Or.inr rfl, Or.inr rfl, Or.inr rfl, Or.inr rfl, Or.inr rfl, Or.inl rfl, trivial⟩
      · replace h := h.2 hc
        refine mp_iload (i := 5) (x := u 83 ((((250 : Int32) * l1) + ((5 : Int32) * l2)) + l4).toNatClampNeg) (dz dl_Mod_least_0 24 39 (.iload 5) 2 rfl) rfl ?_
        refine mp_iload_n (i := 3) (x := l3) (dz dl_Mod_least_0 25 41 (.iload_n 3) 1 rfl) rfl rfl ?_
        refine mp_icmp_ge (tgt := 50) (dz dl_Mod_least_0 26 42 (.if_icmp .ge (8)) 3 rfl) (by decide) (fun hc => ?_) (fun hc => ?_)
        · replace h := h.1 hc
          refine mp_iload_n (i := 3) (x := l3) (dz dl_Mod_least_0 29 50 (.iload_n 3) 1 rfl) rfl rfl ?_
          refine mp_istore_n (i := 3) (dz dl_Mod_least_0 30 51 (.istore_n 3) 1 rfl) rfl [qr 1 (some 0), qi l1, qi l2, qi l3, qi l4, qi (u 83 ((((250 : Int32) * l1) + ((5 : Int32) * l2)) + l4).toNatClampNeg)] (by decide) rfl ?_
          refine mp_iinc (i := 4) (v := l4 + 1) (dz dl_Mod_least_0 31 52 (.iinc 4 (1)) 3 rfl) rfl (congrArg (fun z => l4 + z) (by decide)) [qr 1 (some 0), qi l1, qi l2, qi l3, qi (l4 + 1), qi (u 83 ((((250 : Int32) * l1) + ((5 : Int32) * l2)) + l4).toNatClampNeg)] (by decide) rfl ?_
          refine mp_goto (tgt := 5) (dz dl_Mod_least_0 32 55 (.goto (-50)) 3 rfl) (by decide) ?_
          exact mp_cut h ⟨Or.inr rfl, Or.inr rfl, Or.inr rfl, Or.inr rfl, Or.inr rfl, Or.inl rfl, trivial⟩
        · replace h := h.2 hc
          refine mp_iload (i := 5) (x := u 83 ((((250 : Int32) * l1) + ((5 : Int32) * l2)) + l4).toNatClampNeg) (dz dl_Mod_least_0 27 45 (.iload 5) 2 rfl) rfl ?_
          refine mp_goto (tgt := 51) (dz dl_Mod_least_0 28 47 (.goto (4)) 3 rfl) (by decide) ?_
          refine mp_istore_n (i := 3) (dz dl_Mod_least_0 30 51 (.istore_n 3) 1 rfl) rfl [qr 1 (some 0), qi l1, qi l2, qi (u 83 ((((250 : Int32) * l1) + ((5 : Int32) * l2)) + l4).toNatClampNeg), qi l4, qi (u 83 ((((250 : Int32) * l1) + ((5 : Int32) * l2)) + l4).toNatClampNeg)] (by decide) rfl ?_
          refine mp_iinc (i := 4) (v := l4 + 1) (dz dl_Mod_least_0 31 52 (.iinc 4 (1)) 3 rfl) rfl (congrArg (fun z => l4 + z) (by decide)) [qr 1 (some 0), qi l1, qi l2, qi (u 83 ((((250 : Int32) * l1) + ((5 : Int32) * l2)) + l4).toNatClampNeg), qi (l4 + 1), qi (u 83 ((((250 : Int32) * l1) + ((5 : Int32) * l2)) + l4).toNatClampNeg)] (by decide) rfl ?_
          refine mp_goto (tgt := 5) (dz dl_Mod_least_0 32 55 (.goto (-50)) 3 rfl) (by decide) ?_
          exact mp_cut h ⟨Or.inr rfl, Or.inr rfl, Or.inr rfl, Or.inr rfl, Or.inr rfl, Or.inl rfl, trivial⟩

theorem mb_Mod_renew_0 {u : MS} {l1 : Int32} {l2 : Int32} {l3 : Int32} {Z : MS → Prop} (h : vp_in (((50 : Int32) * l1) + l2) 250 ∧ ∀ u1, u1 = mu u 82 (((50 : Int32) * l1) + l2).toNatClampNeg l3 → mWP M_Mod_renew 15 [qr 1 (some 0), qi l1, qi l2, none, qi (0 : Int32)] [] u1 (mV Z)) : mWP M_Mod_renew 0 [qr 1 (some 0), qi l1, qi l2, qi l3, none] [] u (mV Z) := by
  refine mp_aload_n (i := 0) (v := qr 1 (some 0)) (dz dl_Mod_renew_0 0 0 (.aload_n 0) 1 rfl) rfl rfl trivial ?_
  refine mp_getA (dz dl_Mod_renew_0 1 1 (.getfield 49) 3 rfl) lk_Mod_49 (q := 0) kd_82 rfl sm_82 ?_
  refine mp_bipush (dz dl_Mod_renew_0 2 4 (.bipush (50)) 2 rfl) (v := (50 : Int32)) (by decide) ?_
  refine mp_iload_n (i := 1) (x := l1) (dz dl_Mod_renew_0 3 6 (.iload_n 1) 1 rfl) rfl rfl ?_
  refine mp_imul (dz dl_Mod_renew_0 4 7 (.imul) 1 rfl) ?_
  refine mp_iload_n (i := 2) (x := l2) (dz dl_Mod_renew_0 5 8 (.iload_n 2) 1 rfl) rfl rfl ?_
  refine mp_iadd (dz dl_Mod_renew_0 6 9 (.iadd) 1 rfl) ?_
  refine mp_iload_n (i := 3) (x := l3) (dz dl_Mod_renew_0 7 10 (.iload_n 3) 1 rfl) rfl rfl ?_
  obtain ⟨i1, h⟩ := h
  have h := h _ rfl
  refine mp_iast (dz dl_Mod_renew_0 8 11 (.iastore) 1 rfl) kd_82 rfl sm_82 i1 rfl ?_
  refine mp_iconst (dz dl_Mod_renew_0 9 12 (.iconst (0)) 1 rfl) (v := (0 : Int32)) (by decide) ?_
  refine mp_istore (i := 4) (dz dl_Mod_renew_0 10 13 (.istore 4) 2 rfl) [qr 1 (some 0), qi l1, qi l2, qi l3, qi (0 : Int32)] (by decide) rfl ?_
  exact mp_cut h ⟨Or.inr rfl, Or.inr rfl, Or.inr rfl, Or.inl rfl, Or.inr rfl, trivial⟩
theorem mt_Mod_renew {u : MS} {l1 : Int32} {l2 : Int32} {l3 : Int32} {Z : MS → Prop} (h : vp_in (((50 : Int32) * l1) + l2) 250 ∧ ∀ u1, u1 = mu u 82 (((50 : Int32) * l1) + l2).toNatClampNeg l3 → mWP M_Mod_renew 15 [qr 1 (some 0), qi l1, qi l2, none, qi (0 : Int32)] [] u1 (mV Z)) : mMT M_Mod_renew [qr 1 (some 0), qi l1, qi l2, qi l3] u (mV Z) := mb_Mod_renew_0 h

theorem mb_Mod_renew_15 {u : MS} {l1 : Int32} {l2 : Int32} {l4 : Int32} {Z : MS → Prop} (h : ((5 : Int32) ≤ l4 → Z u) ∧ (¬ (5 : Int32) ≤ l4 → vp_in ((((250 : Int32) * l1) + ((5 : Int32) * l2)) + l4) 1250 ∧ ∀ u1, u1 = mu u 83 ((((250 : Int32) * l1) + ((5 : Int32) * l2)) + l4).toNatClampNeg (0 : Int32) → mWP M_Mod_renew 15 [qr 1 (some 0), qi l1, qi l2, none, qi (l4 + 1)] [] u1 (mV Z))) : mWP M_Mod_renew 15 [qr 1 (some 0), qi l1, qi l2, none, qi l4] [] u (mV Z) := by
  refine mp_iload (i := 4) (x := l4) (dz dl_Mod_renew_0 11 15 (.iload 4) 2 rfl) rfl ?_
  refine mp_iconst (dz dl_Mod_renew_0 12 17 (.iconst (5)) 1 rfl) (v := (5 : Int32)) (by decide) ?_
  refine mp_icmp_ge (tgt := 45) (dz dl_Mod_renew_0 13 18 (.if_icmp .ge (27)) 3 rfl) (by decide) (fun hc => ?_) (fun hc => ?_)
  · replace h := h.1 hc
    exact mp_rt none (rt_V rfl (dz dl_Mod_renew_0 29 45 (.return_) 1 rfl)) ⟨rfl, h⟩
  · replace h := h.2 hc
    refine mp_aload_n (i := 0) (v := qr 1 (some 0)) (dz dl_Mod_renew_0 14 21 (.aload_n 0) 1 rfl) rfl rfl trivial ?_
    refine mp_getA (dz dl_Mod_renew_0 15 22 (.getfield 52) 3 rfl) lk_Mod_52 (q := 0) kd_83 rfl sm_83 ?_
    refine mp_sipush (dz dl_Mod_renew_0 16 25 (.sipush (250)) 3 rfl) (v := (250 : Int32)) (by decide) ?_
    refine mp_iload_n (i := 1) (x := l1) (dz dl_Mod_renew_0 17 28 (.iload_n 1) 1 rfl) rfl rfl ?_
    refine mp_imul (dz dl_Mod_renew_0 18 29 (.imul) 1 rfl) ?_
    refine mp_iconst (dz dl_Mod_renew_0 19 30 (.iconst (5)) 1 rfl) (v := (5 : Int32)) (by decide) ?_
    refine mp_iload_n (i := 2) (x := l2) (dz dl_Mod_renew_0 20 31 (.iload_n 2) 1 rfl) rfl rfl ?_
    refine mp_imul (dz dl_Mod_renew_0 21 32 (.imul) 1 rfl) ?_
    refine mp_iadd (dz dl_Mod_renew_0 22 33 (.iadd) 1 rfl) ?_
    refine mp_iload (i := 4) (x := l4) (dz dl_Mod_renew_0 23 34 (.iload 4) 2 rfl) rfl ?_
    refine mp_iadd (dz dl_Mod_renew_0 24 36 (.iadd) 1 rfl) ?_
    refine mp_iconst (dz dl_Mod_renew_0 25 37 (.iconst (0)) 1 rfl) (v := (0 : Int32)) (by decide) ?_
    obtain ⟨i1, h⟩ := h
    have h := h _ rfl
    refine mp_iast (dz dl_Mod_renew_0 26 38 (.iastore) 1 rfl) kd_83 rfl sm_83 i1 rfl ?_
    refine mp_iinc (i := 4) (v := l4 + 1) (dz dl_Mod_renew_0 27 39 (.iinc 4 (1)) 3 rfl) rfl (congrArg (fun z => l4 + z) (by decide)) [qr 1 (some 0), qi l1, qi l2, none, qi (l4 + 1)] (by decide) rfl ?_
    refine mp_goto (tgt := 15) (dz dl_Mod_renew_0 28 42 (.goto (-27)) 3 rfl) (by decide) ?_
    exact mp_cut h ⟨Or.inr rfl, Or.inr rfl, Or.inr rfl, Or.inl rfl, Or.inr rfl, trivial⟩

theorem mb_Mod_tell_0 {u : MS} {l1 : Int32} {l2 : Int32} {l3 : Int32} {l4 : Int32} {Z : MS → Prop} (h : mWP M_Mod_tell 3 [qr 1 (some 0), qi l1, qi l2, qi l3, qi l4, qi (0 : Int32)] [] u (mV Z)) : mWP M_Mod_tell 0 [qr 1 (some 0), qi l1, qi l2, qi l3, qi l4, none] [] u (mV Z) := by
  refine mp_iconst (dz dl_Mod_tell_0 0 0 (.iconst (0)) 1 rfl) (v := (0 : Int32)) (by decide) ?_
  refine mp_istore (i := 5) (dz dl_Mod_tell_0 1 1 (.istore 5) 2 rfl) [qr 1 (some 0), qi l1, qi l2, qi l3, qi l4, qi (0 : Int32)] (by decide) rfl ?_
  exact mp_cut h ⟨Or.inr rfl, Or.inr rfl, Or.inr rfl, Or.inr rfl, Or.inr rfl, Or.inr rfl, trivial⟩
theorem mt_Mod_tell {u : MS} {l1 : Int32} {l2 : Int32} {l3 : Int32} {l4 : Int32} {Z : MS → Prop} (h : mWP M_Mod_tell 3 [qr 1 (some 0), qi l1, qi l2, qi l3, qi l4, qi (0 : Int32)] [] u (mV Z)) : mMT M_Mod_tell [qr 1 (some 0), qi l1, qi l2, qi l3, qi l4] u (mV Z) := mb_Mod_tell_0 h

theorem mb_Mod_tell_3 {u : MS} {l1 : Int32} {l2 : Int32} {l3 : Int32} {l4 : Int32} {l5 : Int32} {Z : MS → Prop} (h : ((4 : Int32) ≤ l5 → Z u) ∧ (¬ (4 : Int32) ≤ l5 → (l5 = l2 → mWP M_Mod_tell 3 [qr 1 (some 0), qi l1, qi l2, qi l3, qi l4, qi (l5 + 1)] [] u (mV Z)) ∧ (¬ l5 = l2 → vp_in l3 50 ∧ vp_in (((50 : Int32) * l1) + l3) 250 ∧ mMT M_Mod_put [qr 1 (some 0), qi (((4 : Int32) * l1) + l5), qi (3 : Int32), qi (u 80 l3.toNatClampNeg), qi (u 81 l3.toNatClampNeg), qi (u 82 (((50 : Int32) * l1) + l3).toNatClampNeg), qi l4] u (mV fun u1 => mWP M_Mod_tell 3 [qr 1 (some 0), qi l1, qi l2, qi l3, qi l4, qi (l5 + 1)] [] u1 (mV Z))))) : mWP M_Mod_tell 3 [qr 1 (some 0), qi l1, qi l2, qi l3, qi l4, qi l5] [] u (mV Z) := by
  refine mp_iload (i := 5) (x := l5) (dz dl_Mod_tell_0 2 3 (.iload 5) 2 rfl) rfl ?_
  refine mp_iconst (dz dl_Mod_tell_0 3 5 (.iconst (4)) 1 rfl) (v := (4 : Int32)) (by decide) ?_
  refine mp_icmp_ge (tgt := 57) (dz dl_Mod_tell_0 4 6 (.if_icmp .ge (51)) 3 rfl) (by decide) (fun hc => ?_) (fun hc => ?_)
  · replace h := h.1 hc
    exact mp_rt none (rt_V rfl (dz dl_Mod_tell_0 35 57 (.return_) 1 rfl)) ⟨rfl, h⟩
  · replace h := h.2 hc
    refine mp_iload (i := 5) (x := l5) (dz dl_Mod_tell_0 5 9 (.iload 5) 2 rfl) rfl ?_
    refine mp_iload_n (i := 2) (x := l2) (dz dl_Mod_tell_0 6 11 (.iload_n 2) 1 rfl) rfl rfl ?_
    refine mp_icmp_eq (tgt := 51) (dz dl_Mod_tell_0 7 12 (.if_icmp .eq (39)) 3 rfl) (by decide) (fun hc => ?_) (fun hc => ?_)
    · replace h := h.1 hc
      refine mp_iinc (i := 5) (v := l5 + 1) (dz dl_Mod_tell_0 33 51 (.iinc 5 (1)) 3 rfl) rfl (congrArg (fun z => l5 + z) (by decide)) [qr 1 (some 0), qi l1, qi l2, qi l3, qi l4, qi (l5 + 1)] (by decide) rfl ?_
      refine mp_goto (tgt := 3) (dz dl_Mod_tell_0 34 54 (.goto (-51)) 3 rfl) (by decide) ?_
      exact mp_cut h ⟨Or.inr rfl, Or.inr rfl, Or.inr rfl, Or.inr rfl, Or.inr rfl, Or.inr rfl, trivial⟩
    · replace h := h.2 hc
      refine mp_aload_n (i := 0) (v := qr 1 (some 0)) (dz dl_Mod_tell_0 8 15 (.aload_n 0) 1 rfl) rfl rfl trivial ?_
      refine mp_iconst (dz dl_Mod_tell_0 9 16 (.iconst (4)) 1 rfl) (v := (4 : Int32)) (by decide) ?_
      refine mp_iload_n (i := 1) (x := l1) (dz dl_Mod_tell_0 10 17 (.iload_n 1) 1 rfl) rfl rfl ?_
      refine mp_imul (dz dl_Mod_tell_0 11 18 (.imul) 1 rfl) ?_
      refine mp_iload (i := 5) (x := l5) (dz dl_Mod_tell_0 12 19 (.iload 5) 2 rfl) rfl ?_
      refine mp_iadd (dz dl_Mod_tell_0 13 21 (.iadd) 1 rfl) ?_
      refine mp_iconst (dz dl_Mod_tell_0 14 22 (.iconst (3)) 1 rfl) (v := (3 : Int32)) (by decide) ?_
      refine mp_aload_n (i := 0) (v := qr 1 (some 0)) (dz dl_Mod_tell_0 15 23 (.aload_n 0) 1 rfl) rfl rfl trivial ?_
      refine mp_getA (dz dl_Mod_tell_0 16 24 (.getfield 43) 3 rfl) lk_Mod_43 (q := 0) kd_80 rfl sm_80 ?_
      refine mp_iload_n (i := 3) (x := l3) (dz dl_Mod_tell_0 17 27 (.iload_n 3) 1 rfl) rfl rfl ?_
      obtain ⟨i1, h⟩ := h
      refine mp_iald (dz dl_Mod_tell_0 18 28 (.iaload) 1 rfl) kd_80 rfl sm_80 i1 ?_
      refine mp_aload_n (i := 0) (v := qr 1 (some 0)) (dz dl_Mod_tell_0 19 29 (.aload_n 0) 1 rfl) rfl rfl trivial ?_
      refine mp_getA (dz dl_Mod_tell_0 20 30 (.getfield 46) 3 rfl) lk_Mod_46 (q := 0) kd_81 rfl sm_81 ?_
      refine mp_iload_n (i := 3) (x := l3) (dz dl_Mod_tell_0 21 33 (.iload_n 3) 1 rfl) rfl rfl ?_
      refine mp_iald (dz dl_Mod_tell_0 22 34 (.iaload) 1 rfl) kd_81 rfl sm_81 i1 ?_
      refine mp_aload_n (i := 0) (v := qr 1 (some 0)) (dz dl_Mod_tell_0 23 35 (.aload_n 0) 1 rfl) rfl rfl trivial ?_
      refine mp_getA (dz dl_Mod_tell_0 24 36 (.getfield 49) 3 rfl) lk_Mod_49 (q := 0) kd_82 rfl sm_82 ?_
      refine mp_bipush (dz dl_Mod_tell_0 25 39 (.bipush (50)) 2 rfl) (v := (50 : Int32)) (by decide) ?_
      refine mp_iload_n (i := 1) (x := l1) (dz dl_Mod_tell_0 26 41 (.iload_n 1) 1 rfl) rfl rfl ?_
      refine mp_imul (dz dl_Mod_tell_0 27 42 (.imul) 1 rfl) ?_
      refine mp_iload_n (i := 3) (x := l3) (dz dl_Mod_tell_0 28 43 (.iload_n 3) 1 rfl) rfl rfl ?_
      refine mp_iadd (dz dl_Mod_tell_0 29 44 (.iadd) 1 rfl) ?_
      obtain ⟨i2, h⟩ := h
      refine mp_iald (dz dl_Mod_tell_0 30 45 (.iaload) 1 rfl) kd_82 rfl sm_82 i2 ?_
      refine mp_iload (i := 4) (x := l4) (dz dl_Mod_tell_0 31 46 (.iload 4) 2 rfl) rfl ?_
      refine mp_callV [qi (((4 : Int32) * l1) + l5), qi (3 : Int32), qi (u 80 l3.toNatClampNeg), qi (u 81 l3.toNatClampNeg), qi (u 82 (((50 : Int32) * l1) + l3).toNatClampNeg), qi l4] [] (dz dl_Mod_tell_0 32 48 (.invokevirtual 216) 3 rfl) ok_Mod_put lm_Mod_216 ws_Mod_put wv_Mod_put ⟨Nat.le_of_ble_eq_true rfl, Nat.le_of_ble_eq_true rfl⟩ pn_Mod_put (Nat.le_of_ble_eq_true rfl) (Nat.le_of_ble_eq_true rfl) (Or.inl rfl) (mmono h ?_)
      rintro _ u1 ⟨rfl, h⟩
      show mWP _ _ _ [] _ _
      refine mp_iinc (i := 5) (v := l5 + 1) (dz dl_Mod_tell_0 33 51 (.iinc 5 (1)) 3 rfl) rfl (congrArg (fun z => l5 + z) (by decide)) [qr 1 (some 0), qi l1, qi l2, qi l3, qi l4, qi (l5 + 1)] (by decide) rfl ?_
      refine mp_goto (tgt := 3) (dz dl_Mod_tell_0 34 54 (.goto (-51)) 3 rfl) (by decide) ?_
      exact mp_cut h ⟨Or.inr rfl, Or.inr rfl, Or.inr rfl, Or.inr rfl, Or.inr rfl, Or.inr rfl, trivial⟩

theorem mb_Mod_announce_0 {u : MS} {l1 : Int32} {l2 : Int32} {l3 : Int32} {Z : Int32 → MS → Prop} (h : mMT M_Mod_isNode [qi l1] u (mI fun r1 u1 => (r1 = 0 → Z (-1 : Int32) u1) ∧ (¬ r1 = 0 → mMT M_Mod_isName [qr 1 (some 0), qi l2] u1 (mI fun r2 u2 => (¬ r2 = 0 → mMT M_Mod_route [qr 1 (some 0), qi l1, qi l2] u2 (mI fun r3 u3 => (¬ l3 = 0 → mWP M_Mod_announce 53 [qr 1 (some 0), qi l1, qi l2, qi l3, qi r3, qi (0 : Int32), qi (0 : Int32)] [] u3 (mI Z)) ∧ (l3 = 0 → (r3 < 0 → Z (-2 : Int32) u3) ∧ (¬ r3 < 0 → mMT M_Mod_least [qr 1 (some 0), qi l1, qi r3] u3 (mI fun r4 u4 => (¬ r4 = 0 → mWP M_Mod_announce 53 [qr 1 (some 0), qi l1, qi l2, qi l3, qi r3, qi (0 : Int32), qi (0 : Int32)] [] u4 (mI Z)) ∧ (r4 = 0 → Z (-2 : Int32) u4)))))) ∧ (r2 = 0 → Z (-1 : Int32) u2))))) : mWP M_Mod_announce 0 [qr 1 (some 0), qi l1, qi l2, qi l3, none, none, none] [] u (mI Z) := by
  refine mp_iload_n (i := 1) (x := l1) (dz dl_Mod_announce_0 0 0 (.iload_n 1) 1 rfl) rfl rfl ?_
  refine mp_callS [qi l1] [] (dz dl_Mod_announce_0 1 1 (.invokestatic 161) 3 rfl) ok_Mod_isNode lm_Mod_161 ws_Mod_isNode ⟨Nat.le_of_ble_eq_true rfl, Nat.le_of_ble_eq_true rfl⟩ pn_Mod_isNode (Nat.le_of_ble_eq_true rfl) (Nat.le_of_ble_eq_true rfl) (Or.inl rfl) (mmono h ?_)
  rintro _ u1 ⟨r1, rfl, h⟩
  show mWP _ _ _ [qi r1] _ _
  refine mp_if_eq (tgt := 15) (dz dl_Mod_announce_0 2 4 (.ifCond .eq (11)) 3 rfl) (by decide) (fun hc => ?_) (fun hc => ?_)
  · replace h := h.1 hc
    refine mp_iconst (dz dl_Mod_announce_0 7 15 (.iconst (-1)) 1 rfl) (v := (-1 : Int32)) (by decide) ?_
    exact mp_rt (qi _) (rt_I rfl (dz dl_Mod_announce_0 8 16 (.ireturn) 1 rfl)) ⟨_, rfl, h⟩
  · replace h := h.2 hc
    refine mp_aload_n (i := 0) (v := qr 1 (some 0)) (dz dl_Mod_announce_0 3 7 (.aload_n 0) 1 rfl) rfl rfl trivial ?_
    refine mp_iload_n (i := 2) (x := l2) (dz dl_Mod_announce_0 4 8 (.iload_n 2) 1 rfl) rfl rfl ?_
    refine mp_callV [qi l2] [] (dz dl_Mod_announce_0 5 9 (.invokevirtual 222) 3 rfl) ok_Mod_isName lm_Mod_222 ws_Mod_isName wv_Mod_isName ⟨Nat.le_of_ble_eq_true rfl, Nat.le_of_ble_eq_true rfl⟩ pn_Mod_isName (Nat.le_of_ble_eq_true rfl) (Nat.le_of_ble_eq_true rfl) (Or.inl rfl) (mmono h ?_)
    rintro _ u2 ⟨r2, rfl, h⟩
    show mWP _ _ _ [qi r2] _ _
    refine mp_if_ne (tgt := 17) (dz dl_Mod_announce_0 6 12 (.ifCond .ne (5)) 3 rfl) (by decide) (fun hc => ?_) (fun hc => ?_)
    · replace h := h.1 hc
      refine mp_aload_n (i := 0) (v := qr 1 (some 0)) (dz dl_Mod_announce_0 9 17 (.aload_n 0) 1 rfl) rfl rfl trivial ?_
      refine mp_iload_n (i := 1) (x := l1) (dz dl_Mod_announce_0 10 18 (.iload_n 1) 1 rfl) rfl rfl ?_
      refine mp_iload_n (i := 2) (x := l2) (dz dl_Mod_announce_0 11 19 (.iload_n 2) 1 rfl) rfl rfl ?_
      refine mp_callV [qi l1, qi l2] [] (dz dl_Mod_announce_0 12 20 (.invokevirtual 225) 3 rfl) ok_Mod_route lm_Mod_225 ws_Mod_route wv_Mod_route ⟨Nat.le_of_ble_eq_true rfl, Nat.le_of_ble_eq_true rfl⟩ pn_Mod_route (Nat.le_of_ble_eq_true rfl) (Nat.le_of_ble_eq_true rfl) (Or.inl rfl) (mmono h ?_)
      rintro _ u3 ⟨r3, rfl, h⟩
      show mWP _ _ _ [qi r3] _ _
      refine mp_istore (i := 4) (dz dl_Mod_announce_0 13 23 (.istore 4) 2 rfl) [qr 1 (some 0), qi l1, qi l2, qi l3, qi r3, none, none] (by decide) rfl ?_
      refine mp_iload_n (i := 3) (x := l3) (dz dl_Mod_announce_0 14 25 (.iload_n 3) 1 rfl) rfl rfl ?_
      refine mp_if_ne (tgt := 47) (dz dl_Mod_announce_0 15 26 (.ifCond .ne (21)) 3 rfl) (by decide) (fun hc => ?_) (fun hc => ?_)
      · replace h := h.1 hc
        refine mp_iconst (dz dl_Mod_announce_0 25 47 (.iconst (0)) 1 rfl) (v := (0 : Int32)) (by decide) ?_
        refine mp_istore (i := 5) (dz dl_Mod_announce_0 26 48 (.istore 5) 2 rfl) [qr 1 (some 0), qi l1, qi l2, qi l3, qi r3, qi (0 : Int32), none] (by decide) rfl ?_
        refine mp_iconst (dz dl_Mod_announce_0 27 50 (.iconst (0)) 1 rfl) (v := (0 : Int32)) (by decide) ?_
        refine mp_istore (i := 6) (dz dl_Mod_announce_0 28 51 (.istore 6) 2 rfl) [qr 1 (some 0), qi l1, qi l2, qi l3, qi r3, qi (0 : Int32), qi (0 : Int32)] (by decide) rfl ?_
        exact mp_cut h ⟨Or.inr rfl, Or.inr rfl, Or.inr rfl, Or.inr rfl, Or.inr rfl, Or.inr rfl, Or.inr rfl, trivial⟩
      · replace h := h.2 hc
        refine mp_iload (i := 4) (x := r3) (dz dl_Mod_announce_0 16 29 (.iload 4) 2 rfl) rfl ?_
        refine mp_if_lt (tgt := 44) (dz dl_Mod_announce_0 17 31 (.ifCond .lt (13)) 3 rfl) (by decide) (fun hc => ?_) (fun hc => ?_)
        · replace h := h.1 hc
          refine mp_bipush (dz dl_Mod_announce_0 23 44 (.bipush (-2)) 2 rfl) (v := (-2 : Int32)) (by decide) ?_
          exact mp_rt (qi _) (rt_I rfl (dz dl_Mod_announce_0 24 46 (.ireturn) 1 rfl)) ⟨_, rfl, h⟩
        · replace h := h.2 hc
          refine mp_aload_n (i := 0) (v := qr 1 (some 0)) (dz dl_Mod_announce_0 18 34 (.aload_n 0) 1 rfl) rfl rfl trivial ?_
          refine mp_iload_n (i := 1) (x := l1) (dz dl_Mod_announce_0 19 35 (.iload_n 1) 1 rfl) rfl rfl ?_
          refine mp_iload (i := 4) (x := r3) (dz dl_Mod_announce_0 20 36 (.iload 4) 2 rfl) rfl ?_
          refine mp_callV [qi l1, qi r3] [] (dz dl_Mod_announce_0 21 38 (.invokevirtual 229) 3 rfl) ok_Mod_least lm_Mod_229 ws_Mod_least wv_Mod_least ⟨Nat.le_of_ble_eq_true rfl, Nat.le_of_ble_eq_true rfl⟩ pn_Mod_least (Nat.le_of_ble_eq_true rfl) (Nat.le_of_ble_eq_true rfl) (Or.inl rfl) (mmono h ?_)
          rintro _ u4 ⟨r4, rfl, h⟩
          show mWP _ _ _ [qi r4] _ _
          refine mp_if_ne (tgt := 47) (dz dl_Mod_announce_0 22 41 (.ifCond .ne (6)) 3 rfl) (by decide) (fun hc => ?_) (fun hc => ?_)
          · replace h := h.1 hc
            refine mp_iconst (dz dl_Mod_announce_0 25 47 (.iconst (0)) 1 rfl) (v := (0 : Int32)) (by decide) ?_
            refine mp_istore (i := 5) (dz dl_Mod_announce_0 26 48 (.istore 5) 2 rfl) [qr 1 (some 0), qi l1, qi l2, qi l3, qi r3, qi (0 : Int32), none] (by decide) rfl ?_
            refine mp_iconst (dz dl_Mod_announce_0 27 50 (.iconst (0)) 1 rfl) (v := (0 : Int32)) (by decide) ?_
            refine mp_istore (i := 6) (dz dl_Mod_announce_0 28 51 (.istore 6) 2 rfl) [qr 1 (some 0), qi l1, qi l2, qi l3, qi r3, qi (0 : Int32), qi (0 : Int32)] (by decide) rfl ?_
            exact mp_cut h ⟨Or.inr rfl, Or.inr rfl, Or.inr rfl, Or.inr rfl, Or.inr rfl, Or.inr rfl, Or.inr rfl, trivial⟩
          · replace h := h.2 hc
            refine mp_bipush (dz dl_Mod_announce_0 23 44 (.bipush (-2)) 2 rfl) (v := (-2 : Int32)) (by decide) ?_
            exact mp_rt (qi _) (rt_I rfl (dz dl_Mod_announce_0 24 46 (.ireturn) 1 rfl)) ⟨_, rfl, h⟩
    · replace h := h.2 hc
      refine mp_iconst (dz dl_Mod_announce_0 7 15 (.iconst (-1)) 1 rfl) (v := (-1 : Int32)) (by decide) ?_
      exact mp_rt (qi _) (rt_I rfl (dz dl_Mod_announce_0 8 16 (.ireturn) 1 rfl)) ⟨_, rfl, h⟩
theorem mt_Mod_announce {u : MS} {l1 : Int32} {l2 : Int32} {l3 : Int32} {Z : Int32 → MS → Prop} (h : mMT M_Mod_isNode [qi l1] u (mI fun r1 u1 => (r1 = 0 → Z (-1 : Int32) u1) ∧ (¬ r1 = 0 → mMT M_Mod_isName [qr 1 (some 0), qi l2] u1 (mI fun r2 u2 => (¬ r2 = 0 → mMT M_Mod_route [qr 1 (some 0), qi l1, qi l2] u2 (mI fun r3 u3 => (¬ l3 = 0 → mWP M_Mod_announce 53 [qr 1 (some 0), qi l1, qi l2, qi l3, qi r3, qi (0 : Int32), qi (0 : Int32)] [] u3 (mI Z)) ∧ (l3 = 0 → (r3 < 0 → Z (-2 : Int32) u3) ∧ (¬ r3 < 0 → mMT M_Mod_least [qr 1 (some 0), qi l1, qi r3] u3 (mI fun r4 u4 => (¬ r4 = 0 → mWP M_Mod_announce 53 [qr 1 (some 0), qi l1, qi l2, qi l3, qi r3, qi (0 : Int32), qi (0 : Int32)] [] u4 (mI Z)) ∧ (r4 = 0 → Z (-2 : Int32) u4)))))) ∧ (r2 = 0 → Z (-1 : Int32) u2))))) : mMT M_Mod_announce [qr 1 (some 0), qi l1, qi l2, qi l3] u (mI Z) := mb_Mod_announce_0 h

theorem mb_Mod_announce_53 {u : MS} {l1 : Int32} {l2 : Int32} {l3 : Int32} {l4 : Int32} {l5 : Int32} {l6 : Int32} {Z : Int32 → MS → Prop} (h : ((u 79 0) ≤ l6 → (0 ≤ l4 → (0 ≤ l4 → mWP M_Mod_announce 142 [qr 1 (some 0), qi l1, none, qi l3, qi l4, none, none] [] u (mI Z)) ∧ (¬ 0 ≤ l4 → vp_in (u 79 0) 50 ∧ ∀ u1, u1 = mu u 80 (u 79 0).toNatClampNeg l1 → ∀ u2, u2 = mu u1 81 (u 79 0).toNatClampNeg l2 → ∀ u3, u3 = mu u2 79 0 ((u2 79 0) + (1 : Int32)) → mWP M_Mod_announce 142 [qr 1 (some 0), qi l1, none, qi l3, qi (u 79 0), none, none] [] u3 (mI Z))) ∧ (¬ 0 ≤ l4 → (¬ l5 = (10 : Int32) → (0 ≤ l4 → mWP M_Mod_announce 142 [qr 1 (some 0), qi l1, none, qi l3, qi l4, none, none] [] u (mI Z)) ∧ (¬ 0 ≤ l4 → vp_in (u 79 0) 50 ∧ ∀ u4, u4 = mu u 80 (u 79 0).toNatClampNeg l1 → ∀ u5, u5 = mu u4 81 (u 79 0).toNatClampNeg l2 → ∀ u6, u6 = mu u5 79 0 ((u5 79 0) + (1 : Int32)) → mWP M_Mod_announce 142 [qr 1 (some 0), qi l1, none, qi l3, qi (u 79 0), none, none] [] u6 (mI Z))) ∧ (l5 = (10 : Int32) → Z (-3 : Int32) u))) ∧ (¬ (u 79 0) ≤ l6 → vp_in l6 50 ∧ (¬ (u 80 l6.toNatClampNeg) = l1 → mWP M_Mod_announce 53 [qr 1 (some 0), qi l1, qi l2, qi l3, qi l4, qi l5, qi (l6 + 1)] [] u (mI Z)) ∧ ((u 80 l6.toNatClampNeg) = l1 → mWP M_Mod_announce 53 [qr 1 (some 0), qi l1, qi l2, qi l3, qi l4, qi (l5 + (1 : Int32)), qi (l6 + 1)] [] u (mI Z)))) : mWP M_Mod_announce 53 [qr 1 (some 0), qi l1, qi l2, qi l3, qi l4, qi l5, qi l6] [] u (mI Z) := by
  refine mp_iload (i := 6) (x := l6) (dz dl_Mod_announce_0 29 53 (.iload 6) 2 rfl) rfl ?_
  refine mp_aload_n (i := 0) (v := qr 1 (some 0)) (dz dl_Mod_announce_0 30 55 (.aload_n 0) 1 rfl) rfl rfl trivial ?_
  refine mp_getI (dz dl_Mod_announce_0 31 56 (.getfield 219) 3 rfl) lk_Mod_219 kd_79 rfl ?_
  refine mp_icmp_ge (tgt := 90) (dz dl_Mod_announce_0 32 59 (.if_icmp .ge (31)) 3 rfl) (by decide) (fun hc => ?_) (fun hc => ?_)
  · replace h := h.1 hc
    refine mp_iload (i := 4) (x := l4) (dz dl_Mod_announce_1 7 90 (.iload 4) 2 rfl) rfl ?_
    refine mp_if_ge (tgt := 105) (dz dl_Mod_announce_1 8 92 (.ifCond .ge (13)) 3 rfl) (by decide) (fun hc => ?_) (fun hc => ?_)
    · replace h := h.1 hc
      refine mp_iload (i := 4) (x := l4) (dz dl_Mod_announce_1 14 105 (.iload 4) 2 rfl) rfl ?_
      refine mp_if_ge (tgt := 142) (dz dl_Mod_announce_1 15 107 (.ifCond .ge (35)) 3 rfl) (by decide) (fun hc => ?_) (fun hc => ?_)
      · replace h := h.1 hc
        exact mp_cut h ⟨Or.inr rfl, Or.inr rfl, Or.inl rfl, Or.inr rfl, Or.inr rfl, Or.inl rfl, Or.inl rfl, trivial⟩
      · replace h := h.2 hc
        refine mp_aload_n (i := 0) (v := qr 1 (some 0)) (dz dl_Mod_announce_1 16 110 (.aload_n 0) 1 rfl) rfl rfl trivial ?_
        refine mp_getI (dz dl_Mod_announce_1 17 111 (.getfield 219) 3 rfl) lk_Mod_219 kd_79 rfl ?_
        refine mp_istore (i := 4) (dz dl_Mod_announce_1 18 114 (.istore 4) 2 rfl) [qr 1 (some 0), qi l1, qi l2, qi l3, qi (u 79 0), qi l5, qi l6] (by decide) rfl ?_
        refine mp_aload_n (i := 0) (v := qr 1 (some 0)) (dz dl_Mod_announce_1 19 116 (.aload_n 0) 1 rfl) rfl rfl trivial ?_
        refine mp_getA (dz dl_Mod_announce_1 20 117 (.getfield 43) 3 rfl) lk_Mod_43 (q := 0) kd_80 rfl sm_80 ?_
        refine mp_iload (i := 4) (x := u 79 0) (dz dl_Mod_announce_1 21 120 (.iload 4) 2 rfl) rfl ?_
        refine mp_iload_n (i := 1) (x := l1) (dz dl_Mod_announce_1 22 122 (.iload_n 1) 1 rfl) rfl rfl ?_
        obtain ⟨i1, h⟩ := h
        have h := h _ rfl
        refine mp_iast (dz dl_Mod_announce_1 23 123 (.iastore) 1 rfl) kd_80 rfl sm_80 i1 rfl ?_
        refine mp_aload_n (i := 0) (v := qr 1 (some 0)) (dz dl_Mod_announce_1 24 124 (.aload_n 0) 1 rfl) rfl rfl trivial ?_
        refine mp_getA (dz dl_Mod_announce_1 25 125 (.getfield 46) 3 rfl) lk_Mod_46 (q := 0) kd_81 rfl sm_81 ?_
        refine mp_iload (i := 4) (x := u 79 0) (dz dl_Mod_announce_1 26 128 (.iload 4) 2 rfl) rfl ?_
        refine mp_iload_n (i := 2) (x := l2) (dz dl_Mod_announce_1 27 130 (.iload_n 2) 1 rfl) rfl rfl ?_
        have h := h _ rfl
        refine mp_iast (dz dl_Mod_announce_1 28 131 (.iastore) 1 rfl) kd_81 rfl sm_81 i1 rfl ?_
        refine mp_aload_n (i := 0) (v := qr 1 (some 0)) (dz dl_Mod_announce_1 29 132 (.aload_n 0) 1 rfl) rfl rfl trivial ?_
        refine mp_dup (dz dl_Mod_announce_1 30 133 (.dup) 1 rfl) ?_
        refine mp_getI (dz dl_Mod_announce_1 31 134 (.getfield 219) 3 rfl) lk_Mod_219 kd_79 rfl ?_
        refine mp_iconst (dz dl_Mod_announce_1 32 137 (.iconst (1)) 1 rfl) (v := (1 : Int32)) (by decide) ?_
        refine mp_iadd (dz dl_Mod_announce_1 33 138 (.iadd) 1 rfl) ?_
        have h := h _ rfl
        refine mp_putI (dz dl_Mod_announce_1 34 139 (.putfield 219) 3 rfl) lk_Mod_219 kd_79 rfl rfl (okI_0 _) rfl ?_
        exact mp_cut h ⟨Or.inr rfl, Or.inr rfl, Or.inl rfl, Or.inr rfl, Or.inr rfl, Or.inl rfl, Or.inl rfl, trivial⟩
    · replace h := h.2 hc
      refine mp_iload (i := 5) (x := l5) (dz dl_Mod_announce_1 9 95 (.iload 5) 2 rfl) rfl ?_
      refine mp_bipush (dz dl_Mod_announce_1 10 97 (.bipush (10)) 2 rfl) (v := (10 : Int32)) (by decide) ?_
      refine mp_icmp_ne (tgt := 105) (dz dl_Mod_announce_1 11 99 (.if_icmp .ne (6)) 3 rfl) (by decide) (fun hc => ?_) (fun hc => ?_)
      · replace h := h.1 hc
        refine mp_iload (i := 4) (x := l4) (dz dl_Mod_announce_1 14 105 (.iload 4) 2 rfl) rfl ?_
        refine mp_if_ge (tgt := 142) (dz dl_Mod_announce_1 15 107 (.ifCond .ge (35)) 3 rfl) (by decide) (fun hc => ?_) (fun hc => ?_)
        · replace h := h.1 hc
          exact mp_cut h ⟨Or.inr rfl, Or.inr rfl, Or.inl rfl, Or.inr rfl, Or.inr rfl, Or.inl rfl, Or.inl rfl, trivial⟩
        · replace h := h.2 hc
          refine mp_aload_n (i := 0) (v := qr 1 (some 0)) (dz dl_Mod_announce_1 16 110 (.aload_n 0) 1 rfl) rfl rfl trivial ?_
          refine mp_getI (dz dl_Mod_announce_1 17 111 (.getfield 219) 3 rfl) lk_Mod_219 kd_79 rfl ?_
          refine mp_istore (i := 4) (dz dl_Mod_announce_1 18 114 (.istore 4) 2 rfl) [qr 1 (some 0), qi l1, qi l2, qi l3, qi (u 79 0), qi l5, qi l6] (by decide) rfl ?_
          refine mp_aload_n (i := 0) (v := qr 1 (some 0)) (dz dl_Mod_announce_1 19 116 (.aload_n 0) 1 rfl) rfl rfl trivial ?_
          refine mp_getA (dz dl_Mod_announce_1 20 117 (.getfield 43) 3 rfl) lk_Mod_43 (q := 0) kd_80 rfl sm_80 ?_
          refine mp_iload (i := 4) (x := u 79 0) (dz dl_Mod_announce_1 21 120 (.iload 4) 2 rfl) rfl ?_
          refine mp_iload_n (i := 1) (x := l1) (dz dl_Mod_announce_1 22 122 (.iload_n 1) 1 rfl) rfl rfl ?_
          obtain ⟨i2, h⟩ := h
          have h := h _ rfl
          refine mp_iast (dz dl_Mod_announce_1 23 123 (.iastore) 1 rfl) kd_80 rfl sm_80 i2 rfl ?_
          refine mp_aload_n (i := 0) (v := qr 1 (some 0)) (dz dl_Mod_announce_1 24 124 (.aload_n 0) 1 rfl) rfl rfl trivial ?_
          refine mp_getA (dz dl_Mod_announce_1 25 125 (.getfield 46) 3 rfl) lk_Mod_46 (q := 0) kd_81 rfl sm_81 ?_
          refine mp_iload (i := 4) (x := u 79 0) (dz dl_Mod_announce_1 26 128 (.iload 4) 2 rfl) rfl ?_
          refine mp_iload_n (i := 2) (x := l2) (dz dl_Mod_announce_1 27 130 (.iload_n 2) 1 rfl) rfl rfl ?_
          have h := h _ rfl
          refine mp_iast (dz dl_Mod_announce_1 28 131 (.iastore) 1 rfl) kd_81 rfl sm_81 i2 rfl ?_
          refine mp_aload_n (i := 0) (v := qr 1 (some 0)) (dz dl_Mod_announce_1 29 132 (.aload_n 0) 1 rfl) rfl rfl trivial ?_
          refine mp_dup (dz dl_Mod_announce_1 30 133 (.dup) 1 rfl) ?_
          refine mp_getI (dz dl_Mod_announce_1 31 134 (.getfield 219) 3 rfl) lk_Mod_219 kd_79 rfl ?_
          refine mp_iconst (dz dl_Mod_announce_1 32 137 (.iconst (1)) 1 rfl) (v := (1 : Int32)) (by decide) ?_
          refine mp_iadd (dz dl_Mod_announce_1 33 138 (.iadd) 1 rfl) ?_
          have h := h _ rfl
          refine mp_putI (dz dl_Mod_announce_1 34 139 (.putfield 219) 3 rfl) lk_Mod_219 kd_79 rfl rfl (okI_0 _) rfl ?_
          exact mp_cut h ⟨Or.inr rfl, Or.inr rfl, Or.inl rfl, Or.inr rfl, Or.inr rfl, Or.inl rfl, Or.inl rfl, trivial⟩
      · replace h := h.2 hc
        refine mp_bipush (dz dl_Mod_announce_1 12 102 (.bipush (-3)) 2 rfl) (v := (-3 : Int32)) (by decide) ?_
        exact mp_rt (qi _) (rt_I rfl (dz dl_Mod_announce_1 13 104 (.ireturn) 1 rfl)) ⟨_, rfl, h⟩
  · replace h := h.2 hc
    refine mp_aload_n (i := 0) (v := qr 1 (some 0)) (dz dl_Mod_announce_0 33 62 (.aload_n 0) 1 rfl) rfl rfl trivial ?_
    refine mp_getA (dz dl_Mod_announce_0 34 63 (.getfield 43) 3 rfl) lk_Mod_43 (q := 0) kd_80 rfl sm_80 ?_
    refine mp_iload (i := 6) (x := l6) (dz dl_Mod_announce_0 35 66 (.iload 6) 2 rfl) rfl ?_
    obtain ⟨i3, h⟩ := h
    refine mp_iald (dz dl_Mod_announce_0 36 68 (.iaload) 1 rfl) kd_80 rfl sm_80 i3 ?_
    refine mp_iload_n (i := 1) (x := l1) (dz dl_Mod_announce_0 37 69 (.iload_n 1) 1 rfl) rfl rfl ?_
    refine mp_icmp_ne (tgt := 80) (dz dl_Mod_announce_0 38 70 (.if_icmp .ne (10)) 3 rfl) (by decide) (fun hc => ?_) (fun hc => ?_)
    · replace h := h.1 hc
      refine mp_iload (i := 5) (x := l5) (dz dl_Mod_announce_1 3 80 (.iload 5) 2 rfl) rfl ?_
      refine mp_istore (i := 5) (dz dl_Mod_announce_1 4 82 (.istore 5) 2 rfl) [qr 1 (some 0), qi l1, qi l2, qi l3, qi l4, qi l5, qi l6] (by decide) rfl ?_
      refine mp_iinc (i := 6) (v := l6 + 1) (dz dl_Mod_announce_1 5 84 (.iinc 6 (1)) 3 rfl) rfl (congrArg (fun z => l6 + z) (by decide)) [qr 1 (some 0), qi l1, qi l2, qi l3, qi l4, qi l5, qi (l6 + 1)] (by decide) rfl ?_
      refine mp_goto (tgt := 53) (dz dl_Mod_announce_1 6 87 (.goto (-34)) 3 rfl) (by decide) ?_
      exact mp_cut h ⟨Or.inr rfl, Or.inr rfl, Or.inr rfl, Or.inr rfl, Or.inr rfl, Or.inr rfl, Or.inr rfl, trivial⟩
    · replace h := h.2 hc
      refine mp_iload (i := 5) (x := l5) (dz dl_Mod_announce_0 39 73 (.iload 5) 2 rfl) rfl ?_
      refine mp_iconst (dz dl_Mod_announce_1 0 75 (.iconst (1)) 1 rfl) (v := (1 : Int32)) (by decide) ?_
      refine mp_iadd (dz dl_Mod_announce_1 1 76 (.iadd) 1 rfl) ?_
      refine mp_goto (tgt := 82) (dz dl_Mod_announce_1 2 77 (.goto (5)) 3 rfl) (by decide) ?_
      refine mp_istore (i := 5) (dz dl_Mod_announce_1 4 82 (.istore 5) 2 rfl) [qr 1 (some 0), qi l1, qi l2, qi l3, qi l4, qi (l5 + (1 : Int32)), qi l6] (by decide) rfl ?_
      refine mp_iinc (i := 6) (v := l6 + 1) (dz dl_Mod_announce_1 5 84 (.iinc 6 (1)) 3 rfl) rfl (congrArg (fun z => l6 + z) (by decide)) [qr 1 (some 0), qi l1, qi l2, qi l3, qi l4, qi (l5 + (1 : Int32)), qi (l6 + 1)] (by decide) rfl ?_
      refine mp_goto (tgt := 53) (dz dl_Mod_announce_1 6 87 (.goto (-34)) 3 rfl) (by decide) ?_
      exact mp_cut h ⟨Or.inr rfl, Or.inr rfl, Or.inr rfl, Or.inr rfl, Or.inr rfl, Or.inr rfl, Or.inr rfl, trivial⟩

theorem mb_Mod_announce_142 {u : MS} {l1 : Int32} {l3 : Int32} {l4 : Int32} {Z : Int32 → MS → Prop} (h : vp_in (((50 : Int32) * l1) + l4) 250 ∧ mMT M_Mod_renew [qr 1 (some 0), qi l1, qi l4, qi ((u 82 (((50 : Int32) * l1) + l4).toNatClampNeg) + (1 : Int32))] u (mV fun u1 => (l3 = 0 → vp_in ((((250 : Int32) * l1) + ((5 : Int32) * l4)) + (4 : Int32)) 1250 ∧ ∀ u2, u2 = mu u1 83 ((((250 : Int32) * l1) + ((5 : Int32) * l4)) + (4 : Int32)).toNatClampNeg (0 : Int32) → (l3 = 0 → mMT M_Mod_tell [qr 1 (some 0), qi l1, qi (4 : Int32), qi l4, qi (99 : Int32)] u2 (mV fun u3 => Z (u3 82 (((50 : Int32) * l1) + l4).toNatClampNeg) u3)) ∧ (¬ l3 = 0 → mMT M_Mod_tell [qr 1 (some 0), qi l1, qi (4 : Int32), qi l4, qi (1 : Int32)] u2 (mV fun u4 => Z (u4 82 (((50 : Int32) * l1) + l4).toNatClampNeg) u4))) ∧ (¬ l3 = 0 → vp_in ((((250 : Int32) * l1) + ((5 : Int32) * l4)) + (4 : Int32)) 1250 ∧ ∀ u5, u5 = mu u1 83 ((((250 : Int32) * l1) + ((5 : Int32) * l4)) + (4 : Int32)).toNatClampNeg (1 : Int32) → (l3 = 0 → mMT M_Mod_tell [qr 1 (some 0), qi l1, qi (4 : Int32), qi l4, qi (99 : Int32)] u5 (mV fun u6 => Z (u6 82 (((50 : Int32) * l1) + l4).toNatClampNeg) u6)) ∧ (¬ l3 = 0 → mMT M_Mod_tell [qr 1 (some 0), qi l1, qi (4 : Int32), qi l4, qi (1 : Int32)] u5 (mV fun u7 => Z (u7 82 (((50 : Int32) * l1) + l4).toNatClampNeg) u7))))) : mWP M_Mod_announce 142 [qr 1 (some 0), qi l1, none, qi l3, qi l4, none, none] [] u (mI Z) := by
  refine mp_aload_n (i := 0) (v := qr 1 (some 0)) (dz dl_Mod_announce_1 35 142 (.aload_n 0) 1 rfl) rfl rfl trivial ?_
  refine mp_iload_n (i := 1) (x := l1) (dz dl_Mod_announce_1 36 143 (.iload_n 1) 1 rfl) rfl rfl ?_
  refine mp_iload (i := 4) (x := l4) (dz dl_Mod_announce_1 37 144 (.iload 4) 2 rfl) rfl ?_
  refine mp_aload_n (i := 0) (v := qr 1 (some 0)) (dz dl_Mod_announce_1 38 146 (.aload_n 0) 1 rfl) rfl rfl trivial ?_
  refine mp_getA (dz dl_Mod_announce_1 39 147 (.getfield 49) 3 rfl) lk_Mod_49 (q := 0) kd_82 rfl sm_82 ?_
  refine mp_bipush (dz dl_Mod_announce_2 0 150 (.bipush (50)) 2 rfl) (v := (50 : Int32)) (by decide) ?_
  refine mp_iload_n (i := 1) (x := l1) (dz dl_Mod_announce_2 1 152 (.iload_n 1) 1 rfl) rfl rfl ?_
  refine mp_imul (dz dl_Mod_announce_2 2 153 (.imul) 1 rfl) ?_
  refine mp_iload (i := 4) (x := l4) (dz dl_Mod_announce_2 3 154 (.iload 4) 2 rfl) rfl ?_
  refine mp_iadd (dz dl_Mod_announce_2 4 156 (.iadd) 1 rfl) ?_
  obtain ⟨i1, h⟩ := h
  refine mp_iald (dz dl_Mod_announce_2 5 157 (.iaload) 1 rfl) kd_82 rfl sm_82 i1 ?_
  refine mp_iconst (dz dl_Mod_announce_2 6 158 (.iconst (1)) 1 rfl) (v := (1 : Int32)) (by decide) ?_
  refine mp_iadd (dz dl_Mod_announce_2 7 159 (.iadd) 1 rfl) ?_
  refine mp_callV [qi l1, qi l4, qi ((u 82 (((50 : Int32) * l1) + l4).toNatClampNeg) + (1 : Int32))] [] (dz dl_Mod_announce_2 8 160 (.invokevirtual 232) 3 rfl) ok_Mod_renew lm_Mod_232 ws_Mod_renew wv_Mod_renew ⟨Nat.le_of_ble_eq_true rfl, Nat.le_of_ble_eq_true rfl⟩ pn_Mod_renew (Nat.le_of_ble_eq_true rfl) (Nat.le_of_ble_eq_true rfl) (Or.inl rfl) (mmono h ?_)
  rintro _ u1 ⟨rfl, h⟩
  show mWP _ _ _ [] _ _
  refine mp_aload_n (i := 0) (v := qr 1 (some 0)) (dz dl_Mod_announce_2 9 163 (.aload_n 0) 1 rfl) rfl rfl trivial ?_
  refine mp_getA (dz dl_Mod_announce_2 10 164 (.getfield 52) 3 rfl) lk_Mod_52 (q := 0) kd_83 rfl sm_83 ?_
  refine mp_sipush (dz dl_Mod_announce_2 11 167 (.sipush (250)) 3 rfl) (v := (250 : Int32)) (by decide) ?_
  refine mp_iload_n (i := 1) (x := l1) (dz dl_Mod_announce_2 12 170 (.iload_n 1) 1 rfl) rfl rfl ?_
  refine mp_imul (dz dl_Mod_announce_2 13 171 (.imul) 1 rfl) ?_
  refine mp_iconst (dz dl_Mod_announce_2 14 172 (.iconst (5)) 1 rfl) (v := (5 : Int32)) (by decide) ?_
  refine mp_iload (i := 4) (x := l4) (dz dl_Mod_announce_2 15 173 (.iload 4) 2 rfl) rfl ?_
  refine mp_imul (dz dl_Mod_announce_2 16 175 (.imul) 1 rfl) ?_
  refine mp_iadd (dz dl_Mod_announce_2 17 176 (.iadd) 1 rfl) ?_
  refine mp_iconst (dz dl_Mod_announce_2 18 177 (.iconst (4)) 1 rfl) (v := (4 : Int32)) (by decide) ?_
  refine mp_iadd (dz dl_Mod_announce_2 19 178 (.iadd) 1 rfl) ?_
  refine mp_iload_n (i := 3) (x := l3) (dz dl_Mod_announce_2 20 179 (.iload_n 3) 1 rfl) rfl rfl ?_
  refine mp_if_eq (tgt := 187) (dz dl_Mod_announce_2 21 180 (.ifCond .eq (7)) 3 rfl) (by decide) (fun hc => ?_) (fun hc => ?_)
  · replace h := h.1 hc
    refine mp_iconst (dz dl_Mod_announce_2 24 187 (.iconst (0)) 1 rfl) (v := (0 : Int32)) (by decide) ?_
    obtain ⟨i2, h⟩ := h
    have h := h _ rfl
    refine mp_iast (dz dl_Mod_announce_2 25 188 (.iastore) 1 rfl) kd_83 rfl sm_83 i2 rfl ?_
    refine mp_aload_n (i := 0) (v := qr 1 (some 0)) (dz dl_Mod_announce_2 26 189 (.aload_n 0) 1 rfl) rfl rfl trivial ?_
    refine mp_iload_n (i := 1) (x := l1) (dz dl_Mod_announce_2 27 190 (.iload_n 1) 1 rfl) rfl rfl ?_
    refine mp_iconst (dz dl_Mod_announce_2 28 191 (.iconst (4)) 1 rfl) (v := (4 : Int32)) (by decide) ?_
    refine mp_iload (i := 4) (x := l4) (dz dl_Mod_announce_2 29 192 (.iload 4) 2 rfl) rfl ?_
    refine mp_iload_n (i := 3) (x := l3) (dz dl_Mod_announce_2 30 194 (.iload_n 3) 1 rfl) rfl rfl ?_
    refine mp_if_eq (tgt := 202) (dz dl_Mod_announce_2 31 195 (.ifCond .eq (7)) 3 rfl) (by decide) (fun hc => ?_) (fun hc => ?_)
    · replace h := h.1 hc
      refine mp_bipush (dz dl_Mod_announce_2 34 202 (.bipush (99)) 2 rfl) (v := (99 : Int32)) (by decide) ?_
      refine mp_callV [qi l1, qi (4 : Int32), qi l4, qi (99 : Int32)] [] (dz dl_Mod_announce_2 35 204 (.invokevirtual 236) 3 rfl) ok_Mod_tell lm_Mod_236 ws_Mod_tell wv_Mod_tell ⟨Nat.le_of_ble_eq_true rfl, Nat.le_of_ble_eq_true rfl⟩ pn_Mod_tell (Nat.le_of_ble_eq_true rfl) (Nat.le_of_ble_eq_true rfl) (Or.inl rfl) (mmono h ?_)
      rintro _ u3 ⟨rfl, h⟩
      show mWP _ _ _ [] _ _
      refine mp_aload_n (i := 0) (v := qr 1 (some 0)) (dz dl_Mod_announce_2 36 207 (.aload_n 0) 1 rfl) rfl rfl trivial ?_
      refine mp_getA (dz dl_Mod_announce_2 37 208 (.getfield 49) 3 rfl) lk_Mod_49 (q := 0) kd_82 rfl sm_82 ?_
      refine mp_bipush (dz dl_Mod_announce_2 38 211 (.bipush (50)) 2 rfl) (v := (50 : Int32)) (by decide) ?_
      refine mp_iload_n (i := 1) (x := l1) (dz dl_Mod_announce_2 39 213 (.iload_n 1) 1 rfl) rfl rfl ?_
      refine mp_imul (dz dl_Mod_announce_3 0 214 (.imul) 1 rfl) ?_
      refine mp_iload (i := 4) (x := l4) (dz dl_Mod_announce_3 1 215 (.iload 4) 2 rfl) rfl ?_
      refine mp_iadd (dz dl_Mod_announce_3 2 217 (.iadd) 1 rfl) ?_
      refine mp_iald (dz dl_Mod_announce_3 3 218 (.iaload) 1 rfl) kd_82 rfl sm_82 i1 ?_
      exact mp_rt (qi _) (rt_I rfl (dz dl_Mod_announce_3 4 219 (.ireturn) 1 rfl)) ⟨_, rfl, h⟩
    · replace h := h.2 hc
      refine mp_iconst (dz dl_Mod_announce_2 32 198 (.iconst (1)) 1 rfl) (v := (1 : Int32)) (by decide) ?_
      refine mp_goto (tgt := 204) (dz dl_Mod_announce_2 33 199 (.goto (5)) 3 rfl) (by decide) ?_
      refine mp_callV [qi l1, qi (4 : Int32), qi l4, qi (1 : Int32)] [] (dz dl_Mod_announce_2 35 204 (.invokevirtual 236) 3 rfl) ok_Mod_tell lm_Mod_236 ws_Mod_tell wv_Mod_tell ⟨Nat.le_of_ble_eq_true rfl, Nat.le_of_ble_eq_true rfl⟩ pn_Mod_tell (Nat.le_of_ble_eq_true rfl) (Nat.le_of_ble_eq_true rfl) (Or.inl rfl) (mmono h ?_)
      rintro _ u4 ⟨rfl, h⟩
      show mWP _ _ _ [] _ _
      refine mp_aload_n (i := 0) (v := qr 1 (some 0)) (dz dl_Mod_announce_2 36 207 (.aload_n 0) 1 rfl) rfl rfl trivial ?_
      refine mp_getA (dz dl_Mod_announce_2 37 208 (.getfield 49) 3 rfl) lk_Mod_49 (q := 0) kd_82 rfl sm_82 ?_
      refine mp_bipush (dz dl_Mod_announce_2 38 211 (.bipush (50)) 2 rfl) (v := (50 : Int32)) (by decide) ?_
      refine mp_iload_n (i := 1) (x := l1) (dz dl_Mod_announce_2 39 213 (.iload_n 1) 1 rfl) rfl rfl ?_
      refine mp_imul (dz dl_Mod_announce_3 0 214 (.imul) 1 rfl) ?_
      refine mp_iload (i := 4) (x := l4) (dz dl_Mod_announce_3 1 215 (.iload 4) 2 rfl) rfl ?_
      refine mp_iadd (dz dl_Mod_announce_3 2 217 (.iadd) 1 rfl) ?_
      refine mp_iald (dz dl_Mod_announce_3 3 218 (.iaload) 1 rfl) kd_82 rfl sm_82 i1 ?_
      exact mp_rt (qi _) (rt_I rfl (dz dl_Mod_announce_3 4 219 (.ireturn) 1 rfl)) ⟨_, rfl, h⟩
  · replace h := h.2 hc
    refine mp_iconst (dz dl_Mod_announce_2 22 183 (.iconst (1)) 1 rfl) (v := (1 : Int32)) (by decide) ?_
    refine mp_goto (tgt := 188) (dz dl_Mod_announce_2 23 184 (.goto (4)) 3 rfl) (by decide) ?_
    obtain ⟨i3, h⟩ := h
    have h := h _ rfl
    refine mp_iast (dz dl_Mod_announce_2 25 188 (.iastore) 1 rfl) kd_83 rfl sm_83 i3 rfl ?_
    refine mp_aload_n (i := 0) (v := qr 1 (some 0)) (dz dl_Mod_announce_2 26 189 (.aload_n 0) 1 rfl) rfl rfl trivial ?_
    refine mp_iload_n (i := 1) (x := l1) (dz dl_Mod_announce_2 27 190 (.iload_n 1) 1 rfl) rfl rfl ?_
    refine mp_iconst (dz dl_Mod_announce_2 28 191 (.iconst (4)) 1 rfl) (v := (4 : Int32)) (by decide) ?_
    refine mp_iload (i := 4) (x := l4) (dz dl_Mod_announce_2 29 192 (.iload 4) 2 rfl) rfl ?_
    refine mp_iload_n (i := 3) (x := l3) (dz dl_Mod_announce_2 30 194 (.iload_n 3) 1 rfl) rfl rfl ?_
    refine mp_if_eq (tgt := 202) (dz dl_Mod_announce_2 31 195 (.ifCond .eq (7)) 3 rfl) (by decide) (fun hc => ?_) (fun hc => ?_)
    · replace h := h.1 hc
      refine mp_bipush (dz dl_Mod_announce_2 34 202 (.bipush (99)) 2 rfl) (v := (99 : Int32)) (by decide) ?_
      refine mp_callV [qi l1, qi (4 : Int32), qi l4, qi (99 : Int32)] [] (dz dl_Mod_announce_2 35 204 (.invokevirtual 236) 3 rfl) ok_Mod_tell lm_Mod_236 ws_Mod_tell wv_Mod_tell ⟨Nat.le_of_ble_eq_true rfl, Nat.le_of_ble_eq_true rfl⟩ pn_Mod_tell (Nat.le_of_ble_eq_true rfl) (Nat.le_of_ble_eq_true rfl) (Or.inl rfl) (mmono h ?_)
      rintro _ u6 ⟨rfl, h⟩
      show mWP _ _ _ [] _ _
      refine mp_aload_n (i := 0) (v := qr 1 (some 0)) (dz dl_Mod_announce_2 36 207 (.aload_n 0) 1 rfl) rfl rfl trivial ?_
      refine mp_getA (dz dl_Mod_announce_2 37 208 (.getfield 49) 3 rfl) lk_Mod_49 (q := 0) kd_82 rfl sm_82 ?_
      refine mp_bipush (dz dl_Mod_announce_2 38 211 (.bipush (50)) 2 rfl) (v := (50 : Int32)) (by decide) ?_
      refine mp_iload_n (i := 1) (x := l1) (dz dl_Mod_announce_2 39 213 (.iload_n 1) 1 rfl) rfl rfl ?_
      refine mp_imul (dz dl_Mod_announce_3 0 214 (.imul) 1 rfl) ?_
      refine mp_iload (i := 4) (x := l4) (dz dl_Mod_announce_3 1 215 (.iload 4) 2 rfl) rfl ?_
      refine mp_iadd (dz dl_Mod_announce_3 2 217 (.iadd) 1 rfl) ?_
      refine mp_iald (dz dl_Mod_announce_3 3 218 (.iaload) 1 rfl) kd_82 rfl sm_82 i1 ?_
      exact mp_rt (qi _) (rt_I rfl (dz dl_Mod_announce_3 4 219 (.ireturn) 1 rfl)) ⟨_, rfl, h⟩
    · replace h := h.2 hc
      refine mp_iconst (dz dl_Mod_announce_2 32 198 (.iconst (1)) 1 rfl) (v := (1 : Int32)) (by decide) ?_
      refine mp_goto (tgt := 204) (dz dl_Mod_announce_2 33 199 (.goto (5)) 3 rfl) (by decide) ?_
      refine mp_callV [qi l1, qi (4 : Int32), qi l4, qi (1 : Int32)] [] (dz dl_Mod_announce_2 35 204 (.invokevirtual 236) 3 rfl) ok_Mod_tell lm_Mod_236 ws_Mod_tell wv_Mod_tell ⟨Nat.le_of_ble_eq_true rfl, Nat.le_of_ble_eq_true rfl⟩ pn_Mod_tell (Nat.le_of_ble_eq_true rfl) (Nat.le_of_ble_eq_true rfl) (Or.inl rfl) (mmono h ?_)
      rintro _ u7 ⟨rfl, h⟩
      show mWP _ _ _ [] _ _
      refine mp_aload_n (i := 0) (v := qr 1 (some 0)) (dz dl_Mod_announce_2 36 207 (.aload_n 0) 1 rfl) rfl rfl trivial ?_
      refine mp_getA (dz dl_Mod_announce_2 37 208 (.getfield 49) 3 rfl) lk_Mod_49 (q := 0) kd_82 rfl sm_82 ?_
      refine mp_bipush (dz dl_Mod_announce_2 38 211 (.bipush (50)) 2 rfl) (v := (50 : Int32)) (by decide) ?_
      refine mp_iload_n (i := 1) (x := l1) (dz dl_Mod_announce_2 39 213 (.iload_n 1) 1 rfl) rfl rfl ?_
      refine mp_imul (dz dl_Mod_announce_3 0 214 (.imul) 1 rfl) ?_
      refine mp_iload (i := 4) (x := l4) (dz dl_Mod_announce_3 1 215 (.iload 4) 2 rfl) rfl ?_
      refine mp_iadd (dz dl_Mod_announce_3 2 217 (.iadd) 1 rfl) ?_
      refine mp_iald (dz dl_Mod_announce_3 3 218 (.iaload) 1 rfl) kd_82 rfl sm_82 i1 ?_
      exact mp_rt (qi _) (rt_I rfl (dz dl_Mod_announce_3 4 219 (.ireturn) 1 rfl)) ⟨_, rfl, h⟩

theorem mb_Mod_hear_0 {u : MS} {l1 : Int32} {l2 : Int32} {l3 : Int32} {l4 : Int32} {l5 : Int32} {l6 : Int32} {Z : MS → Prop} (h : mMT M_Mod_route [qr 1 (some 0), qi l3, qi l4] u (mI fun r1 u1 => vp_in (((50 : Int32) * l1) + r1) 250 ∧ (l3 = l1 → Z u1) ∧ (¬ l3 = l1 → ((u1 82 (((50 : Int32) * l1) + r1).toNatClampNeg) ≤ l5 → mMT M_Mod_least [qr 1 (some 0), qi l1, qi r1] u1 (mI fun r2 u2 => (l5 ≤ (u1 82 (((50 : Int32) * l1) + r1).toNatClampNeg) → (l6 = (99 : Int32) → Z u2) ∧ (¬ l6 = (99 : Int32) → vp_in ((((250 : Int32) * l1) + ((5 : Int32) * r1)) + l2) 1250 ∧ ((u2 83 ((((250 : Int32) * l1) + ((5 : Int32) * r1)) + l2).toNatClampNeg) = 0 → ∀ u3, u3 = mu u2 83 ((((250 : Int32) * l1) + ((5 : Int32) * r1)) + l2).toNatClampNeg (l6 + (1 : Int32)) → mMT M_Mod_least [qr 1 (some 0), qi l1, qi r1] u3 (mI fun r3 u4 => (r2 = 0 → mMT M_Mod_tell [qr 1 (some 0), qi l1, qi l2, qi r1, qi r3] u4 (mV fun u5 => Z u5)) ∧ (¬ r2 = 0 → (r2 ≤ r3 → Z u4) ∧ (¬ r2 ≤ r3 → mMT M_Mod_tell [qr 1 (some 0), qi l1, qi l2, qi r1, qi r3] u4 (mV fun u6 => Z u6))))) ∧ (¬ (u2 83 ((((250 : Int32) * l1) + ((5 : Int32) * r1)) + l2).toNatClampNeg) = 0 → ((u2 83 ((((250 : Int32) * l1) + ((5 : Int32) * r1)) + l2).toNatClampNeg) ≤ (l6 + (1 : Int32)) → Z u2) ∧ (¬ (u2 83 ((((250 : Int32) * l1) + ((5 : Int32) * r1)) + l2).toNatClampNeg) ≤ (l6 + (1 : Int32)) → ∀ u7, u7 = mu u2 83 ((((250 : Int32) * l1) + ((5 : Int32) * r1)) + l2).toNatClampNeg (l6 + (1 : Int32)) → mMT M_Mod_least [qr 1 (some 0), qi l1, qi r1] u7 (mI fun r4 u8 => (r2 = 0 → mMT M_Mod_tell [qr 1 (some 0), qi l1, qi l2, qi r1, qi r4] u8 (mV fun u9 => Z u9)) ∧ (¬ r2 = 0 → (r2 ≤ r4 → Z u8) ∧ (¬ r2 ≤ r4 → mMT M_Mod_tell [qr 1 (some 0), qi l1, qi l2, qi r1, qi r4] u8 (mV fun u10 => Z u10)))))))) ∧ (¬ l5 ≤ (u1 82 (((50 : Int32) * l1) + r1).toNatClampNeg) → mMT M_Mod_renew [qr 1 (some 0), qi l1, qi r1, qi l5] u2 (mV fun u11 => (¬ l6 = (99 : Int32) → vp_in ((((250 : Int32) * l1) + ((5 : Int32) * r1)) + l2) 1250 ∧ ∀ u12, u12 = mu u11 83 ((((250 : Int32) * l1) + ((5 : Int32) * r1)) + l2).toNatClampNeg (l6 + (1 : Int32)) → (¬ l6 = (99 : Int32) → mMT M_Mod_tell [qr 1 (some 0), qi l1, qi l2, qi r1, qi (l6 + (1 : Int32))] u12 (mV fun u13 => Z u13)) ∧ (l6 = (99 : Int32) → mMT M_Mod_tell [qr 1 (some 0), qi l1, qi l2, qi r1, qi (99 : Int32)] u12 (mV fun u14 => Z u14))) ∧ (l6 = (99 : Int32) → vp_in ((((250 : Int32) * l1) + ((5 : Int32) * r1)) + l2) 1250 ∧ ∀ u15, u15 = mu u11 83 ((((250 : Int32) * l1) + ((5 : Int32) * r1)) + l2).toNatClampNeg (0 : Int32) → (¬ l6 = (99 : Int32) → mMT M_Mod_tell [qr 1 (some 0), qi l1, qi l2, qi r1, qi (l6 + (1 : Int32))] u15 (mV fun u16 => Z u16)) ∧ (l6 = (99 : Int32) → mMT M_Mod_tell [qr 1 (some 0), qi l1, qi l2, qi r1, qi (99 : Int32)] u15 (mV fun u17 => Z u17))))))) ∧ (¬ (u1 82 (((50 : Int32) * l1) + r1).toNatClampNeg) ≤ l5 → Z u1)))) : mWP M_Mod_hear 0 [qr 1 (some 0), qi l1, qi l2, qi l3, qi l4, qi l5, qi l6, none, none, none, none, none] [] u (mV Z) := by
  refine mp_aload_n (i := 0) (v := qr 1 (some 0)) (dz dl_Mod_hear_0 0 0 (.aload_n 0) 1 rfl) rfl rfl trivial ?_
  refine mp_iload_n (i := 3) (x := l3) (dz dl_Mod_hear_0 1 1 (.iload_n 3) 1 rfl) rfl rfl ?_
  refine mp_iload (i := 4) (x := l4) (dz dl_Mod_hear_0 2 2 (.iload 4) 2 rfl) rfl ?_
  refine mp_callV [qi l3, qi l4] [] (dz dl_Mod_hear_0 3 4 (.invokevirtual 225) 3 rfl) ok_Mod_route lm_Mod_225 ws_Mod_route wv_Mod_route ⟨Nat.le_of_ble_eq_true rfl, Nat.le_of_ble_eq_true rfl⟩ pn_Mod_route (Nat.le_of_ble_eq_true rfl) (Nat.le_of_ble_eq_true rfl) (Or.inl rfl) (mmono h ?_)
  rintro _ u1 ⟨r1, rfl, h⟩
  show mWP _ _ _ [qi r1] _ _
  refine mp_istore (i := 7) (dz dl_Mod_hear_0 4 7 (.istore 7) 2 rfl) [qr 1 (some 0), qi l1, qi l2, qi l3, qi l4, qi l5, qi l6, qi r1, none, none, none, none] (by decide) rfl ?_
  refine mp_aload_n (i := 0) (v := qr 1 (some 0)) (dz dl_Mod_hear_0 5 9 (.aload_n 0) 1 rfl) rfl rfl trivial ?_
  refine mp_getA (dz dl_Mod_hear_0 6 10 (.getfield 49) 3 rfl) lk_Mod_49 (q := 0) kd_82 rfl sm_82 ?_
  refine mp_bipush (dz dl_Mod_hear_0 7 13 (.bipush (50)) 2 rfl) (v := (50 : Int32)) (by decide) ?_
  refine mp_iload_n (i := 1) (x := l1) (dz dl_Mod_hear_0 8 15 (.iload_n 1) 1 rfl) rfl rfl ?_
  refine mp_imul (dz dl_Mod_hear_0 9 16 (.imul) 1 rfl) ?_
  refine mp_iload (i := 7) (x := r1) (dz dl_Mod_hear_0 10 17 (.iload 7) 2 rfl) rfl ?_
  refine mp_iadd (dz dl_Mod_hear_0 11 19 (.iadd) 1 rfl) ?_
  obtain ⟨i1, h⟩ := h
  refine mp_iald (dz dl_Mod_hear_0 12 20 (.iaload) 1 rfl) kd_82 rfl sm_82 i1 ?_
  refine mp_istore (i := 8) (dz dl_Mod_hear_0 13 21 (.istore 8) 2 rfl) [qr 1 (some 0), qi l1, qi l2, qi l3, qi l4, qi l5, qi l6, qi r1, qi (u1 82 (((50 : Int32) * l1) + r1).toNatClampNeg), none, none, none] (by decide) rfl ?_
  refine mp_iload_n (i := 3) (x := l3) (dz dl_Mod_hear_0 14 23 (.iload_n 3) 1 rfl) rfl rfl ?_
  refine mp_iload_n (i := 1) (x := l1) (dz dl_Mod_hear_0 15 24 (.iload_n 1) 1 rfl) rfl rfl ?_
  refine mp_icmp_eq (tgt := 35) (dz dl_Mod_hear_0 16 25 (.if_icmp .eq (10)) 3 rfl) (by decide) (fun hc => ?_) (fun hc => ?_)
  · replace h := h.1 hc
    exact mp_rt none (rt_V rfl (dz dl_Mod_hear_0 20 35 (.return_) 1 rfl)) ⟨rfl, h⟩
  · replace h := h.2 hc
    refine mp_iload (i := 8) (x := u1 82 (((50 : Int32) * l1) + r1).toNatClampNeg) (dz dl_Mod_hear_0 17 28 (.iload 8) 2 rfl) rfl ?_
    refine mp_iload (i := 5) (x := l5) (dz dl_Mod_hear_0 18 30 (.iload 5) 2 rfl) rfl ?_
    refine mp_icmp_le (tgt := 36) (dz dl_Mod_hear_0 19 32 (.if_icmp .le (4)) 3 rfl) (by decide) (fun hc => ?_) (fun hc => ?_)
    · replace h := h.1 hc
      refine mp_aload_n (i := 0) (v := qr 1 (some 0)) (dz dl_Mod_hear_0 21 36 (.aload_n 0) 1 rfl) rfl rfl trivial ?_
      refine mp_iload_n (i := 1) (x := l1) (dz dl_Mod_hear_0 22 37 (.iload_n 1) 1 rfl) rfl rfl ?_
      refine mp_iload (i := 7) (x := r1) (dz dl_Mod_hear_0 23 38 (.iload 7) 2 rfl) rfl ?_
      refine mp_callV [qi l1, qi r1] [] (dz dl_Mod_hear_0 24 40 (.invokevirtual 229) 3 rfl) ok_Mod_least lm_Mod_229 ws_Mod_least wv_Mod_least ⟨Nat.le_of_ble_eq_true rfl, Nat.le_of_ble_eq_true rfl⟩ pn_Mod_least (Nat.le_of_ble_eq_true rfl) (Nat.le_of_ble_eq_true rfl) (Or.inl rfl) (mmono h ?_)
      rintro _ u2 ⟨r2, rfl, h⟩
      show mWP _ _ _ [qi r2] _ _
      refine mp_istore (i := 9) (dz dl_Mod_hear_0 25 43 (.istore 9) 2 rfl) [qr 1 (some 0), qi l1, qi l2, qi l3, qi l4, qi l5, qi l6, qi r1, qi (u1 82 (((50 : Int32) * l1) + r1).toNatClampNeg), qi r2, none, none] (by decide) rfl ?_
      refine mp_sipush (dz dl_Mod_hear_0 26 45 (.sipush (250)) 3 rfl) (v := (250 : Int32)) (by decide) ?_
      refine mp_iload_n (i := 1) (x := l1) (dz dl_Mod_hear_0 27 48 (.iload_n 1) 1 rfl) rfl rfl ?_
      refine mp_imul (dz dl_Mod_hear_0 28 49 (.imul) 1 rfl) ?_
      refine mp_iconst (dz dl_Mod_hear_0 29 50 (.iconst (5)) 1 rfl) (v := (5 : Int32)) (by decide) ?_
      refine mp_iload (i := 7) (x := r1) (dz dl_Mod_hear_0 30 51 (.iload 7) 2 rfl) rfl ?_
      refine mp_imul (dz dl_Mod_hear_0 31 53 (.imul) 1 rfl) ?_
      refine mp_iadd (dz dl_Mod_hear_0 32 54 (.iadd) 1 rfl) ?_
      refine mp_iload_n (i := 2) (x := l2) (dz dl_Mod_hear_0 33 55 (.iload_n 2) 1 rfl) rfl rfl ?_
      refine mp_iadd (dz dl_Mod_hear_0 34 56 (.iadd) 1 rfl) ?_
      refine mp_istore (i := 10) (dz dl_Mod_hear_0 35 57 (.istore 10) 2 rfl) [qr 1 (some 0), qi l1, qi l2, qi l3, qi l4, qi l5, qi l6, qi r1, qi (u1 82 (((50 : Int32) * l1) + r1).toNatClampNeg), qi r2, qi ((((250 : Int32) * l1) + ((5 : Int32) * r1)) + l2), none] (by decide) rfl ?_
      refine mp_iload (i := 8) (x := u1 82 (((50 : Int32) * l1) + r1).toNatClampNeg) (dz dl_Mod_hear_0 36 59 (.iload 8) 2 rfl) rfl ?_
      refine mp_iload (i := 5) (x := l5) (dz dl_Mod_hear_0 37 61 (.iload 5) 2 rfl) rfl ?_
      refine mp_icmp_ge (tgt := 124) (dz dl_Mod_hear_0 38 63 (.if_icmp .ge (61)) 3 rfl) (by decide) (fun hc => ?_) (fun hc => ?_)
      · replace h := h.1 hc
        refine mp_iload (i := 6) (x := l6) (dz dl_Mod_hear_1 30 124 (.iload 6) 2 rfl) rfl ?_
        refine mp_bipush (dz dl_Mod_hear_1 31 126 (.bipush (99)) 2 rfl) (v := (99 : Int32)) (by decide) ?_
        refine mp_icmp_eq (tgt := 197) (dz dl_Mod_hear_1 32 128 (.if_icmp .eq (69)) 3 rfl) (by decide) (fun hc => ?_) (fun hc => ?_)
        · replace h := h.1 hc
          exact mp_rt none (rt_V rfl (dz dl_Mod_hear_2 29 197 (.return_) 1 rfl)) ⟨rfl, h⟩
        · replace h := h.2 hc
          refine mp_aload_n (i := 0) (v := qr 1 (some 0)) (dz dl_Mod_hear_1 33 131 (.aload_n 0) 1 rfl) rfl rfl trivial ?_
          refine mp_getA (dz dl_Mod_hear_1 34 132 (.getfield 52) 3 rfl) lk_Mod_52 (q := 0) kd_83 rfl sm_83 ?_
          refine mp_iload (i := 10) (x := (((250 : Int32) * l1) + ((5 : Int32) * r1)) + l2) (dz dl_Mod_hear_1 35 135 (.iload 10) 2 rfl) rfl ?_
          obtain ⟨i2, h⟩ := h
          refine mp_iald (dz dl_Mod_hear_1 36 137 (.iaload) 1 rfl) kd_83 rfl sm_83 i2 ?_
          refine mp_if_eq (tgt := 155) (dz dl_Mod_hear_1 37 138 (.ifCond .eq (17)) 3 rfl) (by decide) (fun hc => ?_) (fun hc => ?_)
          · replace h := h.1 hc
            refine mp_aload_n (i := 0) (v := qr 1 (some 0)) (dz dl_Mod_hear_2 6 155 (.aload_n 0) 1 rfl) rfl rfl trivial ?_
            refine mp_getA (dz dl_Mod_hear_2 7 156 (.getfield 52) 3 rfl) lk_Mod_52 (q := 0) kd_83 rfl sm_83 ?_
            refine mp_iload (i := 10) (x := (((250 : Int32) * l1) + ((5 : Int32) * r1)) + l2) (dz dl_Mod_hear_2 8 159 (.iload 10) 2 rfl) rfl ?_
            refine mp_iload (i := 6) (x := l6) (dz dl_Mod_hear_2 9 161 (.iload 6) 2 rfl) rfl ?_
            refine mp_iconst (dz dl_Mod_hear_2 10 163 (.iconst (1)) 1 rfl) (v := (1 : Int32)) (by decide) ?_
            refine mp_iadd (dz dl_Mod_hear_2 11 164 (.iadd) 1 rfl) ?_
            have h := h _ rfl
            refine mp_iast (dz dl_Mod_hear_2 12 165 (.iastore) 1 rfl) kd_83 rfl sm_83 i2 rfl ?_
            refine mp_aload_n (i := 0) (v := qr 1 (some 0)) (dz dl_Mod_hear_2 13 166 (.aload_n 0) 1 rfl) rfl rfl trivial ?_
            refine mp_iload_n (i := 1) (x := l1) (dz dl_Mod_hear_2 14 167 (.iload_n 1) 1 rfl) rfl rfl ?_
            refine mp_iload (i := 7) (x := r1) (dz dl_Mod_hear_2 15 168 (.iload 7) 2 rfl) rfl ?_
            refine mp_callV [qi l1, qi r1] [] (dz dl_Mod_hear_2 16 170 (.invokevirtual 229) 3 rfl) ok_Mod_least lm_Mod_229 ws_Mod_least wv_Mod_least ⟨Nat.le_of_ble_eq_true rfl, Nat.le_of_ble_eq_true rfl⟩ pn_Mod_least (Nat.le_of_ble_eq_true rfl) (Nat.le_of_ble_eq_true rfl) (Or.inl rfl) (mmono h ?_)
            rintro _ u4 ⟨r3, rfl, h⟩
            show mWP _ _ _ [qi r3] _ _
            refine mp_istore (i := 11) (dz dl_Mod_hear_2 17 173 (.istore 11) 2 rfl) [qr 1 (some 0), qi l1, qi l2, qi l3, qi l4, qi l5, qi l6, qi r1, qi (u1 82 (((50 : Int32) * l1) + r1).toNatClampNeg), qi r2, qi ((((250 : Int32) * l1) + ((5 : Int32) * r1)) + l2), qi r3] (by decide) rfl ?_
            refine mp_iload (i := 9) (x := r2) (dz dl_Mod_hear_2 18 175 (.iload 9) 2 rfl) rfl ?_
            refine mp_if_eq (tgt := 187) (dz dl_Mod_hear_2 19 177 (.ifCond .eq (10)) 3 rfl) (by decide) (fun hc => ?_) (fun hc => ?_)
            · replace h := h.1 hc
              refine mp_aload_n (i := 0) (v := qr 1 (some 0)) (dz dl_Mod_hear_2 23 187 (.aload_n 0) 1 rfl) rfl rfl trivial ?_
              refine mp_iload_n (i := 1) (x := l1) (dz dl_Mod_hear_2 24 188 (.iload_n 1) 1 rfl) rfl rfl ?_
              refine mp_iload_n (i := 2) (x := l2) (dz dl_Mod_hear_2 25 189 (.iload_n 2) 1 rfl) rfl rfl ?_
              refine mp_iload (i := 7) (x := r1) (dz dl_Mod_hear_2 26 190 (.iload 7) 2 rfl) rfl ?_
              refine mp_iload (i := 11) (x := r3) (dz dl_Mod_hear_2 27 192 (.iload 11) 2 rfl) rfl ?_
              refine mp_callV [qi l1, qi l2, qi r1, qi r3] [] (dz dl_Mod_hear_2 28 194 (.invokevirtual 236) 3 rfl) ok_Mod_tell lm_Mod_236 ws_Mod_tell wv_Mod_tell ⟨Nat.le_of_ble_eq_true rfl, Nat.le_of_ble_eq_true rfl⟩ pn_Mod_tell (Nat.le_of_ble_eq_true rfl) (Nat.le_of_ble_eq_true rfl) (Or.inl rfl) (mmono h ?_)
              rintro _ u5 ⟨rfl, h⟩
              show mWP _ _ _ [] _ _
              exact mp_rt none (rt_V rfl (dz dl_Mod_hear_2 29 197 (.return_) 1 rfl)) ⟨rfl, h⟩
            · replace h := h.2 hc
              refine mp_iload (i := 11) (x := r3) (dz dl_Mod_hear_2 20 180 (.iload 11) 2 rfl) rfl ?_
              refine mp_iload (i := 9) (x := r2) (dz dl_Mod_hear_2 21 182 (.iload 9) 2 rfl) rfl ?_
              refine mp_icmp_ge (tgt := 197) (dz dl_Mod_hear_2 22 184 (.if_icmp .ge (13)) 3 rfl) (by decide) (fun hc => ?_) (fun hc => ?_)
              · replace h := h.1 hc
                exact mp_rt none (rt_V rfl (dz dl_Mod_hear_2 29 197 (.return_) 1 rfl)) ⟨rfl, h⟩
              · replace h := h.2 hc
                refine mp_aload_n (i := 0) (v := qr 1 (some 0)) (dz dl_Mod_hear_2 23 187 (.aload_n 0) 1 rfl) rfl rfl trivial ?_
                refine mp_iload_n (i := 1) (x := l1) (dz dl_Mod_hear_2 24 188 (.iload_n 1) 1 rfl) rfl rfl ?_
                refine mp_iload_n (i := 2) (x := l2) (dz dl_Mod_hear_2 25 189 (.iload_n 2) 1 rfl) rfl rfl ?_
                refine mp_iload (i := 7) (x := r1) (dz dl_Mod_hear_2 26 190 (.iload 7) 2 rfl) rfl ?_
                refine mp_iload (i := 11) (x := r3) (dz dl_Mod_hear_2 27 192 (.iload 11) 2 rfl) rfl ?_
                refine mp_callV [qi l1, qi l2, qi r1, qi r3] [] (dz dl_Mod_hear_2 28 194 (.invokevirtual 236) 3 rfl) ok_Mod_tell lm_Mod_236 ws_Mod_tell wv_Mod_tell ⟨Nat.le_of_ble_eq_true rfl, Nat.le_of_ble_eq_true rfl⟩ pn_Mod_tell (Nat.le_of_ble_eq_true rfl) (Nat.le_of_ble_eq_true rfl) (Or.inl rfl) (mmono h ?_)
                rintro _ u6 ⟨rfl, h⟩
                show mWP _ _ _ [] _ _
                exact mp_rt none (rt_V rfl (dz dl_Mod_hear_2 29 197 (.return_) 1 rfl)) ⟨rfl, h⟩
          · replace h := h.2 hc
            refine mp_aload_n (i := 0) (v := qr 1 (some 0)) (dz dl_Mod_hear_1 38 141 (.aload_n 0) 1 rfl) rfl rfl trivial ?_
            refine mp_getA (dz dl_Mod_hear_1 39 142 (.getfield 52) 3 rfl) lk_Mod_52 (q := 0) kd_83 rfl sm_83 ?_
            refine mp_iload (i := 10) (x := (((250 : Int32) * l1) + ((5 : Int32) * r1)) + l2) (dz dl_Mod_hear_2 0 145 (.iload 10) 2 rfl) rfl ?_
            refine mp_iald (dz dl_Mod_hear_2 1 147 (.iaload) 1 rfl) kd_83 rfl sm_83 i2 ?_
            refine mp_iload (i := 6) (x := l6) (dz dl_Mod_hear_2 2 148 (.iload 6) 2 rfl) rfl ?_
            refine mp_iconst (dz dl_Mod_hear_2 3 150 (.iconst (1)) 1 rfl) (v := (1 : Int32)) (by decide) ?_
            refine mp_iadd (dz dl_Mod_hear_2 4 151 (.iadd) 1 rfl) ?_
            refine mp_icmp_le (tgt := 197) (dz dl_Mod_hear_2 5 152 (.if_icmp .le (45)) 3 rfl) (by decide) (fun hc => ?_) (fun hc => ?_)
            · replace h := h.1 hc
              exact mp_rt none (rt_V rfl (dz dl_Mod_hear_2 29 197 (.return_) 1 rfl)) ⟨rfl, h⟩
            · replace h := h.2 hc
              refine mp_aload_n (i := 0) (v := qr 1 (some 0)) (dz dl_Mod_hear_2 6 155 (.aload_n 0) 1 rfl) rfl rfl trivial ?_
              refine mp_getA (dz dl_Mod_hear_2 7 156 (.getfield 52) 3 rfl) lk_Mod_52 (q := 0) kd_83 rfl sm_83 ?_
              refine mp_iload (i := 10) (x := (((250 : Int32) * l1) + ((5 : Int32) * r1)) + l2) (dz dl_Mod_hear_2 8 159 (.iload 10) 2 rfl) rfl ?_
              refine mp_iload (i := 6) (x := l6) (dz dl_Mod_hear_2 9 161 (.iload 6) 2 rfl) rfl ?_
              refine mp_iconst (dz dl_Mod_hear_2 10 163 (.iconst (1)) 1 rfl) (v := (1 : Int32)) (by decide) ?_
              refine mp_iadd (dz dl_Mod_hear_2 11 164 (.iadd) 1 rfl) ?_
              have h := h _ rfl
              refine mp_iast (dz dl_Mod_hear_2 12 165 (.iastore) 1 rfl) kd_83 rfl sm_83 i2 rfl ?_
              refine mp_aload_n (i := 0) (v := qr 1 (some 0)) (dz dl_Mod_hear_2 13 166 (.aload_n 0) 1 rfl) rfl rfl trivial ?_
              refine mp_iload_n (i := 1) (x := l1) (dz dl_Mod_hear_2 14 167 (.iload_n 1) 1 rfl) rfl rfl ?_
              refine mp_iload (i := 7) (x := r1) (dz dl_Mod_hear_2 15 168 (.iload 7) 2 rfl) rfl ?_
              refine mp_callV [qi l1, qi r1] [] (dz dl_Mod_hear_2 16 170 (.invokevirtual 229) 3 rfl) ok_Mod_least lm_Mod_229 ws_Mod_least wv_Mod_least ⟨Nat.le_of_ble_eq_true rfl, Nat.le_of_ble_eq_true rfl⟩ pn_Mod_least (Nat.le_of_ble_eq_true rfl) (Nat.le_of_ble_eq_true rfl) (Or.inl rfl) (mmono h ?_)
              rintro _ u8 ⟨r4, rfl, h⟩
              show mWP _ _ _ [qi r4] _ _
              refine mp_istore (i := 11) (dz dl_Mod_hear_2 17 173 (.istore 11) 2 rfl) [qr 1 (some 0), qi l1, qi l2, qi l3, qi l4, qi l5, qi l6, qi r1, qi (u1 82 (((50 : Int32) * l1) + r1).toNatClampNeg), qi r2, qi ((((250 : Int32) * l1) + ((5 : Int32) * r1)) + l2), qi r4] (by decide) rfl ?_
              refine mp_iload (i := 9) (x := r2) (dz dl_Mod_hear_2 18 175 (.iload 9) 2 rfl) rfl ?_
              refine mp_if_eq (tgt := 187) (dz dl_Mod_hear_2 19 177 (.ifCond .eq (10)) 3 rfl) (by decide) (fun hc => ?_) (fun hc => ?_)
              · replace h := h.1 hc
                refine mp_aload_n (i := 0) (v := qr 1 (some 0)) (dz dl_Mod_hear_2 23 187 (.aload_n 0) 1 rfl) rfl rfl trivial ?_
                refine mp_iload_n (i := 1) (x := l1) (dz dl_Mod_hear_2 24 188 (.iload_n 1) 1 rfl) rfl rfl ?_
                refine mp_iload_n (i := 2) (x := l2) (dz dl_Mod_hear_2 25 189 (.iload_n 2) 1 rfl) rfl rfl ?_
                refine mp_iload (i := 7) (x := r1) (dz dl_Mod_hear_2 26 190 (.iload 7) 2 rfl) rfl ?_
                refine mp_iload (i := 11) (x := r4) (dz dl_Mod_hear_2 27 192 (.iload 11) 2 rfl) rfl ?_
                refine mp_callV [qi l1, qi l2, qi r1, qi r4] [] (dz dl_Mod_hear_2 28 194 (.invokevirtual 236) 3 rfl) ok_Mod_tell lm_Mod_236 ws_Mod_tell wv_Mod_tell ⟨Nat.le_of_ble_eq_true rfl, Nat.le_of_ble_eq_true rfl⟩ pn_Mod_tell (Nat.le_of_ble_eq_true rfl) (Nat.le_of_ble_eq_true rfl) (Or.inl rfl) (mmono h ?_)
                rintro _ u9 ⟨rfl, h⟩
                show mWP _ _ _ [] _ _
                exact mp_rt none (rt_V rfl (dz dl_Mod_hear_2 29 197 (.return_) 1 rfl)) ⟨rfl, h⟩
              · replace h := h.2 hc
                refine mp_iload (i := 11) (x := r4) (dz dl_Mod_hear_2 20 180 (.iload 11) 2 rfl) rfl ?_
                refine mp_iload (i := 9) (x := r2) (dz dl_Mod_hear_2 21 182 (.iload 9) 2 rfl) rfl ?_
                refine mp_icmp_ge (tgt := 197) (dz dl_Mod_hear_2 22 184 (.if_icmp .ge (13)) 3 rfl) (by decide) (fun hc => ?_) (fun hc => ?_)
                · replace h := h.1 hc
                  exact mp_rt none (rt_V rfl (dz dl_Mod_hear_2 29 197 (.return_) 1 rfl)) ⟨rfl, h⟩
                · replace h := h.2 hc
                  refine mp_aload_n (i := 0) (v := qr 1 (some 0)) (dz dl_Mod_hear_2 23 187 (.aload_n 0) 1 rfl) rfl rfl trivial ?_
                  refine mp_iload_n (i := 1) (x := l1) (dz dl_Mod_hear_2 24 188 (.iload_n 1) 1 rfl) rfl rfl ?_
                  refine mp_iload_n (i := 2) (x := l2) (dz dl_Mod_hear_2 25 189 (.iload_n 2) 1 rfl) rfl rfl ?_
                  refine mp_iload (i := 7) (x := r1) (dz dl_Mod_hear_2 26 190 (.iload 7) 2 rfl) rfl ?_
                  refine mp_iload (i := 11) (x := r4) (dz dl_Mod_hear_2 27 192 (.iload 11) 2 rfl) rfl ?_
                  refine mp_callV [qi l1, qi l2, qi r1, qi r4] [] (dz dl_Mod_hear_2 28 194 (.invokevirtual 236) 3 rfl) ok_Mod_tell lm_Mod_236 ws_Mod_tell wv_Mod_tell ⟨Nat.le_of_ble_eq_true rfl, Nat.le_of_ble_eq_true rfl⟩ pn_Mod_tell (Nat.le_of_ble_eq_true rfl) (Nat.le_of_ble_eq_true rfl) (Or.inl rfl) (mmono h ?_)
                  rintro _ u10 ⟨rfl, h⟩
                  show mWP _ _ _ [] _ _
                  exact mp_rt none (rt_V rfl (dz dl_Mod_hear_2 29 197 (.return_) 1 rfl)) ⟨rfl, h⟩
      · replace h := h.2 hc
        refine mp_aload_n (i := 0) (v := qr 1 (some 0)) (dz dl_Mod_hear_0 39 66 (.aload_n 0) 1 rfl) rfl rfl trivial ?_
        refine mp_iload_n (i := 1) (x := l1) (dz dl_Mod_hear_1 0 67 (.iload_n 1) 1 rfl) rfl rfl ?_
        refine mp_iload (i := 7) (x := r1) (dz dl_Mod_hear_1 1 68 (.iload 7) 2 rfl) rfl ?_
        refine mp_iload (i := 5) (x := l5) (dz dl_Mod_hear_1 2 70 (.iload 5) 2 rfl) rfl ?_
        refine mp_callV [qi l1, qi r1, qi l5] [] (dz dl_Mod_hear_1 3 72 (.invokevirtual 232) 3 rfl) ok_Mod_renew lm_Mod_232 ws_Mod_renew wv_Mod_renew ⟨Nat.le_of_ble_eq_true rfl, Nat.le_of_ble_eq_true rfl⟩ pn_Mod_renew (Nat.le_of_ble_eq_true rfl) (Nat.le_of_ble_eq_true rfl) (Or.inl rfl) (mmono h ?_)
        rintro _ u11 ⟨rfl, h⟩
        show mWP _ _ _ [] _ _
        refine mp_aload_n (i := 0) (v := qr 1 (some 0)) (dz dl_Mod_hear_1 4 75 (.aload_n 0) 1 rfl) rfl rfl trivial ?_
        refine mp_getA (dz dl_Mod_hear_1 5 76 (.getfield 52) 3 rfl) lk_Mod_52 (q := 0) kd_83 rfl sm_83 ?_
        refine mp_iload (i := 10) (x := (((250 : Int32) * l1) + ((5 : Int32) * r1)) + l2) (dz dl_Mod_hear_1 6 79 (.iload 10) 2 rfl) rfl ?_
        refine mp_iload (i := 6) (x := l6) (dz dl_Mod_hear_1 7 81 (.iload 6) 2 rfl) rfl ?_
        refine mp_bipush (dz dl_Mod_hear_1 8 83 (.bipush (99)) 2 rfl) (v := (99 : Int32)) (by decide) ?_
        refine mp_icmp_ne (tgt := 92) (dz dl_Mod_hear_1 9 85 (.if_icmp .ne (7)) 3 rfl) (by decide) (fun hc => ?_) (fun hc => ?_)
        · replace h := h.1 hc
          refine mp_iload (i := 6) (x := l6) (dz dl_Mod_hear_1 12 92 (.iload 6) 2 rfl) rfl ?_
          refine mp_iconst (dz dl_Mod_hear_1 13 94 (.iconst (1)) 1 rfl) (v := (1 : Int32)) (by decide) ?_
          refine mp_iadd (dz dl_Mod_hear_1 14 95 (.iadd) 1 rfl) ?_
          obtain ⟨i3, h⟩ := h
          have h := h _ rfl
          refine mp_iast (dz dl_Mod_hear_1 15 96 (.iastore) 1 rfl) kd_83 rfl sm_83 i3 rfl ?_
          refine mp_aload_n (i := 0) (v := qr 1 (some 0)) (dz dl_Mod_hear_1 16 97 (.aload_n 0) 1 rfl) rfl rfl trivial ?_
          refine mp_iload_n (i := 1) (x := l1) (dz dl_Mod_hear_1 17 98 (.iload_n 1) 1 rfl) rfl rfl ?_
          refine mp_iload_n (i := 2) (x := l2) (dz dl_Mod_hear_1 18 99 (.iload_n 2) 1 rfl) rfl rfl ?_
          refine mp_iload (i := 7) (x := r1) (dz dl_Mod_hear_1 19 100 (.iload 7) 2 rfl) rfl ?_
          refine mp_iload (i := 6) (x := l6) (dz dl_Mod_hear_1 20 102 (.iload 6) 2 rfl) rfl ?_
          refine mp_bipush (dz dl_Mod_hear_1 21 104 (.bipush (99)) 2 rfl) (v := (99 : Int32)) (by decide) ?_
          refine mp_icmp_ne (tgt := 114) (dz dl_Mod_hear_1 22 106 (.if_icmp .ne (8)) 3 rfl) (by decide) (fun hc => ?_) (fun hc => ?_)
          · replace h := h.1 hc
            refine mp_iload (i := 6) (x := l6) (dz dl_Mod_hear_1 25 114 (.iload 6) 2 rfl) rfl ?_
            refine mp_iconst (dz dl_Mod_hear_1 26 116 (.iconst (1)) 1 rfl) (v := (1 : Int32)) (by decide) ?_
            refine mp_iadd (dz dl_Mod_hear_1 27 117 (.iadd) 1 rfl) ?_
            refine mp_callV [qi l1, qi l2, qi r1, qi (l6 + (1 : Int32))] [] (dz dl_Mod_hear_1 28 118 (.invokevirtual 236) 3 rfl) ok_Mod_tell lm_Mod_236 ws_Mod_tell wv_Mod_tell ⟨Nat.le_of_ble_eq_true rfl, Nat.le_of_ble_eq_true rfl⟩ pn_Mod_tell (Nat.le_of_ble_eq_true rfl) (Nat.le_of_ble_eq_true rfl) (Or.inl rfl) (mmono h ?_)
            rintro _ u13 ⟨rfl, h⟩
            show mWP _ _ _ [] _ _
            refine mp_goto (tgt := 197) (dz dl_Mod_hear_1 29 121 (.goto (76)) 3 rfl) (by decide) ?_
            exact mp_rt none (rt_V rfl (dz dl_Mod_hear_2 29 197 (.return_) 1 rfl)) ⟨rfl, h⟩
          · replace h := h.2 hc
            refine mp_bipush (dz dl_Mod_hear_1 23 109 (.bipush (99)) 2 rfl) (v := (99 : Int32)) (by decide) ?_
            refine mp_goto (tgt := 118) (dz dl_Mod_hear_1 24 111 (.goto (7)) 3 rfl) (by decide) ?_
            refine mp_callV [qi l1, qi l2, qi r1, qi (99 : Int32)] [] (dz dl_Mod_hear_1 28 118 (.invokevirtual 236) 3 rfl) ok_Mod_tell lm_Mod_236 ws_Mod_tell wv_Mod_tell ⟨Nat.le_of_ble_eq_true rfl, Nat.le_of_ble_eq_true rfl⟩ pn_Mod_tell (Nat.le_of_ble_eq_true rfl) (Nat.le_of_ble_eq_true rfl) (Or.inl rfl) (mmono h ?_)
            rintro _ u14 ⟨rfl, h⟩
            show mWP _ _ _ [] _ _
            refine mp_goto (tgt := 197) (dz dl_Mod_hear_1 29 121 (.goto (76)) 3 rfl) (by decide) ?_
            exact mp_rt none (rt_V rfl (dz dl_Mod_hear_2 29 197 (.return_) 1 rfl)) ⟨rfl, h⟩
        · replace h := h.2 hc
          refine mp_iconst (dz dl_Mod_hear_1 10 88 (.iconst (0)) 1 rfl) (v := (0 : Int32)) (by decide) ?_
          refine mp_goto (tgt := 96) (dz dl_Mod_hear_1 11 89 (.goto (7)) 3 rfl) (by decide) ?_
          obtain ⟨i4, h⟩ := h
          have h := h _ rfl
          refine mp_iast (dz dl_Mod_hear_1 15 96 (.iastore) 1 rfl) kd_83 rfl sm_83 i4 rfl ?_
          refine mp_aload_n (i := 0) (v := qr 1 (some 0)) (dz dl_Mod_hear_1 16 97 (.aload_n 0) 1 rfl) rfl rfl trivial ?_
          refine mp_iload_n (i := 1) (x := l1) (dz dl_Mod_hear_1 17 98 (.iload_n 1) 1 rfl) rfl rfl ?_
          refine mp_iload_n (i := 2) (x := l2) (dz dl_Mod_hear_1 18 99 (.iload_n 2) 1 rfl) rfl rfl ?_
          refine mp_iload (i := 7) (x := r1) (dz dl_Mod_hear_1 19 100 (.iload 7) 2 rfl) rfl ?_
          refine mp_iload (i := 6) (x := l6) (dz dl_Mod_hear_1 20 102 (.iload 6) 2 rfl) rfl ?_
          refine mp_bipush (dz dl_Mod_hear_1 21 104 (.bipush (99)) 2 rfl) (v := (99 : Int32)) (by decide) ?_
          refine mp_icmp_ne (tgt := 114) (dz dl_Mod_hear_1 22 106 (.if_icmp .ne (8)) 3 rfl) (by decide) (fun hc => ?_) (fun hc => ?_)
          · replace h := h.1 hc
            refine mp_iload (i := 6) (x := l6) (dz dl_Mod_hear_1 25 114 (.iload 6) 2 rfl) rfl ?_
            refine mp_iconst (dz dl_Mod_hear_1 26 116 (.iconst (1)) 1 rfl) (v := (1 : Int32)) (by decide) ?_
            refine mp_iadd (dz dl_Mod_hear_1 27 117 (.iadd) 1 rfl) ?_
            refine mp_callV [qi l1, qi l2, qi r1, qi (l6 + (1 : Int32))] [] (dz dl_Mod_hear_1 28 118 (.invokevirtual 236) 3 rfl) ok_Mod_tell lm_Mod_236 ws_Mod_tell wv_Mod_tell ⟨Nat.le_of_ble_eq_true rfl, Nat.le_of_ble_eq_true rfl⟩ pn_Mod_tell (Nat.le_of_ble_eq_true rfl) (Nat.le_of_ble_eq_true rfl) (Or.inl rfl) (mmono h ?_)
            rintro _ u16 ⟨rfl, h⟩
            show mWP _ _ _ [] _ _
            refine mp_goto (tgt := 197) (dz dl_Mod_hear_1 29 121 (.goto (76)) 3 rfl) (by decide) ?_
            exact mp_rt none (rt_V rfl (dz dl_Mod_hear_2 29 197 (.return_) 1 rfl)) ⟨rfl, h⟩
          · replace h := h.2 hc
            refine mp_bipush (dz dl_Mod_hear_1 23 109 (.bipush (99)) 2 rfl) (v := (99 : Int32)) (by decide) ?_
            refine mp_goto (tgt := 118) (dz dl_Mod_hear_1 24 111 (.goto (7)) 3 rfl) (by decide) ?_
            refine mp_callV [qi l1, qi l2, qi r1, qi (99 : Int32)] [] (dz dl_Mod_hear_1 28 118 (.invokevirtual 236) 3 rfl) ok_Mod_tell lm_Mod_236 ws_Mod_tell wv_Mod_tell ⟨Nat.le_of_ble_eq_true rfl, Nat.le_of_ble_eq_true rfl⟩ pn_Mod_tell (Nat.le_of_ble_eq_true rfl) (Nat.le_of_ble_eq_true rfl) (Or.inl rfl) (mmono h ?_)
            rintro _ u17 ⟨rfl, h⟩
            show mWP _ _ _ [] _ _
            refine mp_goto (tgt := 197) (dz dl_Mod_hear_1 29 121 (.goto (76)) 3 rfl) (by decide) ?_
            exact mp_rt none (rt_V rfl (dz dl_Mod_hear_2 29 197 (.return_) 1 rfl)) ⟨rfl, h⟩
    · replace h := h.2 hc
      exact mp_rt none (rt_V rfl (dz dl_Mod_hear_0 20 35 (.return_) 1 rfl)) ⟨rfl, h⟩
theorem mt_Mod_hear {u : MS} {l1 : Int32} {l2 : Int32} {l3 : Int32} {l4 : Int32} {l5 : Int32} {l6 : Int32} {Z : MS → Prop} (h : mMT M_Mod_route [qr 1 (some 0), qi l3, qi l4] u (mI fun r1 u1 => vp_in (((50 : Int32) * l1) + r1) 250 ∧ (l3 = l1 → Z u1) ∧ (¬ l3 = l1 → ((u1 82 (((50 : Int32) * l1) + r1).toNatClampNeg) ≤ l5 → mMT M_Mod_least [qr 1 (some 0), qi l1, qi r1] u1 (mI fun r2 u2 => (l5 ≤ (u1 82 (((50 : Int32) * l1) + r1).toNatClampNeg) → (l6 = (99 : Int32) → Z u2) ∧ (¬ l6 = (99 : Int32) → vp_in ((((250 : Int32) * l1) + ((5 : Int32) * r1)) + l2) 1250 ∧ ((u2 83 ((((250 : Int32) * l1) + ((5 : Int32) * r1)) + l2).toNatClampNeg) = 0 → ∀ u3, u3 = mu u2 83 ((((250 : Int32) * l1) + ((5 : Int32) * r1)) + l2).toNatClampNeg (l6 + (1 : Int32)) → mMT M_Mod_least [qr 1 (some 0), qi l1, qi r1] u3 (mI fun r3 u4 => (r2 = 0 → mMT M_Mod_tell [qr 1 (some 0), qi l1, qi l2, qi r1, qi r3] u4 (mV fun u5 => Z u5)) ∧ (¬ r2 = 0 → (r2 ≤ r3 → Z u4) ∧ (¬ r2 ≤ r3 → mMT M_Mod_tell [qr 1 (some 0), qi l1, qi l2, qi r1, qi r3] u4 (mV fun u6 => Z u6))))) ∧ (¬ (u2 83 ((((250 : Int32) * l1) + ((5 : Int32) * r1)) + l2).toNatClampNeg) = 0 → ((u2 83 ((((250 : Int32) * l1) + ((5 : Int32) * r1)) + l2).toNatClampNeg) ≤ (l6 + (1 : Int32)) → Z u2) ∧ (¬ (u2 83 ((((250 : Int32) * l1) + ((5 : Int32) * r1)) + l2).toNatClampNeg) ≤ (l6 + (1 : Int32)) → ∀ u7, u7 = mu u2 83 ((((250 : Int32) * l1) + ((5 : Int32) * r1)) + l2).toNatClampNeg (l6 + (1 : Int32)) → mMT M_Mod_least [qr 1 (some 0), qi l1, qi r1] u7 (mI fun r4 u8 => (r2 = 0 → mMT M_Mod_tell [qr 1 (some 0), qi l1, qi l2, qi r1, qi r4] u8 (mV fun u9 => Z u9)) ∧ (¬ r2 = 0 → (r2 ≤ r4 → Z u8) ∧ (¬ r2 ≤ r4 → mMT M_Mod_tell [qr 1 (some 0), qi l1, qi l2, qi r1, qi r4] u8 (mV fun u10 => Z u10)))))))) ∧ (¬ l5 ≤ (u1 82 (((50 : Int32) * l1) + r1).toNatClampNeg) → mMT M_Mod_renew [qr 1 (some 0), qi l1, qi r1, qi l5] u2 (mV fun u11 => (¬ l6 = (99 : Int32) → vp_in ((((250 : Int32) * l1) + ((5 : Int32) * r1)) + l2) 1250 ∧ ∀ u12, u12 = mu u11 83 ((((250 : Int32) * l1) + ((5 : Int32) * r1)) + l2).toNatClampNeg (l6 + (1 : Int32)) → (¬ l6 = (99 : Int32) → mMT M_Mod_tell [qr 1 (some 0), qi l1, qi l2, qi r1, qi (l6 + (1 : Int32))] u12 (mV fun u13 => Z u13)) ∧ (l6 = (99 : Int32) → mMT M_Mod_tell [qr 1 (some 0), qi l1, qi l2, qi r1, qi (99 : Int32)] u12 (mV fun u14 => Z u14))) ∧ (l6 = (99 : Int32) → vp_in ((((250 : Int32) * l1) + ((5 : Int32) * r1)) + l2) 1250 ∧ ∀ u15, u15 = mu u11 83 ((((250 : Int32) * l1) + ((5 : Int32) * r1)) + l2).toNatClampNeg (0 : Int32) → (¬ l6 = (99 : Int32) → mMT M_Mod_tell [qr 1 (some 0), qi l1, qi l2, qi r1, qi (l6 + (1 : Int32))] u15 (mV fun u16 => Z u16)) ∧ (l6 = (99 : Int32) → mMT M_Mod_tell [qr 1 (some 0), qi l1, qi l2, qi r1, qi (99 : Int32)] u15 (mV fun u17 => Z u17))))))) ∧ (¬ (u1 82 (((50 : Int32) * l1) + r1).toNatClampNeg) ≤ l5 → Z u1)))) : mMT M_Mod_hear [qr 1 (some 0), qi l1, qi l2, qi l3, qi l4, qi l5, qi l6] u (mV Z) := mb_Mod_hear_0 h

theorem mb_Mod_priced_0 {u : MS} {l1 : Int32} {l2 : Int32} {l3 : Int32} {Z : Int32 → MS → Prop} (h : mWP M_Mod_priced 6 [qr 1 (some 0), qi l1, qi l2, qi l3, qi (0 : Int32), qi (0 : Int32), none] [] u (mI Z)) : mWP M_Mod_priced 0 [qr 1 (some 0), qi l1, qi l2, qi l3, none, none, none] [] u (mI Z) := by
  refine mp_iconst (dz dl_Mod_priced_0 0 0 (.iconst (0)) 1 rfl) (v := (0 : Int32)) (by decide) ?_
  refine mp_istore (i := 4) (dz dl_Mod_priced_0 1 1 (.istore 4) 2 rfl) [qr 1 (some 0), qi l1, qi l2, qi l3, qi (0 : Int32), none, none] (by decide) rfl ?_
  refine mp_iconst (dz dl_Mod_priced_0 2 3 (.iconst (0)) 1 rfl) (v := (0 : Int32)) (by decide) ?_
  refine mp_istore (i := 5) (dz dl_Mod_priced_0 3 4 (.istore 5) 2 rfl) [qr 1 (some 0), qi l1, qi l2, qi l3, qi (0 : Int32), qi (0 : Int32), none] (by decide) rfl ?_
  exact mp_cut h ⟨Or.inr rfl, Or.inr rfl, Or.inr rfl, Or.inr rfl, Or.inr rfl, Or.inr rfl, Or.inl rfl, trivial⟩
theorem mt_Mod_priced {u : MS} {l1 : Int32} {l2 : Int32} {l3 : Int32} {Z : Int32 → MS → Prop} (h : mWP M_Mod_priced 6 [qr 1 (some 0), qi l1, qi l2, qi l3, qi (0 : Int32), qi (0 : Int32), none] [] u (mI Z)) : mMT M_Mod_priced [qr 1 (some 0), qi l1, qi l2, qi l3] u (mI Z) := mb_Mod_priced_0 h

theorem mb_Mod_priced_6 {u : MS} {l1 : Int32} {l2 : Int32} {l3 : Int32} {l4 : Int32} {l5 : Int32} {Z : Int32 → MS → Prop} (h : ((u 79 0) ≤ l5 → Z l4 u) ∧ (¬ (u 79 0) ≤ l5 → vp_in l5 50 ∧ (¬ (u 81 l5.toNatClampNeg) = l2 → ((0 : Int32) ≤ 0 → mWP M_Mod_priced 6 [qr 1 (some 0), qi l1, qi l2, qi l3, qi l4, qi (l5 + 1), none] [] u (mI Z)) ∧ (¬ (0 : Int32) ≤ 0 → (l4 = 0 → mWP M_Mod_priced 6 [qr 1 (some 0), qi l1, qi l2, qi l3, qi (0 : Int32), qi (l5 + 1), none] [] u (mI Z)) ∧ (¬ l4 = 0 → (l4 ≤ (0 : Int32) → mWP M_Mod_priced 6 [qr 1 (some 0), qi l1, qi l2, qi l3, qi l4, qi (l5 + 1), none] [] u (mI Z)) ∧ (¬ l4 ≤ (0 : Int32) → mWP M_Mod_priced 6 [qr 1 (some 0), qi l1, qi l2, qi l3, qi (0 : Int32), qi (l5 + 1), none] [] u (mI Z))))) ∧ ((u 81 l5.toNatClampNeg) = l2 → vp_in ((((250 : Int32) * l1) + ((5 : Int32) * l5)) + l3) 1250 ∧ ((u 83 ((((250 : Int32) * l1) + ((5 : Int32) * l5)) + l3).toNatClampNeg) ≤ 0 → mWP M_Mod_priced 6 [qr 1 (some 0), qi l1, qi l2, qi l3, qi l4, qi (l5 + 1), none] [] u (mI Z)) ∧ (¬ (u 83 ((((250 : Int32) * l1) + ((5 : Int32) * l5)) + l3).toNatClampNeg) ≤ 0 → (l4 = 0 → mWP M_Mod_priced 6 [qr 1 (some 0), qi l1, qi l2, qi l3, qi (u 83 ((((250 : Int32) * l1) + ((5 : Int32) * l5)) + l3).toNatClampNeg), qi (l5 + 1), none] [] u (mI Z)) ∧ (¬ l4 = 0 → (l4 ≤ (u 83 ((((250 : Int32) * l1) + ((5 : Int32) * l5)) + l3).toNatClampNeg) → mWP M_Mod_priced 6 [qr 1 (some 0), qi l1, qi l2, qi l3, qi l4, qi (l5 + 1), none] [] u (mI Z)) ∧ (¬ l4 ≤ (u 83 ((((250 : Int32) * l1) + ((5 : Int32) * l5)) + l3).toNatClampNeg) → mWP M_Mod_priced 6 [qr 1 (some 0), qi l1, qi l2, qi l3, qi (u 83 ((((250 : Int32) * l1) + ((5 : Int32) * l5)) + l3).toNatClampNeg), qi (l5 + 1), none] [] u (mI Z))))))) : mWP M_Mod_priced 6 [qr 1 (some 0), qi l1, qi l2, qi l3, qi l4, qi l5, none] [] u (mI Z) := by
  refine mp_iload (i := 5) (x := l5) (dz dl_Mod_priced_0 4 6 (.iload 5) 2 rfl) rfl ?_
  refine mp_aload_n (i := 0) (v := qr 1 (some 0)) (dz dl_Mod_priced_0 5 8 (.aload_n 0) 1 rfl) rfl rfl trivial ?_
  refine mp_getI (dz dl_Mod_priced_0 6 9 (.getfield 219) 3 rfl) lk_Mod_219 kd_79 rfl ?_
  refine mp_icmp_ge (tgt := 81) (dz dl_Mod_priced_0 7 12 (.if_icmp .ge (69)) 3 rfl) (by decide) (fun hc => ?_) (fun hc => ?_)
  · replace h := h.1 hc
    refine mp_iload (i := 4) (x := l4) (dz dl_Mod_priced_1 2 81 (.iload 4) 2 rfl) rfl ?_
    exact mp_rt (qi _) (rt_I rfl (dz dl_Mod_priced_1 3 83 (.ireturn) 1 rfl)) ⟨_, rfl, h⟩
  · replace h := h.2 hc
    refine mp_aload_n (i := 0) (v := qr 1 (some 0)) (dz dl_Mod_priced_0 8 15 (.aload_n 0) 1 rfl) rfl rfl trivial ?_
    refine mp_getA (dz dl_Mod_priced_0 9 16 (.getfield 46) 3 rfl) lk_Mod_46 (q := 0) kd_81 rfl sm_81 ?_
    refine mp_iload (i := 5) (x := l5) (dz dl_Mod_priced_0 10 19 (.iload 5) 2 rfl) rfl ?_
    obtain ⟨i1, h⟩ := h
    refine mp_iald (dz dl_Mod_priced_0 11 21 (.iaload) 1 rfl) kd_81 rfl sm_81 i1 ?_
    refine mp_iload_n (i := 2) (x := l2) (dz dl_Mod_priced_0 12 22 (.iload_n 2) 1 rfl) rfl rfl ?_
    refine mp_icmp_ne (tgt := 46) (dz dl_Mod_priced_0 13 23 (.if_icmp .ne (23)) 3 rfl) (by decide) (fun hc => ?_) (fun hc => ?_)
    · replace h := h.1 hc
      refine mp_iconst (dz dl_Mod_priced_0 27 46 (.iconst (0)) 1 rfl) (v := (0 : Int32)) (by decide) ?_
      refine mp_istore (i := 6) (dz dl_Mod_priced_0 28 47 (.istore 6) 2 rfl) [qr 1 (some 0), qi l1, qi l2, qi l3, qi l4, qi l5, qi (0 : Int32)] (by decide) rfl ?_
      refine mp_iload (i := 6) (x := (0 : Int32)) (dz dl_Mod_priced_0 29 49 (.iload 6) 2 rfl) rfl ?_
      refine mp_if_le (tgt := 71) (dz dl_Mod_priced_0 30 51 (.ifCond .le (20)) 3 rfl) (by decide) (fun hc => ?_) (fun hc => ?_)
      · replace h := h.1 hc
        refine mp_iload (i := 4) (x := l4) (dz dl_Mod_priced_0 38 71 (.iload 4) 2 rfl) rfl ?_
        refine mp_istore (i := 4) (dz dl_Mod_priced_0 39 73 (.istore 4) 2 rfl) [qr 1 (some 0), qi l1, qi l2, qi l3, qi l4, qi l5, qi (0 : Int32)] (by decide) rfl ?_
        refine mp_iinc (i := 5) (v := l5 + 1) (dz dl_Mod_priced_1 0 75 (.iinc 5 (1)) 3 rfl) rfl (congrArg (fun z => l5 + z) (by decide)) [qr 1 (some 0), qi l1, qi l2, qi l3, qi l4, qi (l5 + 1), qi (0 : Int32)] (by decide) rfl ?_
        refine mp_goto (tgt := 6) (dz dl_Mod_priced_1 1 78 (.goto (-72)) 3 rfl) (by decide) ?_
        exact mp_cut h ⟨Or.inr rfl, Or.inr rfl, Or.inr rfl, Or.inr rfl, Or.inr rfl, Or.inr rfl, Or.inl rfl, trivial⟩
      · replace h := h.2 hc
        refine mp_iload (i := 4) (x := l4) (dz dl_Mod_priced_0 31 54 (.iload 4) 2 rfl) rfl ?_
        refine mp_if_eq (tgt := 66) (dz dl_Mod_priced_0 32 56 (.ifCond .eq (10)) 3 rfl) (by decide) (fun hc => ?_) (fun hc => ?_)
        · replace h := h.1 hc
          refine mp_iload (i := 6) (x := (0 : Int32)) (dz dl_Mod_priced_0 36 66 (.iload 6) 2 rfl) rfl ?_
          refine mp_goto (tgt := 73) (dz dl_Mod_priced_0 37 68 (.goto (5)) 3 rfl) (by decide) ?_
          refine mp_istore (i := 4) (dz dl_Mod_priced_0 39 73 (.istore 4) 2 rfl) [qr 1 (some 0), qi l1, qi l2, qi l3, qi (0 : Int32), qi l5, qi (0 : Int32)] (by decide) rfl ?_
          refine mp_iinc (i := 5) (v := l5 + 1) (dz dl_Mod_priced_1 0 75 (.iinc 5 (1)) 3 rfl) rfl (congrArg (fun z => l5 + z) (by decide)) [qr 1 (some 0), qi l1, qi l2, qi l3, qi (0 : Int32), qi (l5 + 1), qi (0 : Int32)] (by decide) rfl ?_
          refine mp_goto (tgt := 6) (dz dl_Mod_priced_1 1 78 (.goto (-72)) 3 rfl) (by decide) ?_
          exact mp_cut h ⟨Or.inr rfl, Or.inr rfl, Or.inr rfl, Or.inr rfl, Or.inr rfl, Or.inr rfl, Or.inl rfl, trivial⟩
        · replace h := h.2 hc
          refine mp_iload (i := 6) (x := (0 : Int32)) (dz dl_Mod_priced_0 33 59 (.iload 6) 2 rfl) rfl ?_
          refine mp_iload (i := 4) (x := l4) (dz dl_Mod_priced_0 34 61 (.iload 4) 2 rfl) rfl ?_
          refine mp_icmp_ge (tgt := 71) (dz dl_Mod_priced_0 35 63 (.if_icmp .ge (8)) 3 rfl) (by decide) (fun hc => ?_) (fun hc => ?_)
          · replace h := h.1 hc
            refine mp_iload (i := 4) (x := l4) (dz dl_Mod_priced_0 38 71 (.iload 4) 2 rfl) rfl ?_
            refine mp_istore (i := 4) (dz dl_Mod_priced_0 39 73 (.istore 4) 2 rfl) [qr 1 (some 0), qi l1, qi l2, qi l3, qi l4, qi l5, qi (0 : Int32)] (by decide) rfl ?_
            refine mp_iinc (i := 5) (v := l5 + 1) (dz dl_Mod_priced_1 0 75 (.iinc 5 (1)) 3 rfl) rfl (congrArg (fun z => l5 + z) (by decide)) [qr 1 (some 0), qi l1, qi l2, qi l3, qi l4, qi (l5 + 1), qi (0 : Int32)] (by decide) rfl ?_
            refine mp_goto (tgt := 6) (dz dl_Mod_priced_1 1 78 (.goto (-72)) 3 rfl) (by decide) ?_
            exact mp_cut h ⟨Or.inr rfl, Or.inr rfl, Or.inr rfl, Or.inr rfl, Or.inr rfl, Or.inr rfl, Or.inl rfl, trivial⟩
          · replace h := h.2 hc
            refine mp_iload (i := 6) (x := (0 : Int32)) (dz dl_Mod_priced_0 36 66 (.iload 6) 2 rfl) rfl ?_
            refine mp_goto (tgt := 73) (dz dl_Mod_priced_0 37 68 (.goto (5)) 3 rfl) (by decide) ?_
            refine mp_istore (i := 4) (dz dl_Mod_priced_0 39 73 (.istore 4) 2 rfl) [qr 1 (some 0), qi l1, qi l2, qi l3, qi (0 : Int32), qi l5, qi (0 : Int32)] (by decide) rfl ?_
            refine mp_iinc (i := 5) (v := l5 + 1) (dz dl_Mod_priced_1 0 75 (.iinc 5 (1)) 3 rfl) rfl (congrArg (fun z => l5 + z) (by decide)) [qr 1 (some 0), qi l1, qi l2, qi l3, qi (0 : Int32), qi (l5 + 1), qi (0 : Int32)] (by decide) rfl ?_
            refine mp_goto (tgt := 6) (dz dl_Mod_priced_1 1 78 (.goto (-72)) 3 rfl) (by decide) ?_
            exact mp_cut h ⟨Or.inr rfl, Or.inr rfl, Or.inr rfl, Or.inr rfl, Or.inr rfl, Or.inr rfl, Or.inl rfl, trivial⟩
    · replace h := h.2 hc
      refine mp_aload_n (i := 0) (v := qr 1 (some 0)) (dz dl_Mod_priced_0 14 26 (.aload_n 0) 1 rfl) rfl rfl trivial ?_
      refine mp_getA (dz dl_Mod_priced_0 15 27 (.getfield 52) 3 rfl) lk_Mod_52 (q := 0) kd_83 rfl sm_83 ?_
      refine mp_sipush (dz dl_Mod_priced_0 16 30 (.sipush (250)) 3 rfl) (v := (250 : Int32)) (by decide) ?_
      refine mp_iload_n (i := 1) (x := l1) (dz dl_Mod_priced_0 17 33 (.iload_n 1) 1 rfl) rfl rfl ?_
      refine mp_imul (dz dl_Mod_priced_0 18 34 (.imul) 1 rfl) ?_
      refine mp_iconst (dz dl_Mod_priced_0 19 35 (.iconst (5)) 1 rfl) (v := (5 : Int32)) (by decide) ?_
      refine mp_iload (i := 5) (x := l5) (dz dl_Mod_priced_0 20 36 (.iload 5) 2 rfl) rfl ?_
      refine mp_imul (dz dl_Mod_priced_0 21 38 (.imul) 1 rfl) ?_
      refine mp_iadd (dz dl_Mod_priced_0 22 39 (.iadd) 1 rfl) ?_
      refine mp_iload_n (i := 3) (x := l3) (dz dl_Mod_priced_0 23 40 (.iload_n 3) 1 rfl) rfl rfl ?_
      refine mp_iadd (dz dl_Mod_priced_0 24 41 (.iadd) 1 rfl) ?_
      obtain ⟨i2, h⟩ := h
      refine mp_iald (dz dl_Mod_priced_0 25 42 (.iaload) 1 rfl) kd_83 rfl sm_83 i2 ?_
      refine mp_goto (tgt := 47) (dz dl_Mod_priced_0 26 43 (.goto (4)) 3 rfl) (by decide) ?_
      refine mp_istore (i := 6) (dz dl_Mod_priced_0 28 47 (.istore 6) 2 rfl) [qr 1 (some 0), qi l1, qi l2, qi l3, qi l4, qi l5, qi (u 83 ((((250 : Int32) * l1) + ((5 : Int32) * l5)) + l3).toNatClampNeg)] (by decide) rfl ?_
      refine mp_iload (i := 6) (x := u 83 ((((250 : Int32) * l1) + ((5 : Int32) * l5)) + l3).toNatClampNeg) (dz dl_Mod_priced_0 29 49 (.iload 6) 2 rfl) rfl ?_
      refine mp_if_le (tgt := 71) (dz dl_Mod_priced_0 30 51 (.ifCond .le (20)) 3 rfl) (by decide) (fun hc => ?_) (fun hc => ?_)
      · replace h := h.1 hc
        refine mp_iload (i := 4) (x := l4) (dz dl_Mod_priced_0 38 71 (.iload 4) 2 rfl) rfl ?_
        refine mp_istore (i := 4) (dz dl_Mod_priced_0 39 73 (.istore 4) 2 rfl) [qr 1 (some 0), qi l1, qi l2, qi l3, qi l4, qi l5, qi (u 83 ((((250 : Int32) * l1) + ((5 : Int32) * l5)) + l3).toNatClampNeg)] (by decide) rfl ?_
        refine mp_iinc (i := 5) (v := l5 + 1) (dz dl_Mod_priced_1 0 75 (.iinc 5 (1)) 3 rfl) rfl (congrArg (fun z => l5 + z) (by decide)) [qr 1 (some 0), qi l1, qi l2, qi l3, qi l4, qi (l5 + 1), qi (u 83 ((((250 : Int32) * l1) + ((5 : Int32) * l5)) + l3).toNatClampNeg)] (by decide) rfl ?_
        refine mp_goto (tgt := 6) (dz dl_Mod_priced_1 1 78 (.goto (-72)) 3 rfl) (by decide) ?_
        exact mp_cut h ⟨Or.inr rfl, Or.inr rfl, Or.inr rfl, Or.inr rfl, Or.inr rfl, Or.inr rfl, Or.inl rfl, trivial⟩
      · replace h := h.2 hc
        refine mp_iload (i := 4) (x := l4) (dz dl_Mod_priced_0 31 54 (.iload 4) 2 rfl) rfl ?_
        refine mp_if_eq (tgt := 66) (dz dl_Mod_priced_0 32 56 (.ifCond .eq (10)) 3 rfl) (by decide) (fun hc => ?_) (fun hc => ?_)
        · replace h := h.1 hc
          refine mp_iload (i := 6) (x := u 83 ((((250 : Int32) * l1) + ((5 : Int32) * l5)) + l3).toNatClampNeg) (dz dl_Mod_priced_0 36 66 (.iload 6) 2 rfl) rfl ?_
          refine mp_goto (tgt := 73) (dz dl_Mod_priced_0 37 68 (.goto (5)) 3 rfl) (by decide) ?_
          refine mp_istore (i := 4) (dz dl_Mod_priced_0 39 73 (.istore 4) 2 rfl) [qr 1 (some 0), qi l1, qi l2, qi l3, qi (u 83 ((((250 : Int32) * l1) + ((5 : Int32) * l5)) + l3).toNatClampNeg), qi l5, qi (u 83 ((((250 : Int32) * l1) + ((5 : Int32) * l5)) + l3).toNatClampNeg)] (by decide) rfl ?_
          refine mp_iinc (i := 5) (v := l5 + 1) (dz dl_Mod_priced_1 0 75 (.iinc 5 (1)) 3 rfl) rfl (congrArg (fun z => l5 + z) (by decide)) [qr 1 (some 0), qi l1, qi l2, qi l3, qi (u 83 ((((250 : Int32) * l1) + ((5 : Int32) * l5)) + l3).toNatClampNeg), qi (l5 + 1), qi (u 83 ((((250 : Int32) * l1) + ((5 : Int32) * l5)) + l3).toNatClampNeg)] (by decide) rfl ?_
          refine mp_goto (tgt := 6) (dz dl_Mod_priced_1 1 78 (.goto (-72)) 3 rfl) (by decide) ?_
          exact mp_cut h ⟨Or.inr rfl, Or.inr rfl, Or.inr rfl, Or.inr rfl, Or.inr rfl, Or.inr rfl, Or.inl rfl, trivial⟩
        · replace h := h.2 hc
          refine mp_iload (i := 6) (x := u 83 ((((250 : Int32) * l1) + ((5 : Int32) * l5)) + l3).toNatClampNeg) (dz dl_Mod_priced_0 33 59 (.iload 6) 2 rfl) rfl ?_
          refine mp_iload (i := 4) (x := l4) (dz dl_Mod_priced_0 34 61 (.iload 4) 2 rfl) rfl ?_
          refine mp_icmp_ge (tgt := 71) (dz dl_Mod_priced_0 35 63 (.if_icmp .ge (8)) 3 rfl) (by decide) (fun hc => ?_) (fun hc => ?_)
          · replace h := h.1 hc
            refine mp_iload (i := 4) (x := l4) (dz dl_Mod_priced_0 38 71 (.iload 4) 2 rfl) rfl ?_
            refine mp_istore (i := 4) (dz dl_Mod_priced_0 39 73 (.istore 4) 2 rfl) [qr 1 (some 0), qi l1, qi l2, qi l3, qi l4, qi l5, qi (u 83 ((((250 : Int32) * l1) + ((5 : Int32) * l5)) + l3).toNatClampNeg)] (by decide) rfl ?_
            refine mp_iinc (i := 5) (v := l5 + 1) (dz dl_Mod_priced_1 0 75 (.iinc 5 (1)) 3 rfl) rfl (congrArg (fun z => l5 + z) (by decide)) [qr 1 (some 0), qi l1, qi l2, qi l3, qi l4, qi (l5 + 1), qi (u 83 ((((250 : Int32) * l1) + ((5 : Int32) * l5)) + l3).toNatClampNeg)] (by decide) rfl ?_
            refine mp_goto (tgt := 6) (dz dl_Mod_priced_1 1 78 (.goto (-72)) 3 rfl) (by decide) ?_
            exact mp_cut h ⟨Or.inr rfl, Or.inr rfl, Or.inr rfl, Or.inr rfl, Or.inr rfl, Or.inr rfl, Or.inl rfl, trivial⟩
          · replace h := h.2 hc
            refine mp_iload (i := 6) (x := u 83 ((((250 : Int32) * l1) + ((5 : Int32) * l5)) + l3).toNatClampNeg) (dz dl_Mod_priced_0 36 66 (.iload 6) 2 rfl) rfl ?_
            refine mp_goto (tgt := 73) (dz dl_Mod_priced_0 37 68 (.goto (5)) 3 rfl) (by decide) ?_
            refine mp_istore (i := 4) (dz dl_Mod_priced_0 39 73 (.istore 4) 2 rfl) [qr 1 (some 0), qi l1, qi l2, qi l3, qi (u 83 ((((250 : Int32) * l1) + ((5 : Int32) * l5)) + l3).toNatClampNeg), qi l5, qi (u 83 ((((250 : Int32) * l1) + ((5 : Int32) * l5)) + l3).toNatClampNeg)] (by decide) rfl ?_
            refine mp_iinc (i := 5) (v := l5 + 1) (dz dl_Mod_priced_1 0 75 (.iinc 5 (1)) 3 rfl) rfl (congrArg (fun z => l5 + z) (by decide)) [qr 1 (some 0), qi l1, qi l2, qi l3, qi (u 83 ((((250 : Int32) * l1) + ((5 : Int32) * l5)) + l3).toNatClampNeg), qi (l5 + 1), qi (u 83 ((((250 : Int32) * l1) + ((5 : Int32) * l5)) + l3).toNatClampNeg)] (by decide) rfl ?_
            refine mp_goto (tgt := 6) (dz dl_Mod_priced_1 1 78 (.goto (-72)) 3 rfl) (by decide) ?_
            exact mp_cut h ⟨Or.inr rfl, Or.inr rfl, Or.inr rfl, Or.inr rfl, Or.inr rfl, Or.inr rfl, Or.inl rfl, trivial⟩

theorem mb_Mod_cost_0 {u : MS} {l1 : Int32} {l2 : Int32} {l3 : Int32} {Z : Int32 → MS → Prop} (h : mMT M_Mod_isNode [qi l1] u (mI fun r1 u1 => (r1 = 0 → Z (-1 : Int32) u1) ∧ (¬ r1 = 0 → mMT M_Mod_isName [qr 1 (some 0), qi l2] u1 (mI fun r2 u2 => (r2 = 0 → Z (-1 : Int32) u2) ∧ (¬ r2 = 0 → (l3 < 0 → Z (-1 : Int32) u2) ∧ (¬ l3 < 0 → ((4 : Int32) < l3 → Z (-1 : Int32) u2) ∧ (¬ (4 : Int32) < l3 → mMT M_Mod_priced [qr 1 (some 0), qi l1, qi l2, qi l3] u2 (mI fun r3 u3 => Z (r3 - (1 : Int32)) u3)))))))) : mWP M_Mod_cost 0 [qr 1 (some 0), qi l1, qi l2, qi l3] [] u (mI Z) := by
  refine mp_iload_n (i := 1) (x := l1) (dz dl_Mod_cost_0 0 0 (.iload_n 1) 1 rfl) rfl rfl ?_
  refine mp_callS [qi l1] [] (dz dl_Mod_cost_0 1 1 (.invokestatic 161) 3 rfl) ok_Mod_isNode lm_Mod_161 ws_Mod_isNode ⟨Nat.le_of_ble_eq_true rfl, Nat.le_of_ble_eq_true rfl⟩ pn_Mod_isNode (Nat.le_of_ble_eq_true rfl) (Nat.le_of_ble_eq_true rfl) (Or.inl rfl) (mmono h ?_)
  rintro _ u1 ⟨r1, rfl, h⟩
  show mWP _ _ _ [qi r1] _ _
  refine mp_if_eq (tgt := 36) (dz dl_Mod_cost_0 2 4 (.ifCond .eq (32)) 3 rfl) (by decide) (fun hc => ?_) (fun hc => ?_)
  · replace h := h.1 hc
    refine mp_iconst (dz dl_Mod_cost_0 20 36 (.iconst (-1)) 1 rfl) (v := (-1 : Int32)) (by decide) ?_
    exact mp_rt (qi _) (rt_I rfl (dz dl_Mod_cost_0 21 37 (.ireturn) 1 rfl)) ⟨_, rfl, h⟩
  · replace h := h.2 hc
    refine mp_aload_n (i := 0) (v := qr 1 (some 0)) (dz dl_Mod_cost_0 3 7 (.aload_n 0) 1 rfl) rfl rfl trivial ?_
    refine mp_iload_n (i := 2) (x := l2) (dz dl_Mod_cost_0 4 8 (.iload_n 2) 1 rfl) rfl rfl ?_
    refine mp_callV [qi l2] [] (dz dl_Mod_cost_0 5 9 (.invokevirtual 222) 3 rfl) ok_Mod_isName lm_Mod_222 ws_Mod_isName wv_Mod_isName ⟨Nat.le_of_ble_eq_true rfl, Nat.le_of_ble_eq_true rfl⟩ pn_Mod_isName (Nat.le_of_ble_eq_true rfl) (Nat.le_of_ble_eq_true rfl) (Or.inl rfl) (mmono h ?_)
    rintro _ u2 ⟨r2, rfl, h⟩
    show mWP _ _ _ [qi r2] _ _
    refine mp_if_eq (tgt := 36) (dz dl_Mod_cost_0 6 12 (.ifCond .eq (24)) 3 rfl) (by decide) (fun hc => ?_) (fun hc => ?_)
    · replace h := h.1 hc
      refine mp_iconst (dz dl_Mod_cost_0 20 36 (.iconst (-1)) 1 rfl) (v := (-1 : Int32)) (by decide) ?_
      exact mp_rt (qi _) (rt_I rfl (dz dl_Mod_cost_0 21 37 (.ireturn) 1 rfl)) ⟨_, rfl, h⟩
    · replace h := h.2 hc
      refine mp_iload_n (i := 3) (x := l3) (dz dl_Mod_cost_0 7 15 (.iload_n 3) 1 rfl) rfl rfl ?_
      refine mp_if_lt (tgt := 36) (dz dl_Mod_cost_0 8 16 (.ifCond .lt (20)) 3 rfl) (by decide) (fun hc => ?_) (fun hc => ?_)
      · replace h := h.1 hc
        refine mp_iconst (dz dl_Mod_cost_0 20 36 (.iconst (-1)) 1 rfl) (v := (-1 : Int32)) (by decide) ?_
        exact mp_rt (qi _) (rt_I rfl (dz dl_Mod_cost_0 21 37 (.ireturn) 1 rfl)) ⟨_, rfl, h⟩
      · replace h := h.2 hc
        refine mp_iload_n (i := 3) (x := l3) (dz dl_Mod_cost_0 9 19 (.iload_n 3) 1 rfl) rfl rfl ?_
        refine mp_iconst (dz dl_Mod_cost_0 10 20 (.iconst (4)) 1 rfl) (v := (4 : Int32)) (by decide) ?_
        refine mp_icmp_gt (tgt := 36) (dz dl_Mod_cost_0 11 21 (.if_icmp .gt (15)) 3 rfl) (by decide) (fun hc => ?_) (fun hc => ?_)
        · replace h := h.1 hc
          refine mp_iconst (dz dl_Mod_cost_0 20 36 (.iconst (-1)) 1 rfl) (v := (-1 : Int32)) (by decide) ?_
          exact mp_rt (qi _) (rt_I rfl (dz dl_Mod_cost_0 21 37 (.ireturn) 1 rfl)) ⟨_, rfl, h⟩
        · replace h := h.2 hc
          refine mp_aload_n (i := 0) (v := qr 1 (some 0)) (dz dl_Mod_cost_0 12 24 (.aload_n 0) 1 rfl) rfl rfl trivial ?_
          refine mp_iload_n (i := 1) (x := l1) (dz dl_Mod_cost_0 13 25 (.iload_n 1) 1 rfl) rfl rfl ?_
          refine mp_iload_n (i := 2) (x := l2) (dz dl_Mod_cost_0 14 26 (.iload_n 2) 1 rfl) rfl rfl ?_
          refine mp_iload_n (i := 3) (x := l3) (dz dl_Mod_cost_0 15 27 (.iload_n 3) 1 rfl) rfl rfl ?_
          refine mp_callV [qi l1, qi l2, qi l3] [] (dz dl_Mod_cost_0 16 28 (.invokevirtual 240) 3 rfl) ok_Mod_priced lm_Mod_240 ws_Mod_priced wv_Mod_priced ⟨Nat.le_of_ble_eq_true rfl, Nat.le_of_ble_eq_true rfl⟩ pn_Mod_priced (Nat.le_of_ble_eq_true rfl) (Nat.le_of_ble_eq_true rfl) (Or.inl rfl) (mmono h ?_)
          rintro _ u3 ⟨r3, rfl, h⟩
          show mWP _ _ _ [qi r3] _ _
          refine mp_iconst (dz dl_Mod_cost_0 17 31 (.iconst (1)) 1 rfl) (v := (1 : Int32)) (by decide) ?_
          refine mp_isub (dz dl_Mod_cost_0 18 32 (.isub) 1 rfl) ?_
          refine mp_goto (tgt := 37) (dz dl_Mod_cost_0 19 33 (.goto (4)) 3 rfl) (by decide) ?_
          exact mp_rt (qi _) (rt_I rfl (dz dl_Mod_cost_0 21 37 (.ireturn) 1 rfl)) ⟨_, rfl, h⟩
theorem mt_Mod_cost {u : MS} {l1 : Int32} {l2 : Int32} {l3 : Int32} {Z : Int32 → MS → Prop} (h : mMT M_Mod_isNode [qi l1] u (mI fun r1 u1 => (r1 = 0 → Z (-1 : Int32) u1) ∧ (¬ r1 = 0 → mMT M_Mod_isName [qr 1 (some 0), qi l2] u1 (mI fun r2 u2 => (r2 = 0 → Z (-1 : Int32) u2) ∧ (¬ r2 = 0 → (l3 < 0 → Z (-1 : Int32) u2) ∧ (¬ l3 < 0 → ((4 : Int32) < l3 → Z (-1 : Int32) u2) ∧ (¬ (4 : Int32) < l3 → mMT M_Mod_priced [qr 1 (some 0), qi l1, qi l2, qi l3] u2 (mI fun r3 u3 => Z (r3 - (1 : Int32)) u3)))))))) : mMT M_Mod_cost [qr 1 (some 0), qi l1, qi l2, qi l3] u (mI Z) := mb_Mod_cost_0 h

theorem mb_Mod_longest_0 {u : MS} {l1 : Int32} {l2 : Int32} {Z : Int32 → MS → Prop} (h : vp_in l2 48 ∧ mWP M_Mod_longest 10 [qr 1 (some 0), qi l1, none, qi l2, qi (u 72 l2.toNatClampNeg), none] [] u (mI Z)) : mWP M_Mod_longest 0 [qr 1 (some 0), qi l1, qi l2, none, none, none] [] u (mI Z) := by
  refine mp_iload_n (i := 2) (x := l2) (dz dl_Mod_longest_0 0 0 (.iload_n 2) 1 rfl) rfl rfl ?_
  refine mp_istore_n (i := 3) (dz dl_Mod_longest_0 1 1 (.istore_n 3) 1 rfl) rfl [qr 1 (some 0), qi l1, qi l2, qi l2, none, none] (by decide) rfl ?_
  refine mp_aload_n (i := 0) (v := qr 1 (some 0)) (dz dl_Mod_longest_0 2 2 (.aload_n 0) 1 rfl) rfl rfl trivial ?_
  refine mp_getA (dz dl_Mod_longest_0 3 3 (.getfield 21) 3 rfl) lk_Mod_21 (q := 0) kd_72 rfl sm_72 ?_
  refine mp_iload_n (i := 2) (x := l2) (dz dl_Mod_longest_0 4 6 (.iload_n 2) 1 rfl) rfl rfl ?_
  obtain ⟨i1, h⟩ := h
  refine mp_iald (dz dl_Mod_longest_0 5 7 (.iaload) 1 rfl) kd_72 rfl sm_72 i1 ?_
  refine mp_istore (i := 4) (dz dl_Mod_longest_0 6 8 (.istore 4) 2 rfl) [qr 1 (some 0), qi l1, qi l2, qi l2, qi (u 72 l2.toNatClampNeg), none] (by decide) rfl ?_
  exact mp_cut h ⟨Or.inr rfl, Or.inr rfl, Or.inl rfl, Or.inr rfl, Or.inr rfl, Or.inl rfl, trivial⟩
theorem mt_Mod_longest {u : MS} {l1 : Int32} {l2 : Int32} {Z : Int32 → MS → Prop} (h : vp_in l2 48 ∧ mWP M_Mod_longest 10 [qr 1 (some 0), qi l1, none, qi l2, qi (u 72 l2.toNatClampNeg), none] [] u (mI Z)) : mMT M_Mod_longest [qr 1 (some 0), qi l1, qi l2] u (mI Z) := mb_Mod_longest_0 h

theorem mb_Mod_longest_10 {u : MS} {l1 : Int32} {l3 : Int32} {l4 : Int32} {Z : Int32 → MS → Prop} (h : (l4 < 0 → Z (-1 : Int32) u) ∧ (¬ l4 < 0 → mWP M_Mod_longest 18 [qr 1 (some 0), qi l1, none, qi l3, qi l4, qi (0 : Int32)] [] u (mI Z))) : mWP M_Mod_longest 10 [qr 1 (some 0), qi l1, none, qi l3, qi l4, none] [] u (mI Z) := by
  refine mp_iload (i := 4) (x := l4) (dz dl_Mod_longest_0 7 10 (.iload 4) 2 rfl) rfl ?_
  refine mp_if_lt (tgt := 56) (dz dl_Mod_longest_0 8 12 (.ifCond .lt (44)) 3 rfl) (by decide) (fun hc => ?_) (fun hc => ?_)
  · replace h := h.1 hc
    refine mp_iconst (dz dl_Mod_longest_0 31 56 (.iconst (-1)) 1 rfl) (v := (-1 : Int32)) (by decide) ?_
    exact mp_rt (qi _) (rt_I rfl (dz dl_Mod_longest_0 32 57 (.ireturn) 1 rfl)) ⟨_, rfl, h⟩
  · replace h := h.2 hc
    refine mp_iconst (dz dl_Mod_longest_0 9 15 (.iconst (0)) 1 rfl) (v := (0 : Int32)) (by decide) ?_
    refine mp_istore (i := 5) (dz dl_Mod_longest_0 10 16 (.istore 5) 2 rfl) [qr 1 (some 0), qi l1, none, qi l3, qi l4, qi (0 : Int32)] (by decide) rfl ?_
    exact mp_cut h ⟨Or.inr rfl, Or.inr rfl, Or.inl rfl, Or.inr rfl, Or.inr rfl, Or.inr rfl, trivial⟩

theorem mb_Mod_longest_18 {u : MS} {l1 : Int32} {l3 : Int32} {l4 : Int32} {l5 : Int32} {Z : Int32 → MS → Prop} (h : ((5 : Int32) ≤ l5 → vp_in l3 48 ∧ mWP M_Mod_longest 10 [qr 1 (some 0), qi l1, none, qi (u 71 l3.toNatClampNeg), qi (l4 + (-1)), none] [] u (mI Z)) ∧ (¬ (5 : Int32) ≤ l5 → mMT M_Mod_priced [qr 1 (some 0), qi l1, qi l3, qi l5] u (mI fun r1 u1 => (r1 ≤ 0 → mWP M_Mod_longest 18 [qr 1 (some 0), qi l1, none, qi l3, qi l4, qi (l5 + 1)] [] u1 (mI Z)) ∧ (¬ r1 ≤ 0 → Z l3 u1)))) : mWP M_Mod_longest 18 [qr 1 (some 0), qi l1, none, qi l3, qi l4, qi l5] [] u (mI Z) := by
  refine mp_iload (i := 5) (x := l5) (dz dl_Mod_longest_0 11 18 (.iload 5) 2 rfl) rfl ?_
  refine mp_iconst (dz dl_Mod_longest_0 12 20 (.iconst (5)) 1 rfl) (v := (5 : Int32)) (by decide) ?_
  refine mp_icmp_ge (tgt := 43) (dz dl_Mod_longest_0 13 21 (.if_icmp .ge (22)) 3 rfl) (by decide) (fun hc => ?_) (fun hc => ?_)
  · replace h := h.1 hc
    refine mp_aload_n (i := 0) (v := qr 1 (some 0)) (dz dl_Mod_longest_0 24 43 (.aload_n 0) 1 rfl) rfl rfl trivial ?_
    refine mp_getA (dz dl_Mod_longest_0 25 44 (.getfield 17) 3 rfl) lk_Mod_17 (q := 0) kd_71 rfl sm_71 ?_
    refine mp_iload_n (i := 3) (x := l3) (dz dl_Mod_longest_0 26 47 (.iload_n 3) 1 rfl) rfl rfl ?_
    obtain ⟨i1, h⟩ := h
    refine mp_iald (dz dl_Mod_longest_0 27 48 (.iaload) 1 rfl) kd_71 rfl sm_71 i1 ?_
    refine mp_istore_n (i := 3) (dz dl_Mod_longest_0 28 49 (.istore_n 3) 1 rfl) rfl [qr 1 (some 0), qi l1, none, qi (u 71 l3.toNatClampNeg), qi l4, qi l5] (by decide) rfl ?_
    refine mp_iinc (i := 4) (v := l4 + (-1)) (dz dl_Mod_longest_0 29 50 (.iinc 4 (-1)) 3 rfl) rfl (congrArg (fun z => l4 + z) (by decide)) [qr 1 (some 0), qi l1, none, qi (u 71 l3.toNatClampNeg), qi (l4 + (-1)), qi l5] (by decide) rfl ?_
    refine mp_goto (tgt := 10) (dz dl_Mod_longest_0 30 53 (.goto (-43)) 3 rfl) (by decide) ?_
    exact mp_cut h ⟨Or.inr rfl, Or.inr rfl, Or.inl rfl, Or.inr rfl, Or.inr rfl, Or.inl rfl, trivial⟩
  · replace h := h.2 hc
    refine mp_aload_n (i := 0) (v := qr 1 (some 0)) (dz dl_Mod_longest_0 14 24 (.aload_n 0) 1 rfl) rfl rfl trivial ?_
    refine mp_iload_n (i := 1) (x := l1) (dz dl_Mod_longest_0 15 25 (.iload_n 1) 1 rfl) rfl rfl ?_
    refine mp_iload_n (i := 3) (x := l3) (dz dl_Mod_longest_0 16 26 (.iload_n 3) 1 rfl) rfl rfl ?_
    refine mp_iload (i := 5) (x := l5) (dz dl_Mod_longest_0 17 27 (.iload 5) 2 rfl) rfl ?_
    refine mp_callV [qi l1, qi l3, qi l5] [] (dz dl_Mod_longest_0 18 29 (.invokevirtual 240) 3 rfl) ok_Mod_priced lm_Mod_240 ws_Mod_priced wv_Mod_priced ⟨Nat.le_of_ble_eq_true rfl, Nat.le_of_ble_eq_true rfl⟩ pn_Mod_priced (Nat.le_of_ble_eq_true rfl) (Nat.le_of_ble_eq_true rfl) (Or.inl rfl) (mmono h ?_)
    rintro _ u1 ⟨r1, rfl, h⟩
    show mWP _ _ _ [qi r1] _ _
    refine mp_if_le (tgt := 37) (dz dl_Mod_longest_0 19 32 (.ifCond .le (5)) 3 rfl) (by decide) (fun hc => ?_) (fun hc => ?_)
    · replace h := h.1 hc
      refine mp_iinc (i := 5) (v := l5 + 1) (dz dl_Mod_longest_0 22 37 (.iinc 5 (1)) 3 rfl) rfl (congrArg (fun z => l5 + z) (by decide)) [qr 1 (some 0), qi l1, none, qi l3, qi l4, qi (l5 + 1)] (by decide) rfl ?_
      refine mp_goto (tgt := 18) (dz dl_Mod_longest_0 23 40 (.goto (-22)) 3 rfl) (by decide) ?_
      exact mp_cut h ⟨Or.inr rfl, Or.inr rfl, Or.inl rfl, Or.inr rfl, Or.inr rfl, Or.inr rfl, trivial⟩
    · replace h := h.2 hc
      refine mp_iload_n (i := 3) (x := l3) (dz dl_Mod_longest_0 20 35 (.iload_n 3) 1 rfl) rfl rfl ?_
      exact mp_rt (qi _) (rt_I rfl (dz dl_Mod_longest_0 21 36 (.ireturn) 1 rfl)) ⟨_, rfl, h⟩

theorem mb_Mod_shiftStore_0 {u : MS} {l1 : Int32} {l2 : Int32} {Z : MS → Prop} (h : vp_in l1 5 ∧ ∀ u1, u1 = mu u 84 l1.toNatClampNeg ((u 84 l1.toNatClampNeg) - (1 : Int32)) → mWP M_Mod_shiftStore 12 [qr 1 (some 0), qi l1, none, qi l2] [] u1 (mV Z)) : mWP M_Mod_shiftStore 0 [qr 1 (some 0), qi l1, qi l2, none] [] u (mV Z) := by
  refine mp_aload_n (i := 0) (v := qr 1 (some 0)) (dz dl_Mod_shiftStore_0 0 0 (.aload_n 0) 1 rfl) rfl rfl trivial ?_
  refine mp_getA (dz dl_Mod_shiftStore_0 1 1 (.getfield 55) 3 rfl) lk_Mod_55 (q := 0) kd_84 rfl sm_84 ?_
  refine mp_iload_n (i := 1) (x := l1) (dz dl_Mod_shiftStore_0 2 4 (.iload_n 1) 1 rfl) rfl rfl ?_
  refine mp_dup2 (dz dl_Mod_shiftStore_0 3 5 (.dup2) 1 rfl) ?_
  obtain ⟨i1, h⟩ := h
  refine mp_iald (dz dl_Mod_shiftStore_0 4 6 (.iaload) 1 rfl) kd_84 rfl sm_84 i1 ?_
  refine mp_iconst (dz dl_Mod_shiftStore_0 5 7 (.iconst (1)) 1 rfl) (v := (1 : Int32)) (by decide) ?_
  refine mp_isub (dz dl_Mod_shiftStore_0 6 8 (.isub) 1 rfl) ?_
  have h := h _ rfl
  refine mp_iast (dz dl_Mod_shiftStore_0 7 9 (.iastore) 1 rfl) kd_84 rfl sm_84 i1 rfl ?_
  refine mp_iload_n (i := 2) (x := l2) (dz dl_Mod_shiftStore_0 8 10 (.iload_n 2) 1 rfl) rfl rfl ?_
  refine mp_istore_n (i := 3) (dz dl_Mod_shiftStore_0 9 11 (.istore_n 3) 1 rfl) rfl [qr 1 (some 0), qi l1, qi l2, qi l2] (by decide) rfl ?_
  exact mp_cut h ⟨Or.inr rfl, Or.inr rfl, Or.inl rfl, Or.inr rfl, trivial⟩
theorem mt_Mod_shiftStore {u : MS} {l1 : Int32} {l2 : Int32} {Z : MS → Prop} (h : vp_in l1 5 ∧ ∀ u1, u1 = mu u 84 l1.toNatClampNeg ((u 84 l1.toNatClampNeg) - (1 : Int32)) → mWP M_Mod_shiftStore 12 [qr 1 (some 0), qi l1, none, qi l2] [] u1 (mV Z)) : mMT M_Mod_shiftStore [qr 1 (some 0), qi l1, qi l2] u (mV Z) := mb_Mod_shiftStore_0 h

theorem mb_Mod_shiftStore_12 {u : MS} {l1 : Int32} {l3 : Int32} {Z : MS → Prop} (h : vp_in l1 5 ∧ ((((6 : Int32) * l1) + (u 84 l1.toNatClampNeg)) ≤ l3 → Z u) ∧ (¬ (((6 : Int32) * l1) + (u 84 l1.toNatClampNeg)) ≤ l3 → vp_in (l3 + (1 : Int32)) 30 ∧ vp_in l3 30 ∧ ∀ u1, u1 = mu u 85 l3.toNatClampNeg (u 85 (l3 + (1 : Int32)).toNatClampNeg) → ∀ u2, u2 = mu u1 86 l3.toNatClampNeg (u1 86 (l3 + (1 : Int32)).toNatClampNeg) → ∀ u3, u3 = mu u2 87 l3.toNatClampNeg (u2 87 (l3 + (1 : Int32)).toNatClampNeg) → ∀ u4, u4 = mu u3 88 l3.toNatClampNeg (u3 88 (l3 + (1 : Int32)).toNatClampNeg) → mWP M_Mod_shiftStore 12 [qr 1 (some 0), qi l1, none, qi (l3 + 1)] [] u4 (mV Z))) : mWP M_Mod_shiftStore 12 [qr 1 (some 0), qi l1, none, qi l3] [] u (mV Z) := by
  refine mp_iload_n (i := 3) (x := l3) (dz dl_Mod_shiftStore_0 10 12 (.iload_n 3) 1 rfl) rfl rfl ?_
  refine mp_bipush (dz dl_Mod_shiftStore_0 11 13 (.bipush (6)) 2 rfl) (v := (6 : Int32)) (by decide) ?_
  refine mp_iload_n (i := 1) (x := l1) (dz dl_Mod_shiftStore_0 12 15 (.iload_n 1) 1 rfl) rfl rfl ?_
  refine mp_imul (dz dl_Mod_shiftStore_0 13 16 (.imul) 1 rfl) ?_
  refine mp_aload_n (i := 0) (v := qr 1 (some 0)) (dz dl_Mod_shiftStore_0 14 17 (.aload_n 0) 1 rfl) rfl rfl trivial ?_
  refine mp_getA (dz dl_Mod_shiftStore_0 15 18 (.getfield 55) 3 rfl) lk_Mod_55 (q := 0) kd_84 rfl sm_84 ?_
  refine mp_iload_n (i := 1) (x := l1) (dz dl_Mod_shiftStore_0 16 21 (.iload_n 1) 1 rfl) rfl rfl ?_
  obtain ⟨i1, h⟩ := h
  refine mp_iald (dz dl_Mod_shiftStore_0 17 22 (.iaload) 1 rfl) kd_84 rfl sm_84 i1 ?_
  refine mp_iadd (dz dl_Mod_shiftStore_0 18 23 (.iadd) 1 rfl) ?_
  refine mp_icmp_ge (tgt := 89) (dz dl_Mod_shiftStore_0 19 24 (.if_icmp .ge (65)) 3 rfl) (by decide) (fun hc => ?_) (fun hc => ?_)
  · replace h := h.1 hc
    exact mp_rt none (rt_V rfl (dz dl_Mod_shiftStore_1 22 89 (.return_) 1 rfl)) ⟨rfl, h⟩
  · replace h := h.2 hc
    refine mp_aload_n (i := 0) (v := qr 1 (some 0)) (dz dl_Mod_shiftStore_0 20 27 (.aload_n 0) 1 rfl) rfl rfl trivial ?_
    refine mp_getA (dz dl_Mod_shiftStore_0 21 28 (.getfield 58) 3 rfl) lk_Mod_58 (q := 0) kd_85 rfl sm_85 ?_
    refine mp_iload_n (i := 3) (x := l3) (dz dl_Mod_shiftStore_0 22 31 (.iload_n 3) 1 rfl) rfl rfl ?_
    refine mp_aload_n (i := 0) (v := qr 1 (some 0)) (dz dl_Mod_shiftStore_0 23 32 (.aload_n 0) 1 rfl) rfl rfl trivial ?_
    refine mp_getA (dz dl_Mod_shiftStore_0 24 33 (.getfield 58) 3 rfl) lk_Mod_58 (q := 0) kd_85 rfl sm_85 ?_
    refine mp_iload_n (i := 3) (x := l3) (dz dl_Mod_shiftStore_0 25 36 (.iload_n 3) 1 rfl) rfl rfl ?_
    refine mp_iconst (dz dl_Mod_shiftStore_0 26 37 (.iconst (1)) 1 rfl) (v := (1 : Int32)) (by decide) ?_
    refine mp_iadd (dz dl_Mod_shiftStore_0 27 38 (.iadd) 1 rfl) ?_
    obtain ⟨i2, h⟩ := h
    refine mp_iald (dz dl_Mod_shiftStore_0 28 39 (.iaload) 1 rfl) kd_85 rfl sm_85 i2 ?_
    obtain ⟨i3, h⟩ := h
    have h := h _ rfl
    refine mp_iast (dz dl_Mod_shiftStore_0 29 40 (.iastore) 1 rfl) kd_85 rfl sm_85 i3 rfl ?_
    refine mp_aload_n (i := 0) (v := qr 1 (some 0)) (dz dl_Mod_shiftStore_0 30 41 (.aload_n 0) 1 rfl) rfl rfl trivial ?_
    refine mp_getA (dz dl_Mod_shiftStore_0 31 42 (.getfield 61) 3 rfl) lk_Mod_61 (q := 0) kd_86 rfl sm_86 ?_
    refine mp_iload_n (i := 3) (x := l3) (dz dl_Mod_shiftStore_0 32 45 (.iload_n 3) 1 rfl) rfl rfl ?_
    refine mp_aload_n (i := 0) (v := qr 1 (some 0)) (dz dl_Mod_shiftStore_0 33 46 (.aload_n 0) 1 rfl) rfl rfl trivial ?_
    refine mp_getA (dz dl_Mod_shiftStore_0 34 47 (.getfield 61) 3 rfl) lk_Mod_61 (q := 0) kd_86 rfl sm_86 ?_
    refine mp_iload_n (i := 3) (x := l3) (dz dl_Mod_shiftStore_0 35 50 (.iload_n 3) 1 rfl) rfl rfl ?_
    refine mp_iconst (dz dl_Mod_shiftStore_0 36 51 (.iconst (1)) 1 rfl) (v := (1 : Int32)) (by decide) ?_
    refine mp_iadd (dz dl_Mod_shiftStore_0 37 52 (.iadd) 1 rfl) ?_
    refine mp_iald (dz dl_Mod_shiftStore_0 38 53 (.iaload) 1 rfl) kd_86 rfl sm_86 i2 ?_
    have h := h _ rfl
    refine mp_iast (dz dl_Mod_shiftStore_0 39 54 (.iastore) 1 rfl) kd_86 rfl sm_86 i3 rfl ?_
    refine mp_aload_n (i := 0) (v := qr 1 (some 0)) (dz dl_Mod_shiftStore_1 0 55 (.aload_n 0) 1 rfl) rfl rfl trivial ?_
    refine mp_getA (dz dl_Mod_shiftStore_1 1 56 (.getfield 64) 3 rfl) lk_Mod_64 (q := 0) kd_87 rfl sm_87 ?_
    refine mp_iload_n (i := 3) (x := l3) (dz dl_Mod_shiftStore_1 2 59 (.iload_n 3) 1 rfl) rfl rfl ?_
    refine mp_aload_n (i := 0) (v := qr 1 (some 0)) (dz dl_Mod_shiftStore_1 3 60 (.aload_n 0) 1 rfl) rfl rfl trivial ?_
    refine mp_getA (dz dl_Mod_shiftStore_1 4 61 (.getfield 64) 3 rfl) lk_Mod_64 (q := 0) kd_87 rfl sm_87 ?_
    refine mp_iload_n (i := 3) (x := l3) (dz dl_Mod_shiftStore_1 5 64 (.iload_n 3) 1 rfl) rfl rfl ?_
    refine mp_iconst (dz dl_Mod_shiftStore_1 6 65 (.iconst (1)) 1 rfl) (v := (1 : Int32)) (by decide) ?_
    refine mp_iadd (dz dl_Mod_shiftStore_1 7 66 (.iadd) 1 rfl) ?_
    refine mp_iald (dz dl_Mod_shiftStore_1 8 67 (.iaload) 1 rfl) kd_87 rfl sm_87 i2 ?_
    have h := h _ rfl
    refine mp_iast (dz dl_Mod_shiftStore_1 9 68 (.iastore) 1 rfl) kd_87 rfl sm_87 i3 rfl ?_
    refine mp_aload_n (i := 0) (v := qr 1 (some 0)) (dz dl_Mod_shiftStore_1 10 69 (.aload_n 0) 1 rfl) rfl rfl trivial ?_
    refine mp_getA (dz dl_Mod_shiftStore_1 11 70 (.getfield 67) 3 rfl) lk_Mod_67 (q := 0) kd_88 rfl sm_88 ?_
    refine mp_iload_n (i := 3) (x := l3) (dz dl_Mod_shiftStore_1 12 73 (.iload_n 3) 1 rfl) rfl rfl ?_
    refine mp_aload_n (i := 0) (v := qr 1 (some 0)) (dz dl_Mod_shiftStore_1 13 74 (.aload_n 0) 1 rfl) rfl rfl trivial ?_
    refine mp_getA (dz dl_Mod_shiftStore_1 14 75 (.getfield 67) 3 rfl) lk_Mod_67 (q := 0) kd_88 rfl sm_88 ?_
    refine mp_iload_n (i := 3) (x := l3) (dz dl_Mod_shiftStore_1 15 78 (.iload_n 3) 1 rfl) rfl rfl ?_
    refine mp_iconst (dz dl_Mod_shiftStore_1 16 79 (.iconst (1)) 1 rfl) (v := (1 : Int32)) (by decide) ?_
    refine mp_iadd (dz dl_Mod_shiftStore_1 17 80 (.iadd) 1 rfl) ?_
    refine mp_iald (dz dl_Mod_shiftStore_1 18 81 (.iaload) 1 rfl) kd_88 rfl sm_88 i2 ?_
    have h := h _ rfl
    refine mp_iast (dz dl_Mod_shiftStore_1 19 82 (.iastore) 1 rfl) kd_88 rfl sm_88 i3 rfl ?_
    refine mp_iinc (i := 3) (v := l3 + 1) (dz dl_Mod_shiftStore_1 20 83 (.iinc 3 (1)) 3 rfl) rfl (congrArg (fun z => l3 + z) (by decide)) [qr 1 (some 0), qi l1, none, qi (l3 + 1)] (by decide) rfl ?_
    refine mp_goto (tgt := 12) (dz dl_Mod_shiftStore_1 21 86 (.goto (-74)) 3 rfl) (by decide) ?_
    exact mp_cut h ⟨Or.inr rfl, Or.inr rfl, Or.inl rfl, Or.inr rfl, trivial⟩

theorem mb_Mod_enterStore_0 {u : MS} {l1 : Int32} {l2 : Int32} {l3 : Int32} {l4 : Int32} {l5 : Int32} {Z : MS → Prop} (h : vp_in l1 5 ∧ vp_in (((6 : Int32) * l1) + (u 84 l1.toNatClampNeg)) 30 ∧ ∀ u1, u1 = mu u 85 (((6 : Int32) * l1) + (u 84 l1.toNatClampNeg)).toNatClampNeg l2 → ∀ u2, u2 = mu u1 86 (((6 : Int32) * l1) + (u 84 l1.toNatClampNeg)).toNatClampNeg l3 → ∀ u3, u3 = mu u2 87 (((6 : Int32) * l1) + (u 84 l1.toNatClampNeg)).toNatClampNeg l4 → ∀ u4, u4 = mu u3 88 (((6 : Int32) * l1) + (u 84 l1.toNatClampNeg)).toNatClampNeg l5 → ∀ u5, u5 = mu u4 84 l1.toNatClampNeg ((u4 84 l1.toNatClampNeg) + (1 : Int32)) → Z u5) : mWP M_Mod_enterStore 0 [qr 1 (some 0), qi l1, qi l2, qi l3, qi l4, qi l5, none] [] u (mV Z) := by
  refine mp_bipush (dz dl_Mod_enterStore_0 0 0 (.bipush (6)) 2 rfl) (v := (6 : Int32)) (by decide) ?_
  refine mp_iload_n (i := 1) (x := l1) (dz dl_Mod_enterStore_0 1 2 (.iload_n 1) 1 rfl) rfl rfl ?_
  refine mp_imul (dz dl_Mod_enterStore_0 2 3 (.imul) 1 rfl) ?_
  refine mp_aload_n (i := 0) (v := qr 1 (some 0)) (dz dl_Mod_enterStore_0 3 4 (.aload_n 0) 1 rfl) rfl rfl trivial ?_
  refine mp_getA (dz dl_Mod_enterStore_0 4 5 (.getfield 55) 3 rfl) lk_Mod_55 (q := 0) kd_84 rfl sm_84 ?_
  refine mp_iload_n (i := 1) (x := l1) (dz dl_Mod_enterStore_0 5 8 (.iload_n 1) 1 rfl) rfl rfl ?_
  obtain ⟨i1, h⟩ := h
  refine mp_iald (dz dl_Mod_enterStore_0 6 9 (.iaload) 1 rfl) kd_84 rfl sm_84 i1 ?_
  refine mp_iadd (dz dl_Mod_enterStore_0 7 10 (.iadd) 1 rfl) ?_
  refine mp_istore (i := 6) (dz dl_Mod_enterStore_0 8 11 (.istore 6) 2 rfl) [qr 1 (some 0), qi l1, qi l2, qi l3, qi l4, qi l5, qi (((6 : Int32) * l1) + (u 84 l1.toNatClampNeg))] (by decide) rfl ?_
  refine mp_aload_n (i := 0) (v := qr 1 (some 0)) (dz dl_Mod_enterStore_0 9 13 (.aload_n 0) 1 rfl) rfl rfl trivial ?_
  refine mp_getA (dz dl_Mod_enterStore_0 10 14 (.getfield 58) 3 rfl) lk_Mod_58 (q := 0) kd_85 rfl sm_85 ?_
  refine mp_iload (i := 6) (x := ((6 : Int32) * l1) + (u 84 l1.toNatClampNeg)) (dz dl_Mod_enterStore_0 11 17 (.iload 6) 2 rfl) rfl ?_
  refine mp_iload_n (i := 2) (x := l2) (dz dl_Mod_enterStore_0 12 19 (.iload_n 2) 1 rfl) rfl rfl ?_
  obtain ⟨i2, h⟩ := h
  have h := h _ rfl
  refine mp_iast (dz dl_Mod_enterStore_0 13 20 (.iastore) 1 rfl) kd_85 rfl sm_85 i2 rfl ?_
  refine mp_aload_n (i := 0) (v := qr 1 (some 0)) (dz dl_Mod_enterStore_0 14 21 (.aload_n 0) 1 rfl) rfl rfl trivial ?_
  refine mp_getA (dz dl_Mod_enterStore_0 15 22 (.getfield 61) 3 rfl) lk_Mod_61 (q := 0) kd_86 rfl sm_86 ?_
  refine mp_iload (i := 6) (x := ((6 : Int32) * l1) + (u 84 l1.toNatClampNeg)) (dz dl_Mod_enterStore_0 16 25 (.iload 6) 2 rfl) rfl ?_
  refine mp_iload_n (i := 3) (x := l3) (dz dl_Mod_enterStore_0 17 27 (.iload_n 3) 1 rfl) rfl rfl ?_
  have h := h _ rfl
  refine mp_iast (dz dl_Mod_enterStore_0 18 28 (.iastore) 1 rfl) kd_86 rfl sm_86 i2 rfl ?_
  refine mp_aload_n (i := 0) (v := qr 1 (some 0)) (dz dl_Mod_enterStore_0 19 29 (.aload_n 0) 1 rfl) rfl rfl trivial ?_
  refine mp_getA (dz dl_Mod_enterStore_0 20 30 (.getfield 64) 3 rfl) lk_Mod_64 (q := 0) kd_87 rfl sm_87 ?_
  refine mp_iload (i := 6) (x := ((6 : Int32) * l1) + (u 84 l1.toNatClampNeg)) (dz dl_Mod_enterStore_0 21 33 (.iload 6) 2 rfl) rfl ?_
  refine mp_iload (i := 4) (x := l4) (dz dl_Mod_enterStore_0 22 35 (.iload 4) 2 rfl) rfl ?_
  have h := h _ rfl
  refine mp_iast (dz dl_Mod_enterStore_0 23 37 (.iastore) 1 rfl) kd_87 rfl sm_87 i2 rfl ?_
  refine mp_aload_n (i := 0) (v := qr 1 (some 0)) (dz dl_Mod_enterStore_0 24 38 (.aload_n 0) 1 rfl) rfl rfl trivial ?_
  refine mp_getA (dz dl_Mod_enterStore_0 25 39 (.getfield 67) 3 rfl) lk_Mod_67 (q := 0) kd_88 rfl sm_88 ?_
  refine mp_iload (i := 6) (x := ((6 : Int32) * l1) + (u 84 l1.toNatClampNeg)) (dz dl_Mod_enterStore_0 26 42 (.iload 6) 2 rfl) rfl ?_
  refine mp_iload (i := 5) (x := l5) (dz dl_Mod_enterStore_0 27 44 (.iload 5) 2 rfl) rfl ?_
  have h := h _ rfl
  refine mp_iast (dz dl_Mod_enterStore_0 28 46 (.iastore) 1 rfl) kd_88 rfl sm_88 i2 rfl ?_
  refine mp_aload_n (i := 0) (v := qr 1 (some 0)) (dz dl_Mod_enterStore_0 29 47 (.aload_n 0) 1 rfl) rfl rfl trivial ?_
  refine mp_getA (dz dl_Mod_enterStore_0 30 48 (.getfield 55) 3 rfl) lk_Mod_55 (q := 0) kd_84 rfl sm_84 ?_
  refine mp_iload_n (i := 1) (x := l1) (dz dl_Mod_enterStore_0 31 51 (.iload_n 1) 1 rfl) rfl rfl ?_
  refine mp_dup2 (dz dl_Mod_enterStore_0 32 52 (.dup2) 1 rfl) ?_
  refine mp_iald (dz dl_Mod_enterStore_0 33 53 (.iaload) 1 rfl) kd_84 rfl sm_84 i1 ?_
  refine mp_iconst (dz dl_Mod_enterStore_0 34 54 (.iconst (1)) 1 rfl) (v := (1 : Int32)) (by decide) ?_
  refine mp_iadd (dz dl_Mod_enterStore_0 35 55 (.iadd) 1 rfl) ?_
  have h := h _ rfl
  refine mp_iast (dz dl_Mod_enterStore_0 36 56 (.iastore) 1 rfl) kd_84 rfl sm_84 i1 rfl ?_
  exact mp_rt none (rt_V rfl (dz dl_Mod_enterStore_0 37 57 (.return_) 1 rfl)) ⟨rfl, h⟩
theorem mt_Mod_enterStore {u : MS} {l1 : Int32} {l2 : Int32} {l3 : Int32} {l4 : Int32} {l5 : Int32} {Z : MS → Prop} (h : vp_in l1 5 ∧ vp_in (((6 : Int32) * l1) + (u 84 l1.toNatClampNeg)) 30 ∧ ∀ u1, u1 = mu u 85 (((6 : Int32) * l1) + (u 84 l1.toNatClampNeg)).toNatClampNeg l2 → ∀ u2, u2 = mu u1 86 (((6 : Int32) * l1) + (u 84 l1.toNatClampNeg)).toNatClampNeg l3 → ∀ u3, u3 = mu u2 87 (((6 : Int32) * l1) + (u 84 l1.toNatClampNeg)).toNatClampNeg l4 → ∀ u4, u4 = mu u3 88 (((6 : Int32) * l1) + (u 84 l1.toNatClampNeg)).toNatClampNeg l5 → ∀ u5, u5 = mu u4 84 l1.toNatClampNeg ((u4 84 l1.toNatClampNeg) + (1 : Int32)) → Z u5) : mMT M_Mod_enterStore [qr 1 (some 0), qi l1, qi l2, qi l3, qi l4, qi l5] u (mV Z) := mb_Mod_enterStore_0 h

theorem mb_Mod_inStore_0 {u : MS} {l1 : Int32} {l2 : Int32} {Z : Int32 → MS → Prop} (h : mWP M_Mod_inStore 5 [qr 1 (some 0), qi l1, qi l2, qi ((6 : Int32) * l1)] [] u (mI Z)) : mWP M_Mod_inStore 0 [qr 1 (some 0), qi l1, qi l2, none] [] u (mI Z) := by
  refine mp_bipush (dz dl_Mod_inStore_0 0 0 (.bipush (6)) 2 rfl) (v := (6 : Int32)) (by decide) ?_
  refine mp_iload_n (i := 1) (x := l1) (dz dl_Mod_inStore_0 1 2 (.iload_n 1) 1 rfl) rfl rfl ?_
  refine mp_imul (dz dl_Mod_inStore_0 2 3 (.imul) 1 rfl) ?_
  refine mp_istore_n (i := 3) (dz dl_Mod_inStore_0 3 4 (.istore_n 3) 1 rfl) rfl [qr 1 (some 0), qi l1, qi l2, qi ((6 : Int32) * l1)] (by decide) rfl ?_
  exact mp_cut h ⟨Or.inr rfl, Or.inr rfl, Or.inr rfl, Or.inr rfl, trivial⟩
theorem mt_Mod_inStore {u : MS} {l1 : Int32} {l2 : Int32} {Z : Int32 → MS → Prop} (h : mWP M_Mod_inStore 5 [qr 1 (some 0), qi l1, qi l2, qi ((6 : Int32) * l1)] [] u (mI Z)) : mMT M_Mod_inStore [qr 1 (some 0), qi l1, qi l2] u (mI Z) := mb_Mod_inStore_0 h

theorem mb_Mod_inStore_5 {u : MS} {l1 : Int32} {l2 : Int32} {l3 : Int32} {Z : Int32 → MS → Prop} (h : vp_in l1 5 ∧ ((((6 : Int32) * l1) + (u 84 l1.toNatClampNeg)) ≤ l3 → Z (-1 : Int32) u) ∧ (¬ (((6 : Int32) * l1) + (u 84 l1.toNatClampNeg)) ≤ l3 → vp_in l3 30 ∧ (¬ (u 85 l3.toNatClampNeg) = l2 → mWP M_Mod_inStore 5 [qr 1 (some 0), qi l1, qi l2, qi (l3 + 1)] [] u (mI Z)) ∧ ((u 85 l3.toNatClampNeg) = l2 → Z l3 u))) : mWP M_Mod_inStore 5 [qr 1 (some 0), qi l1, qi l2, qi l3] [] u (mI Z) := by
  refine mp_iload_n (i := 3) (x := l3) (dz dl_Mod_inStore_0 4 5 (.iload_n 3) 1 rfl) rfl rfl ?_
  refine mp_bipush (dz dl_Mod_inStore_0 5 6 (.bipush (6)) 2 rfl) (v := (6 : Int32)) (by decide) ?_
  refine mp_iload_n (i := 1) (x := l1) (dz dl_Mod_inStore_0 6 8 (.iload_n 1) 1 rfl) rfl rfl ?_
  refine mp_imul (dz dl_Mod_inStore_0 7 9 (.imul) 1 rfl) ?_
  refine mp_aload_n (i := 0) (v := qr 1 (some 0)) (dz dl_Mod_inStore_0 8 10 (.aload_n 0) 1 rfl) rfl rfl trivial ?_
  refine mp_getA (dz dl_Mod_inStore_0 9 11 (.getfield 55) 3 rfl) lk_Mod_55 (q := 0) kd_84 rfl sm_84 ?_
  refine mp_iload_n (i := 1) (x := l1) (dz dl_Mod_inStore_0 10 14 (.iload_n 1) 1 rfl) rfl rfl ?_
  obtain ⟨i1, h⟩ := h
  refine mp_iald (dz dl_Mod_inStore_0 11 15 (.iaload) 1 rfl) kd_84 rfl sm_84 i1 ?_
  refine mp_iadd (dz dl_Mod_inStore_0 12 16 (.iadd) 1 rfl) ?_
  refine mp_icmp_ge (tgt := 38) (dz dl_Mod_inStore_0 13 17 (.if_icmp .ge (21)) 3 rfl) (by decide) (fun hc => ?_) (fun hc => ?_)
  · replace h := h.1 hc
    refine mp_iconst (dz dl_Mod_inStore_0 24 38 (.iconst (-1)) 1 rfl) (v := (-1 : Int32)) (by decide) ?_
    exact mp_rt (qi _) (rt_I rfl (dz dl_Mod_inStore_0 25 39 (.ireturn) 1 rfl)) ⟨_, rfl, h⟩
  · replace h := h.2 hc
    refine mp_aload_n (i := 0) (v := qr 1 (some 0)) (dz dl_Mod_inStore_0 14 20 (.aload_n 0) 1 rfl) rfl rfl trivial ?_
    refine mp_getA (dz dl_Mod_inStore_0 15 21 (.getfield 58) 3 rfl) lk_Mod_58 (q := 0) kd_85 rfl sm_85 ?_
    refine mp_iload_n (i := 3) (x := l3) (dz dl_Mod_inStore_0 16 24 (.iload_n 3) 1 rfl) rfl rfl ?_
    obtain ⟨i2, h⟩ := h
    refine mp_iald (dz dl_Mod_inStore_0 17 25 (.iaload) 1 rfl) kd_85 rfl sm_85 i2 ?_
    refine mp_iload_n (i := 2) (x := l2) (dz dl_Mod_inStore_0 18 26 (.iload_n 2) 1 rfl) rfl rfl ?_
    refine mp_icmp_ne (tgt := 32) (dz dl_Mod_inStore_0 19 27 (.if_icmp .ne (5)) 3 rfl) (by decide) (fun hc => ?_) (fun hc => ?_)
    · replace h := h.1 hc
      refine mp_iinc (i := 3) (v := l3 + 1) (dz dl_Mod_inStore_0 22 32 (.iinc 3 (1)) 3 rfl) rfl (congrArg (fun z => l3 + z) (by decide)) [qr 1 (some 0), qi l1, qi l2, qi (l3 + 1)] (by decide) rfl ?_
      refine mp_goto (tgt := 5) (dz dl_Mod_inStore_0 23 35 (.goto (-30)) 3 rfl) (by decide) ?_
      exact mp_cut h ⟨Or.inr rfl, Or.inr rfl, Or.inr rfl, Or.inr rfl, trivial⟩
    · replace h := h.2 hc
      refine mp_iload_n (i := 3) (x := l3) (dz dl_Mod_inStore_0 20 30 (.iload_n 3) 1 rfl) rfl rfl ?_
      exact mp_rt (qi _) (rt_I rfl (dz dl_Mod_inStore_0 21 31 (.ireturn) 1 rfl)) ⟨_, rfl, h⟩

theorem mb_Mod_keep_0 {u : MS} {l1 : Int32} {l2 : Int32} {l3 : Int32} {l4 : Int32} {Z : MS → Prop} (h : (¬ (u 64 0) = 0 → mMT M_Mod_inStore [qr 1 (some 0), qi l1, qi l2] u (mI fun r1 u1 => (r1 < 0 → vp_in l1 5 ∧ (¬ (u1 84 l1.toNatClampNeg) = (u1 64 0) → mMT M_Mod_enterStore [qr 1 (some 0), qi l1, qi l2, qi l3, qi l4, qi ((u1 67 0) + l4)] u1 (mV fun u2 => Z u2)) ∧ ((u1 84 l1.toNatClampNeg) = (u1 64 0) → mMT M_Mod_shiftStore [qr 1 (some 0), qi l1, qi ((6 : Int32) * l1)] u1 (mV fun u3 => mMT M_Mod_enterStore [qr 1 (some 0), qi l1, qi l2, qi l3, qi l4, qi ((u3 67 0) + l4)] u3 (mV fun u4 => Z u4)))) ∧ (¬ r1 < 0 → mMT M_Mod_shiftStore [qr 1 (some 0), qi l1, qi r1] u1 (mV fun u5 => mMT M_Mod_enterStore [qr 1 (some 0), qi l1, qi l2, qi l3, qi l4, qi ((u5 67 0) + l4)] u5 (mV fun u6 => Z u6))))) ∧ ((u 64 0) = 0 → Z u)) : mWP M_Mod_keep 0 [qr 1 (some 0), qi l1, qi l2, qi l3, qi l4, none] [] u (mV Z) := by
  refine mp_aload_n (i := 0) (v := qr 1 (some 0)) (dz dl_Mod_keep_0 0 0 (.aload_n 0) 1 rfl) rfl rfl trivial ?_
  refine mp_getI (dz dl_Mod_keep_0 1 1 (.getfield 152) 3 rfl) lk_Mod_152 kd_64 rfl ?_
  refine mp_if_ne (tgt := 8) (dz dl_Mod_keep_0 2 4 (.ifCond .ne (4)) 3 rfl) (by decide) (fun hc => ?_) (fun hc => ?_)
  · replace h := h.1 hc
    refine mp_aload_n (i := 0) (v := qr 1 (some 0)) (dz dl_Mod_keep_0 4 8 (.aload_n 0) 1 rfl) rfl rfl trivial ?_
    refine mp_iload_n (i := 1) (x := l1) (dz dl_Mod_keep_0 5 9 (.iload_n 1) 1 rfl) rfl rfl ?_
    refine mp_iload_n (i := 2) (x := l2) (dz dl_Mod_keep_0 6 10 (.iload_n 2) 1 rfl) rfl rfl ?_
    refine mp_callV [qi l1, qi l2] [] (dz dl_Mod_keep_0 7 11 (.invokevirtual 243) 3 rfl) ok_Mod_inStore lm_Mod_243 ws_Mod_inStore wv_Mod_inStore ⟨Nat.le_of_ble_eq_true rfl, Nat.le_of_ble_eq_true rfl⟩ pn_Mod_inStore (Nat.le_of_ble_eq_true rfl) (Nat.le_of_ble_eq_true rfl) (Or.inl rfl) (mmono h ?_)
    rintro _ u1 ⟨r1, rfl, h⟩
    show mWP _ _ _ [qi r1] _ _
    refine mp_istore (i := 5) (dz dl_Mod_keep_0 8 14 (.istore 5) 2 rfl) [qr 1 (some 0), qi l1, qi l2, qi l3, qi l4, qi r1] (by decide) rfl ?_
    refine mp_iload (i := 5) (x := r1) (dz dl_Mod_keep_0 9 16 (.iload 5) 2 rfl) rfl ?_
    refine mp_if_lt (tgt := 31) (dz dl_Mod_keep_0 10 18 (.ifCond .lt (13)) 3 rfl) (by decide) (fun hc => ?_) (fun hc => ?_)
    · replace h := h.1 hc
      refine mp_aload_n (i := 0) (v := qr 1 (some 0)) (dz dl_Mod_keep_0 16 31 (.aload_n 0) 1 rfl) rfl rfl trivial ?_
      refine mp_getA (dz dl_Mod_keep_0 17 32 (.getfield 55) 3 rfl) lk_Mod_55 (q := 0) kd_84 rfl sm_84 ?_
      refine mp_iload_n (i := 1) (x := l1) (dz dl_Mod_keep_0 18 35 (.iload_n 1) 1 rfl) rfl rfl ?_
      obtain ⟨i1, h⟩ := h
      refine mp_iald (dz dl_Mod_keep_0 19 36 (.iaload) 1 rfl) kd_84 rfl sm_84 i1 ?_
      refine mp_aload_n (i := 0) (v := qr 1 (some 0)) (dz dl_Mod_keep_0 20 37 (.aload_n 0) 1 rfl) rfl rfl trivial ?_
      refine mp_getI (dz dl_Mod_keep_0 21 38 (.getfield 152) 3 rfl) lk_Mod_152 kd_64 rfl ?_
      refine mp_icmp_ne (tgt := 53) (dz dl_Mod_keep_0 22 41 (.if_icmp .ne (12)) 3 rfl) (by decide) (fun hc => ?_) (fun hc => ?_)
      · replace h := h.1 hc
        refine mp_aload_n (i := 0) (v := qr 1 (some 0)) (dz dl_Mod_keep_0 29 53 (.aload_n 0) 1 rfl) rfl rfl trivial ?_
        refine mp_iload_n (i := 1) (x := l1) (dz dl_Mod_keep_0 30 54 (.iload_n 1) 1 rfl) rfl rfl ?_
        refine mp_iload_n (i := 2) (x := l2) (dz dl_Mod_keep_0 31 55 (.iload_n 2) 1 rfl) rfl rfl ?_
        refine mp_iload_n (i := 3) (x := l3) (dz dl_Mod_keep_0 32 56 (.iload_n 3) 1 rfl) rfl rfl ?_
        refine mp_iload (i := 4) (x := l4) (dz dl_Mod_keep_0 33 57 (.iload 4) 2 rfl) rfl ?_
        refine mp_aload_n (i := 0) (v := qr 1 (some 0)) (dz dl_Mod_keep_0 34 59 (.aload_n 0) 1 rfl) rfl rfl trivial ?_
        refine mp_getI (dz dl_Mod_keep_0 35 60 (.getfield 250) 3 rfl) lk_Mod_250 kd_67 rfl ?_
        refine mp_iload (i := 4) (x := l4) (dz dl_Mod_keep_0 36 63 (.iload 4) 2 rfl) rfl ?_
        refine mp_iadd (dz dl_Mod_keep_0 37 65 (.iadd) 1 rfl) ?_
        refine mp_callV [qi l1, qi l2, qi l3, qi l4, qi ((u1 67 0) + l4)] [] (dz dl_Mod_keep_0 38 66 (.invokevirtual 253) 3 rfl) ok_Mod_enterStore lm_Mod_253 ws_Mod_enterStore wv_Mod_enterStore ⟨Nat.le_of_ble_eq_true rfl, Nat.le_of_ble_eq_true rfl⟩ pn_Mod_enterStore (Nat.le_of_ble_eq_true rfl) (Nat.le_of_ble_eq_true rfl) (Or.inl rfl) (mmono h ?_)
        rintro _ u2 ⟨rfl, h⟩
        show mWP _ _ _ [] _ _
        exact mp_rt none (rt_V rfl (dz dl_Mod_keep_0 39 69 (.return_) 1 rfl)) ⟨rfl, h⟩
      · replace h := h.2 hc
        refine mp_aload_n (i := 0) (v := qr 1 (some 0)) (dz dl_Mod_keep_0 23 44 (.aload_n 0) 1 rfl) rfl rfl trivial ?_
        refine mp_iload_n (i := 1) (x := l1) (dz dl_Mod_keep_0 24 45 (.iload_n 1) 1 rfl) rfl rfl ?_
        refine mp_bipush (dz dl_Mod_keep_0 25 46 (.bipush (6)) 2 rfl) (v := (6 : Int32)) (by decide) ?_
        refine mp_iload_n (i := 1) (x := l1) (dz dl_Mod_keep_0 26 48 (.iload_n 1) 1 rfl) rfl rfl ?_
        refine mp_imul (dz dl_Mod_keep_0 27 49 (.imul) 1 rfl) ?_
        refine mp_callV [qi l1, qi ((6 : Int32) * l1)] [] (dz dl_Mod_keep_0 28 50 (.invokevirtual 246) 3 rfl) ok_Mod_shiftStore lm_Mod_246 ws_Mod_shiftStore wv_Mod_shiftStore ⟨Nat.le_of_ble_eq_true rfl, Nat.le_of_ble_eq_true rfl⟩ pn_Mod_shiftStore (Nat.le_of_ble_eq_true rfl) (Nat.le_of_ble_eq_true rfl) (Or.inl rfl) (mmono h ?_)
        rintro _ u3 ⟨rfl, h⟩
        show mWP _ _ _ [] _ _
        refine mp_aload_n (i := 0) (v := qr 1 (some 0)) (dz dl_Mod_keep_0 29 53 (.aload_n 0) 1 rfl) rfl rfl trivial ?_
        refine mp_iload_n (i := 1) (x := l1) (dz dl_Mod_keep_0 30 54 (.iload_n 1) 1 rfl) rfl rfl ?_
        refine mp_iload_n (i := 2) (x := l2) (dz dl_Mod_keep_0 31 55 (.iload_n 2) 1 rfl) rfl rfl ?_
        refine mp_iload_n (i := 3) (x := l3) (dz dl_Mod_keep_0 32 56 (.iload_n 3) 1 rfl) rfl rfl ?_
        refine mp_iload (i := 4) (x := l4) (dz dl_Mod_keep_0 33 57 (.iload 4) 2 rfl) rfl ?_
        refine mp_aload_n (i := 0) (v := qr 1 (some 0)) (dz dl_Mod_keep_0 34 59 (.aload_n 0) 1 rfl) rfl rfl trivial ?_
        refine mp_getI (dz dl_Mod_keep_0 35 60 (.getfield 250) 3 rfl) lk_Mod_250 kd_67 rfl ?_
        refine mp_iload (i := 4) (x := l4) (dz dl_Mod_keep_0 36 63 (.iload 4) 2 rfl) rfl ?_
        refine mp_iadd (dz dl_Mod_keep_0 37 65 (.iadd) 1 rfl) ?_
        refine mp_callV [qi l1, qi l2, qi l3, qi l4, qi ((u3 67 0) + l4)] [] (dz dl_Mod_keep_0 38 66 (.invokevirtual 253) 3 rfl) ok_Mod_enterStore lm_Mod_253 ws_Mod_enterStore wv_Mod_enterStore ⟨Nat.le_of_ble_eq_true rfl, Nat.le_of_ble_eq_true rfl⟩ pn_Mod_enterStore (Nat.le_of_ble_eq_true rfl) (Nat.le_of_ble_eq_true rfl) (Or.inl rfl) (mmono h ?_)
        rintro _ u4 ⟨rfl, h⟩
        show mWP _ _ _ [] _ _
        exact mp_rt none (rt_V rfl (dz dl_Mod_keep_0 39 69 (.return_) 1 rfl)) ⟨rfl, h⟩
    · replace h := h.2 hc
      refine mp_aload_n (i := 0) (v := qr 1 (some 0)) (dz dl_Mod_keep_0 11 21 (.aload_n 0) 1 rfl) rfl rfl trivial ?_
      refine mp_iload_n (i := 1) (x := l1) (dz dl_Mod_keep_0 12 22 (.iload_n 1) 1 rfl) rfl rfl ?_
      refine mp_iload (i := 5) (x := r1) (dz dl_Mod_keep_0 13 23 (.iload 5) 2 rfl) rfl ?_
      refine mp_callV [qi l1, qi r1] [] (dz dl_Mod_keep_0 14 25 (.invokevirtual 246) 3 rfl) ok_Mod_shiftStore lm_Mod_246 ws_Mod_shiftStore wv_Mod_shiftStore ⟨Nat.le_of_ble_eq_true rfl, Nat.le_of_ble_eq_true rfl⟩ pn_Mod_shiftStore (Nat.le_of_ble_eq_true rfl) (Nat.le_of_ble_eq_true rfl) (Or.inl rfl) (mmono h ?_)
      rintro _ u5 ⟨rfl, h⟩
      show mWP _ _ _ [] _ _
      refine mp_goto (tgt := 53) (dz dl_Mod_keep_0 15 28 (.goto (25)) 3 rfl) (by decide) ?_
      refine mp_aload_n (i := 0) (v := qr 1 (some 0)) (dz dl_Mod_keep_0 29 53 (.aload_n 0) 1 rfl) rfl rfl trivial ?_
      refine mp_iload_n (i := 1) (x := l1) (dz dl_Mod_keep_0 30 54 (.iload_n 1) 1 rfl) rfl rfl ?_
      refine mp_iload_n (i := 2) (x := l2) (dz dl_Mod_keep_0 31 55 (.iload_n 2) 1 rfl) rfl rfl ?_
      refine mp_iload_n (i := 3) (x := l3) (dz dl_Mod_keep_0 32 56 (.iload_n 3) 1 rfl) rfl rfl ?_
      refine mp_iload (i := 4) (x := l4) (dz dl_Mod_keep_0 33 57 (.iload 4) 2 rfl) rfl ?_
      refine mp_aload_n (i := 0) (v := qr 1 (some 0)) (dz dl_Mod_keep_0 34 59 (.aload_n 0) 1 rfl) rfl rfl trivial ?_
      refine mp_getI (dz dl_Mod_keep_0 35 60 (.getfield 250) 3 rfl) lk_Mod_250 kd_67 rfl ?_
      refine mp_iload (i := 4) (x := l4) (dz dl_Mod_keep_0 36 63 (.iload 4) 2 rfl) rfl ?_
      refine mp_iadd (dz dl_Mod_keep_0 37 65 (.iadd) 1 rfl) ?_
      refine mp_callV [qi l1, qi l2, qi l3, qi l4, qi ((u5 67 0) + l4)] [] (dz dl_Mod_keep_0 38 66 (.invokevirtual 253) 3 rfl) ok_Mod_enterStore lm_Mod_253 ws_Mod_enterStore wv_Mod_enterStore ⟨Nat.le_of_ble_eq_true rfl, Nat.le_of_ble_eq_true rfl⟩ pn_Mod_enterStore (Nat.le_of_ble_eq_true rfl) (Nat.le_of_ble_eq_true rfl) (Or.inl rfl) (mmono h ?_)
      rintro _ u6 ⟨rfl, h⟩
      show mWP _ _ _ [] _ _
      exact mp_rt none (rt_V rfl (dz dl_Mod_keep_0 39 69 (.return_) 1 rfl)) ⟨rfl, h⟩
  · replace h := h.2 hc
    exact mp_rt none (rt_V rfl (dz dl_Mod_keep_0 3 7 (.return_) 1 rfl)) ⟨rfl, h⟩
theorem mt_Mod_keep {u : MS} {l1 : Int32} {l2 : Int32} {l3 : Int32} {l4 : Int32} {Z : MS → Prop} (h : (¬ (u 64 0) = 0 → mMT M_Mod_inStore [qr 1 (some 0), qi l1, qi l2] u (mI fun r1 u1 => (r1 < 0 → vp_in l1 5 ∧ (¬ (u1 84 l1.toNatClampNeg) = (u1 64 0) → mMT M_Mod_enterStore [qr 1 (some 0), qi l1, qi l2, qi l3, qi l4, qi ((u1 67 0) + l4)] u1 (mV fun u2 => Z u2)) ∧ ((u1 84 l1.toNatClampNeg) = (u1 64 0) → mMT M_Mod_shiftStore [qr 1 (some 0), qi l1, qi ((6 : Int32) * l1)] u1 (mV fun u3 => mMT M_Mod_enterStore [qr 1 (some 0), qi l1, qi l2, qi l3, qi l4, qi ((u3 67 0) + l4)] u3 (mV fun u4 => Z u4)))) ∧ (¬ r1 < 0 → mMT M_Mod_shiftStore [qr 1 (some 0), qi l1, qi r1] u1 (mV fun u5 => mMT M_Mod_enterStore [qr 1 (some 0), qi l1, qi l2, qi l3, qi l4, qi ((u5 67 0) + l4)] u5 (mV fun u6 => Z u6))))) ∧ ((u 64 0) = 0 → Z u)) : mMT M_Mod_keep [qr 1 (some 0), qi l1, qi l2, qi l3, qi l4] u (mV Z) := mb_Mod_keep_0 h

theorem mb_Mod_served_0 {u : MS} {l1 : Int32} {l2 : Int32} {l3 : Int32} {Z : Int32 → MS → Prop} (h : mWP M_Mod_served 9 [qr 1 (some 0), qi l1, qi l2, qi l3, qi (-1 : Int32), qi ((6 : Int32) * l1), none, none, none] [] u (mI Z)) : mWP M_Mod_served 0 [qr 1 (some 0), qi l1, qi l2, qi l3, none, none, none, none, none] [] u (mI Z) := by
  refine mp_iconst (dz dl_Mod_served_0 0 0 (.iconst (-1)) 1 rfl) (v := (-1 : Int32)) (by decide) ?_
  refine mp_istore (i := 4) (dz dl_Mod_served_0 1 1 (.istore 4) 2 rfl) [qr 1 (some 0), qi l1, qi l2, qi l3, qi (-1 : Int32), none, none, none, none] (by decide) rfl ?_
  refine mp_bipush (dz dl_Mod_served_0 2 3 (.bipush (6)) 2 rfl) (v := (6 : Int32)) (by decide) ?_
  refine mp_iload_n (i := 1) (x := l1) (dz dl_Mod_served_0 3 5 (.iload_n 1) 1 rfl) rfl rfl ?_
  refine mp_imul (dz dl_Mod_served_0 4 6 (.imul) 1 rfl) ?_
  refine mp_istore (i := 5) (dz dl_Mod_served_0 5 7 (.istore 5) 2 rfl) [qr 1 (some 0), qi l1, qi l2, qi l3, qi (-1 : Int32), qi ((6 : Int32) * l1), none, none, none] (by decide) rfl ?_
  exact mp_cut h ⟨Or.inr rfl, Or.inr rfl, Or.inr rfl, Or.inr rfl, Or.inr rfl, Or.inr rfl, Or.inl rfl, Or.inl rfl, Or.inl rfl, trivial⟩
theorem mt_Mod_served {u : MS} {l1 : Int32} {l2 : Int32} {l3 : Int32} {Z : Int32 → MS → Prop} (h : mWP M_Mod_served 9 [qr 1 (some 0), qi l1, qi l2, qi l3, qi (-1 : Int32), qi ((6 : Int32) * l1), none, none, none] [] u (mI Z)) : mMT M_Mod_served [qr 1 (some 0), qi l1, qi l2, qi l3] u (mI Z) := mb_Mod_served_0 h

theorem mb_Mod_served_9 {u : MS} {l1 : Int32} {l2 : Int32} {l3 : Int32} {l4 : Int32} {l5 : Int32} {Z : Int32 → MS → Prop} (h : vp_in l1 5 ∧ ((((6 : Int32) * l1) + (u 84 l1.toNatClampNeg)) ≤ l5 → (0 ≤ l4 → vp_in l4 30 ∧ mMT M_Mod_shiftStore [qr 1 (some 0), qi l1, qi l4] u (mV fun u1 => mMT M_Mod_enterStore [qr 1 (some 0), qi l1, qi (u 85 l4.toNatClampNeg), qi (u 86 l4.toNatClampNeg), qi (u 87 l4.toNatClampNeg), qi (u 88 l4.toNatClampNeg)] u1 (mV fun u2 => Z ((((6 : Int32) * l1) + (u2 84 l1.toNatClampNeg)) - (1 : Int32)) u2))) ∧ (¬ 0 ≤ l4 → Z (-1 : Int32) u)) ∧ (¬ (((6 : Int32) * l1) + (u 84 l1.toNatClampNeg)) ≤ l5 → vp_in l5 30 ∧ mMT M_Mod_answers [qr 1 (some 0), qi (u 85 l5.toNatClampNeg), qi l2, qi l3] u (mI fun r1 u3 => (r1 = 0 → ((0 : Int32) = 0 → mWP M_Mod_served 9 [qr 1 (some 0), qi l1, qi l2, qi l3, qi l4, qi (l5 + 1), none, none, none] [] u3 (mI Z)) ∧ (¬ (0 : Int32) = 0 → (l4 < 0 → mWP M_Mod_served 9 [qr 1 (some 0), qi l1, qi l2, qi l3, qi l5, qi (l5 + 1), none, none, none] [] u3 (mI Z)) ∧ (¬ l4 < 0 → vp_in l4 30 ∧ ((u3 85 l4.toNatClampNeg) ≤ (u3 85 l5.toNatClampNeg) → mWP M_Mod_served 9 [qr 1 (some 0), qi l1, qi l2, qi l3, qi l4, qi (l5 + 1), none, none, none] [] u3 (mI Z)) ∧ (¬ (u3 85 l4.toNatClampNeg) ≤ (u3 85 l5.toNatClampNeg) → mWP M_Mod_served 9 [qr 1 (some 0), qi l1, qi l2, qi l3, qi l5, qi (l5 + 1), none, none, none] [] u3 (mI Z))))) ∧ (¬ r1 = 0 → ((l3 &&& (2 : Int32)) = 0 → ((1 : Int32) = 0 → mWP M_Mod_served 9 [qr 1 (some 0), qi l1, qi l2, qi l3, qi l4, qi (l5 + 1), none, none, none] [] u3 (mI Z)) ∧ (¬ (1 : Int32) = 0 → (l4 < 0 → mWP M_Mod_served 9 [qr 1 (some 0), qi l1, qi l2, qi l3, qi l5, qi (l5 + 1), none, none, none] [] u3 (mI Z)) ∧ (¬ l4 < 0 → vp_in l4 30 ∧ ((u3 85 l4.toNatClampNeg) ≤ (u3 85 l5.toNatClampNeg) → mWP M_Mod_served 9 [qr 1 (some 0), qi l1, qi l2, qi l3, qi l4, qi (l5 + 1), none, none, none] [] u3 (mI Z)) ∧ (¬ (u3 85 l4.toNatClampNeg) ≤ (u3 85 l5.toNatClampNeg) → mWP M_Mod_served 9 [qr 1 (some 0), qi l1, qi l2, qi l3, qi l5, qi (l5 + 1), none, none, none] [] u3 (mI Z))))) ∧ (¬ (l3 &&& (2 : Int32)) = 0 → ((u3 88 l5.toNatClampNeg) ≤ (u3 67 0) → ((0 : Int32) = 0 → mWP M_Mod_served 9 [qr 1 (some 0), qi l1, qi l2, qi l3, qi l4, qi (l5 + 1), none, none, none] [] u3 (mI Z)) ∧ (¬ (0 : Int32) = 0 → (l4 < 0 → mWP M_Mod_served 9 [qr 1 (some 0), qi l1, qi l2, qi l3, qi l5, qi (l5 + 1), none, none, none] [] u3 (mI Z)) ∧ (¬ l4 < 0 → vp_in l4 30 ∧ ((u3 85 l4.toNatClampNeg) ≤ (u3 85 l5.toNatClampNeg) → mWP M_Mod_served 9 [qr 1 (some 0), qi l1, qi l2, qi l3, qi l4, qi (l5 + 1), none, none, none] [] u3 (mI Z)) ∧ (¬ (u3 85 l4.toNatClampNeg) ≤ (u3 85 l5.toNatClampNeg) → mWP M_Mod_served 9 [qr 1 (some 0), qi l1, qi l2, qi l3, qi l5, qi (l5 + 1), none, none, none] [] u3 (mI Z))))) ∧ (¬ (u3 88 l5.toNatClampNeg) ≤ (u3 67 0) → ((1 : Int32) = 0 → mWP M_Mod_served 9 [qr 1 (some 0), qi l1, qi l2, qi l3, qi l4, qi (l5 + 1), none, none, none] [] u3 (mI Z)) ∧ (¬ (1 : Int32) = 0 → (l4 < 0 → mWP M_Mod_served 9 [qr 1 (some 0), qi l1, qi l2, qi l3, qi l5, qi (l5 + 1), none, none, none] [] u3 (mI Z)) ∧ (¬ l4 < 0 → vp_in l4 30 ∧ ((u3 85 l4.toNatClampNeg) ≤ (u3 85 l5.toNatClampNeg) → mWP M_Mod_served 9 [qr 1 (some 0), qi l1, qi l2, qi l3, qi l4, qi (l5 + 1), none, none, none] [] u3 (mI Z)) ∧ (¬ (u3 85 l4.toNatClampNeg) ≤ (u3 85 l5.toNatClampNeg) → mWP M_Mod_served 9 [qr 1 (some 0), qi l1, qi l2, qi l3, qi l5, qi (l5 + 1), none, none, none] [] u3 (mI Z)))))))))) : mWP M_Mod_served 9 [qr 1 (some 0), qi l1, qi l2, qi l3, qi l4, qi l5, none, none, none] [] u (mI Z) := by
  refine mp_iload (i := 5) (x := l5) (dz dl_Mod_served_0 6 9 (.iload 5) 2 rfl) rfl ?_
  refine mp_bipush (dz dl_Mod_served_0 7 11 (.bipush (6)) 2 rfl) (v := (6 : Int32)) (by decide) ?_
  refine mp_iload_n (i := 1) (x := l1) (dz dl_Mod_served_0 8 13 (.iload_n 1) 1 rfl) rfl rfl ?_
  refine mp_imul (dz dl_Mod_served_0 9 14 (.imul) 1 rfl) ?_
  refine mp_aload_n (i := 0) (v := qr 1 (some 0)) (dz dl_Mod_served_0 10 15 (.aload_n 0) 1 rfl) rfl rfl trivial ?_
  refine mp_getA (dz dl_Mod_served_0 11 16 (.getfield 55) 3 rfl) lk_Mod_55 (q := 0) kd_84 rfl sm_84 ?_
  refine mp_iload_n (i := 1) (x := l1) (dz dl_Mod_served_0 12 19 (.iload_n 1) 1 rfl) rfl rfl ?_
  obtain ⟨i1, h⟩ := h
  refine mp_iald (dz dl_Mod_served_0 13 20 (.iaload) 1 rfl) kd_84 rfl sm_84 i1 ?_
  refine mp_iadd (dz dl_Mod_served_0 14 21 (.iadd) 1 rfl) ?_
  refine mp_icmp_ge (tgt := 110) (dz dl_Mod_served_0 15 22 (.if_icmp .ge (88)) 3 rfl) (by decide) (fun hc => ?_) (fun hc => ?_)
  · replace h := h.1 hc
    refine mp_iload (i := 4) (x := l4) (dz dl_Mod_served_1 19 110 (.iload 4) 2 rfl) rfl ?_
    refine mp_if_ge (tgt := 117) (dz dl_Mod_served_1 20 112 (.ifCond .ge (5)) 3 rfl) (by decide) (fun hc => ?_) (fun hc => ?_)
    · replace h := h.1 hc
      refine mp_aload_n (i := 0) (v := qr 1 (some 0)) (dz dl_Mod_served_1 23 117 (.aload_n 0) 1 rfl) rfl rfl trivial ?_
      refine mp_getA (dz dl_Mod_served_1 24 118 (.getfield 58) 3 rfl) lk_Mod_58 (q := 0) kd_85 rfl sm_85 ?_
      refine mp_iload (i := 4) (x := l4) (dz dl_Mod_served_1 25 121 (.iload 4) 2 rfl) rfl ?_
      obtain ⟨i2, h⟩ := h
      refine mp_iald (dz dl_Mod_served_1 26 123 (.iaload) 1 rfl) kd_85 rfl sm_85 i2 ?_
      refine mp_istore (i := 5) (dz dl_Mod_served_1 27 124 (.istore 5) 2 rfl) [qr 1 (some 0), qi l1, qi l2, qi l3, qi l4, qi (u 85 l4.toNatClampNeg), none, none, none] (by decide) rfl ?_
      refine mp_aload_n (i := 0) (v := qr 1 (some 0)) (dz dl_Mod_served_1 28 126 (.aload_n 0) 1 rfl) rfl rfl trivial ?_
      refine mp_getA (dz dl_Mod_served_1 29 127 (.getfield 61) 3 rfl) lk_Mod_61 (q := 0) kd_86 rfl sm_86 ?_
      refine mp_iload (i := 4) (x := l4) (dz dl_Mod_served_1 30 130 (.iload 4) 2 rfl) rfl ?_
      refine mp_iald (dz dl_Mod_served_1 31 132 (.iaload) 1 rfl) kd_86 rfl sm_86 i2 ?_
      refine mp_istore (i := 6) (dz dl_Mod_served_1 32 133 (.istore 6) 2 rfl) [qr 1 (some 0), qi l1, qi l2, qi l3, qi l4, qi (u 85 l4.toNatClampNeg), qi (u 86 l4.toNatClampNeg), none, none] (by decide) rfl ?_
      refine mp_aload_n (i := 0) (v := qr 1 (some 0)) (dz dl_Mod_served_1 33 135 (.aload_n 0) 1 rfl) rfl rfl trivial ?_
      refine mp_getA (dz dl_Mod_served_1 34 136 (.getfield 64) 3 rfl) lk_Mod_64 (q := 0) kd_87 rfl sm_87 ?_
      refine mp_iload (i := 4) (x := l4) (dz dl_Mod_served_1 35 139 (.iload 4) 2 rfl) rfl ?_
      refine mp_iald (dz dl_Mod_served_1 36 141 (.iaload) 1 rfl) kd_87 rfl sm_87 i2 ?_
      refine mp_istore (i := 7) (dz dl_Mod_served_1 37 142 (.istore 7) 2 rfl) [qr 1 (some 0), qi l1, qi l2, qi l3, qi l4, qi (u 85 l4.toNatClampNeg), qi (u 86 l4.toNatClampNeg), qi (u 87 l4.toNatClampNeg), none] (by decide) rfl ?_
      refine mp_aload_n (i := 0) (v := qr 1 (some 0)) (dz dl_Mod_served_1 38 144 (.aload_n 0) 1 rfl) rfl rfl trivial ?_
      refine mp_getA (dz dl_Mod_served_1 39 145 (.getfield 67) 3 rfl) lk_Mod_67 (q := 0) kd_88 rfl sm_88 ?_
      refine mp_iload (i := 4) (x := l4) (dz dl_Mod_served_2 0 148 (.iload 4) 2 rfl) rfl ?_
      refine mp_iald (dz dl_Mod_served_2 1 150 (.iaload) 1 rfl) kd_88 rfl sm_88 i2 ?_
      refine mp_istore (i := 8) (dz dl_Mod_served_2 2 151 (.istore 8) 2 rfl) [qr 1 (some 0), qi l1, qi l2, qi l3, qi l4, qi (u 85 l4.toNatClampNeg), qi (u 86 l4.toNatClampNeg), qi (u 87 l4.toNatClampNeg), qi (u 88 l4.toNatClampNeg)] (by decide) rfl ?_
      refine mp_aload_n (i := 0) (v := qr 1 (some 0)) (dz dl_Mod_served_2 3 153 (.aload_n 0) 1 rfl) rfl rfl trivial ?_
      refine mp_iload_n (i := 1) (x := l1) (dz dl_Mod_served_2 4 154 (.iload_n 1) 1 rfl) rfl rfl ?_
      refine mp_iload (i := 4) (x := l4) (dz dl_Mod_served_2 5 155 (.iload 4) 2 rfl) rfl ?_
      refine mp_callV [qi l1, qi l4] [] (dz dl_Mod_served_2 6 157 (.invokevirtual 246) 3 rfl) ok_Mod_shiftStore lm_Mod_246 ws_Mod_shiftStore wv_Mod_shiftStore ⟨Nat.le_of_ble_eq_true rfl, Nat.le_of_ble_eq_true rfl⟩ pn_Mod_shiftStore (Nat.le_of_ble_eq_true rfl) (Nat.le_of_ble_eq_true rfl) (Or.inl rfl) (mmono h ?_)
      rintro _ u1 ⟨rfl, h⟩
      show mWP _ _ _ [] _ _
      refine mp_aload_n (i := 0) (v := qr 1 (some 0)) (dz dl_Mod_served_2 7 160 (.aload_n 0) 1 rfl) rfl rfl trivial ?_
      refine mp_iload_n (i := 1) (x := l1) (dz dl_Mod_served_2 8 161 (.iload_n 1) 1 rfl) rfl rfl ?_
      refine mp_iload (i := 5) (x := u 85 l4.toNatClampNeg) (dz dl_Mod_served_2 9 162 (.iload 5) 2 rfl) rfl ?_
      refine mp_iload (i := 6) (x := u 86 l4.toNatClampNeg) (dz dl_Mod_served_2 10 164 (.iload 6) 2 rfl) rfl ?_
      refine mp_iload (i := 7) (x := u 87 l4.toNatClampNeg) (dz dl_Mod_served_2 11 166 (.iload 7) 2 rfl) rfl ?_
      refine mp_iload (i := 8) (x := u 88 l4.toNatClampNeg) (dz dl_Mod_served_2 12 168 (.iload 8) 2 rfl) rfl ?_
      refine mp_callV [qi l1, qi (u 85 l4.toNatClampNeg), qi (u 86 l4.toNatClampNeg), qi (u 87 l4.toNatClampNeg), qi (u 88 l4.toNatClampNeg)] [] (dz dl_Mod_served_2 13 170 (.invokevirtual 253) 3 rfl) ok_Mod_enterStore lm_Mod_253 ws_Mod_enterStore wv_Mod_enterStore ⟨Nat.le_of_ble_eq_true rfl, Nat.le_of_ble_eq_true rfl⟩ pn_Mod_enterStore (Nat.le_of_ble_eq_true rfl) (Nat.le_of_ble_eq_true rfl) (Or.inl rfl) (mmono h ?_)
      rintro _ u2 ⟨rfl, h⟩
      show mWP _ _ _ [] _ _
      refine mp_bipush (dz dl_Mod_served_2 14 173 (.bipush (6)) 2 rfl) (v := (6 : Int32)) (by decide) ?_
      refine mp_iload_n (i := 1) (x := l1) (dz dl_Mod_served_2 15 175 (.iload_n 1) 1 rfl) rfl rfl ?_
      refine mp_imul (dz dl_Mod_served_2 16 176 (.imul) 1 rfl) ?_
      refine mp_aload_n (i := 0) (v := qr 1 (some 0)) (dz dl_Mod_served_2 17 177 (.aload_n 0) 1 rfl) rfl rfl trivial ?_
      refine mp_getA (dz dl_Mod_served_2 18 178 (.getfield 55) 3 rfl) lk_Mod_55 (q := 0) kd_84 rfl sm_84 ?_
      refine mp_iload_n (i := 1) (x := l1) (dz dl_Mod_served_2 19 181 (.iload_n 1) 1 rfl) rfl rfl ?_
      refine mp_iald (dz dl_Mod_served_2 20 182 (.iaload) 1 rfl) kd_84 rfl sm_84 i1 ?_
      refine mp_iadd (dz dl_Mod_served_2 21 183 (.iadd) 1 rfl) ?_
      refine mp_iconst (dz dl_Mod_served_2 22 184 (.iconst (1)) 1 rfl) (v := (1 : Int32)) (by decide) ?_
      refine mp_isub (dz dl_Mod_served_2 23 185 (.isub) 1 rfl) ?_
      exact mp_rt (qi _) (rt_I rfl (dz dl_Mod_served_2 24 186 (.ireturn) 1 rfl)) ⟨_, rfl, h⟩
    · replace h := h.2 hc
      refine mp_iconst (dz dl_Mod_served_1 21 115 (.iconst (-1)) 1 rfl) (v := (-1 : Int32)) (by decide) ?_
      exact mp_rt (qi _) (rt_I rfl (dz dl_Mod_served_1 22 116 (.ireturn) 1 rfl)) ⟨_, rfl, h⟩
  · replace h := h.2 hc
    refine mp_aload_n (i := 0) (v := qr 1 (some 0)) (dz dl_Mod_served_0 16 25 (.aload_n 0) 1 rfl) rfl rfl trivial ?_
    refine mp_aload_n (i := 0) (v := qr 1 (some 0)) (dz dl_Mod_served_0 17 26 (.aload_n 0) 1 rfl) rfl rfl trivial ?_
    refine mp_getA (dz dl_Mod_served_0 18 27 (.getfield 58) 3 rfl) lk_Mod_58 (q := 0) kd_85 rfl sm_85 ?_
    refine mp_iload (i := 5) (x := l5) (dz dl_Mod_served_0 19 30 (.iload 5) 2 rfl) rfl ?_
    obtain ⟨i3, h⟩ := h
    refine mp_iald (dz dl_Mod_served_0 20 32 (.iaload) 1 rfl) kd_85 rfl sm_85 i3 ?_
    refine mp_iload_n (i := 2) (x := l2) (dz dl_Mod_served_0 21 33 (.iload_n 2) 1 rfl) rfl rfl ?_
    refine mp_iload_n (i := 3) (x := l3) (dz dl_Mod_served_0 22 34 (.iload_n 3) 1 rfl) rfl rfl ?_
    refine mp_callV [qi (u 85 l5.toNatClampNeg), qi l2, qi l3] [] (dz dl_Mod_served_0 23 35 (.invokevirtual 256) 3 rfl) ok_Mod_answers lm_Mod_256 ws_Mod_answers wv_Mod_answers ⟨Nat.le_of_ble_eq_true rfl, Nat.le_of_ble_eq_true rfl⟩ pn_Mod_answers (Nat.le_of_ble_eq_true rfl) (Nat.le_of_ble_eq_true rfl) (Or.inl rfl) (mmono h ?_)
    rintro _ u3 ⟨r1, rfl, h⟩
    show mWP _ _ _ [qi r1] _ _
    refine mp_if_eq (tgt := 65) (dz dl_Mod_served_0 24 38 (.ifCond .eq (27)) 3 rfl) (by decide) (fun hc => ?_) (fun hc => ?_)
    · replace h := h.1 hc
      refine mp_iconst (dz dl_Mod_served_0 38 65 (.iconst (0)) 1 rfl) (v := (0 : Int32)) (by decide) ?_
      refine mp_istore (i := 6) (dz dl_Mod_served_0 39 66 (.istore 6) 2 rfl) [qr 1 (some 0), qi l1, qi l2, qi l3, qi l4, qi l5, qi (0 : Int32), none, none] (by decide) rfl ?_
      refine mp_iload (i := 6) (x := (0 : Int32)) (dz dl_Mod_served_1 0 68 (.iload 6) 2 rfl) rfl ?_
      refine mp_if_eq (tgt := 100) (dz dl_Mod_served_1 1 70 (.ifCond .eq (30)) 3 rfl) (by decide) (fun hc => ?_) (fun hc => ?_)
      · replace h := h.1 hc
        refine mp_iload (i := 4) (x := l4) (dz dl_Mod_served_1 15 100 (.iload 4) 2 rfl) rfl ?_
        refine mp_istore (i := 4) (dz dl_Mod_served_1 16 102 (.istore 4) 2 rfl) [qr 1 (some 0), qi l1, qi l2, qi l3, qi l4, qi l5, qi (0 : Int32), none, none] (by decide) rfl ?_
        refine mp_iinc (i := 5) (v := l5 + 1) (dz dl_Mod_served_1 17 104 (.iinc 5 (1)) 3 rfl) rfl (congrArg (fun z => l5 + z) (by decide)) [qr 1 (some 0), qi l1, qi l2, qi l3, qi l4, qi (l5 + 1), qi (0 : Int32), none, none] (by decide) rfl ?_
        refine mp_goto (tgt := 9) (dz dl_Mod_served_1 18 107 (.goto (-98)) 3 rfl) (by decide) ?_
        exact mp_cut h ⟨Or.inr rfl, Or.inr rfl, Or.inr rfl, Or.inr rfl, Or.inr rfl, Or.inr rfl, Or.inl rfl, Or.inl rfl, Or.inl rfl, trivial⟩
      · replace h := h.2 hc
        refine mp_iload (i := 4) (x := l4) (dz dl_Mod_served_1 2 73 (.iload 4) 2 rfl) rfl ?_
        refine mp_if_lt (tgt := 95) (dz dl_Mod_served_1 3 75 (.ifCond .lt (20)) 3 rfl) (by decide) (fun hc => ?_) (fun hc => ?_)
        · replace h := h.1 hc
          refine mp_iload (i := 5) (x := l5) (dz dl_Mod_served_1 13 95 (.iload 5) 2 rfl) rfl ?_
          refine mp_goto (tgt := 102) (dz dl_Mod_served_1 14 97 (.goto (5)) 3 rfl) (by decide) ?_
          refine mp_istore (i := 4) (dz dl_Mod_served_1 16 102 (.istore 4) 2 rfl) [qr 1 (some 0), qi l1, qi l2, qi l3, qi l5, qi l5, qi (0 : Int32), none, none] (by decide) rfl ?_
          refine mp_iinc (i := 5) (v := l5 + 1) (dz dl_Mod_served_1 17 104 (.iinc 5 (1)) 3 rfl) rfl (congrArg (fun z => l5 + z) (by decide)) [qr 1 (some 0), qi l1, qi l2, qi l3, qi l5, qi (l5 + 1), qi (0 : Int32), none, none] (by decide) rfl ?_
          refine mp_goto (tgt := 9) (dz dl_Mod_served_1 18 107 (.goto (-98)) 3 rfl) (by decide) ?_
          exact mp_cut h ⟨Or.inr rfl, Or.inr rfl, Or.inr rfl, Or.inr rfl, Or.inr rfl, Or.inr rfl, Or.inl rfl, Or.inl rfl, Or.inl rfl, trivial⟩
        · replace h := h.2 hc
          refine mp_aload_n (i := 0) (v := qr 1 (some 0)) (dz dl_Mod_served_1 4 78 (.aload_n 0) 1 rfl) rfl rfl trivial ?_
          refine mp_getA (dz dl_Mod_served_1 5 79 (.getfield 58) 3 rfl) lk_Mod_58 (q := 0) kd_85 rfl sm_85 ?_
          refine mp_iload (i := 5) (x := l5) (dz dl_Mod_served_1 6 82 (.iload 5) 2 rfl) rfl ?_
          refine mp_iald (dz dl_Mod_served_1 7 84 (.iaload) 1 rfl) kd_85 rfl sm_85 i3 ?_
          refine mp_aload_n (i := 0) (v := qr 1 (some 0)) (dz dl_Mod_served_1 8 85 (.aload_n 0) 1 rfl) rfl rfl trivial ?_
          refine mp_getA (dz dl_Mod_served_1 9 86 (.getfield 58) 3 rfl) lk_Mod_58 (q := 0) kd_85 rfl sm_85 ?_
          refine mp_iload (i := 4) (x := l4) (dz dl_Mod_served_1 10 89 (.iload 4) 2 rfl) rfl ?_
          obtain ⟨i4, h⟩ := h
          refine mp_iald (dz dl_Mod_served_1 11 91 (.iaload) 1 rfl) kd_85 rfl sm_85 i4 ?_
          refine mp_icmp_ge (tgt := 100) (dz dl_Mod_served_1 12 92 (.if_icmp .ge (8)) 3 rfl) (by decide) (fun hc => ?_) (fun hc => ?_)
          · replace h := h.1 hc
            refine mp_iload (i := 4) (x := l4) (dz dl_Mod_served_1 15 100 (.iload 4) 2 rfl) rfl ?_
            refine mp_istore (i := 4) (dz dl_Mod_served_1 16 102 (.istore 4) 2 rfl) [qr 1 (some 0), qi l1, qi l2, qi l3, qi l4, qi l5, qi (0 : Int32), none, none] (by decide) rfl ?_
            refine mp_iinc (i := 5) (v := l5 + 1) (dz dl_Mod_served_1 17 104 (.iinc 5 (1)) 3 rfl) rfl (congrArg (fun z => l5 + z) (by decide)) [qr 1 (some 0), qi l1, qi l2, qi l3, qi l4, qi (l5 + 1), qi (0 : Int32), none, none] (by decide) rfl ?_
            refine mp_goto (tgt := 9) (dz dl_Mod_served_1 18 107 (.goto (-98)) 3 rfl) (by decide) ?_
            exact mp_cut h ⟨Or.inr rfl, Or.inr rfl, Or.inr rfl, Or.inr rfl, Or.inr rfl, Or.inr rfl, Or.inl rfl, Or.inl rfl, Or.inl rfl, trivial⟩
          · replace h := h.2 hc
            refine mp_iload (i := 5) (x := l5) (dz dl_Mod_served_1 13 95 (.iload 5) 2 rfl) rfl ?_
            refine mp_goto (tgt := 102) (dz dl_Mod_served_1 14 97 (.goto (5)) 3 rfl) (by decide) ?_
            refine mp_istore (i := 4) (dz dl_Mod_served_1 16 102 (.istore 4) 2 rfl) [qr 1 (some 0), qi l1, qi l2, qi l3, qi l5, qi l5, qi (0 : Int32), none, none] (by decide) rfl ?_
            refine mp_iinc (i := 5) (v := l5 + 1) (dz dl_Mod_served_1 17 104 (.iinc 5 (1)) 3 rfl) rfl (congrArg (fun z => l5 + z) (by decide)) [qr 1 (some 0), qi l1, qi l2, qi l3, qi l5, qi (l5 + 1), qi (0 : Int32), none, none] (by decide) rfl ?_
            refine mp_goto (tgt := 9) (dz dl_Mod_served_1 18 107 (.goto (-98)) 3 rfl) (by decide) ?_
            exact mp_cut h ⟨Or.inr rfl, Or.inr rfl, Or.inr rfl, Or.inr rfl, Or.inr rfl, Or.inr rfl, Or.inl rfl, Or.inl rfl, Or.inl rfl, trivial⟩
    · replace h := h.2 hc
      refine mp_iload_n (i := 3) (x := l3) (dz dl_Mod_served_0 25 41 (.iload_n 3) 1 rfl) rfl rfl ?_
      refine mp_iconst (dz dl_Mod_served_0 26 42 (.iconst (2)) 1 rfl) (v := (2 : Int32)) (by decide) ?_
      refine mp_iand (dz dl_Mod_served_0 27 43 (.iand) 1 rfl) ?_
      refine mp_if_eq (tgt := 61) (dz dl_Mod_served_0 28 44 (.ifCond .eq (17)) 3 rfl) (by decide) (fun hc => ?_) (fun hc => ?_)
      · replace h := h.1 hc
        refine mp_iconst (dz dl_Mod_served_0 36 61 (.iconst (1)) 1 rfl) (v := (1 : Int32)) (by decide) ?_
        refine mp_goto (tgt := 66) (dz dl_Mod_served_0 37 62 (.goto (4)) 3 rfl) (by decide) ?_
        refine mp_istore (i := 6) (dz dl_Mod_served_0 39 66 (.istore 6) 2 rfl) [qr 1 (some 0), qi l1, qi l2, qi l3, qi l4, qi l5, qi (1 : Int32), none, none] (by decide) rfl ?_
        refine mp_iload (i := 6) (x := (1 : Int32)) (dz dl_Mod_served_1 0 68 (.iload 6) 2 rfl) rfl ?_
        refine mp_if_eq (tgt := 100) (dz dl_Mod_served_1 1 70 (.ifCond .eq (30)) 3 rfl) (by decide) (fun hc => ?_) (fun hc => ?_)
        · replace h := h.1 hc
          refine mp_iload (i := 4) (x := l4) (dz dl_Mod_served_1 15 100 (.iload 4) 2 rfl) rfl ?_
          refine mp_istore (i := 4) (dz dl_Mod_served_1 16 102 (.istore 4) 2 rfl) [qr 1 (some 0), qi l1, qi l2, qi l3, qi l4, qi l5, qi (1 : Int32), none, none] (by decide) rfl ?_
          refine mp_iinc (i := 5) (v := l5 + 1) (dz dl_Mod_served_1 17 104 (.iinc 5 (1)) 3 rfl) rfl (congrArg (fun z => l5 + z) (by decide)) [qr 1 (some 0), qi l1, qi l2, qi l3, qi l4, qi (l5 + 1), qi (1 : Int32), none, none] (by decide) rfl ?_
          refine mp_goto (tgt := 9) (dz dl_Mod_served_1 18 107 (.goto (-98)) 3 rfl) (by decide) ?_
          exact mp_cut h ⟨Or.inr rfl, Or.inr rfl, Or.inr rfl, Or.inr rfl, Or.inr rfl, Or.inr rfl, Or.inl rfl, Or.inl rfl, Or.inl rfl, trivial⟩
        · replace h := h.2 hc
          refine mp_iload (i := 4) (x := l4) (dz dl_Mod_served_1 2 73 (.iload 4) 2 rfl) rfl ?_
          refine mp_if_lt (tgt := 95) (dz dl_Mod_served_1 3 75 (.ifCond .lt (20)) 3 rfl) (by decide) (fun hc => ?_) (fun hc => ?_)
          · replace h := h.1 hc
            refine mp_iload (i := 5) (x := l5) (dz dl_Mod_served_1 13 95 (.iload 5) 2 rfl) rfl ?_
            refine mp_goto (tgt := 102) (dz dl_Mod_served_1 14 97 (.goto (5)) 3 rfl) (by decide) ?_
            refine mp_istore (i := 4) (dz dl_Mod_served_1 16 102 (.istore 4) 2 rfl) [qr 1 (some 0), qi l1, qi l2, qi l3, qi l5, qi l5, qi (1 : Int32), none, none] (by decide) rfl ?_
            refine mp_iinc (i := 5) (v := l5 + 1) (dz dl_Mod_served_1 17 104 (.iinc 5 (1)) 3 rfl) rfl (congrArg (fun z => l5 + z) (by decide)) [qr 1 (some 0), qi l1, qi l2, qi l3, qi l5, qi (l5 + 1), qi (1 : Int32), none, none] (by decide) rfl ?_
            refine mp_goto (tgt := 9) (dz dl_Mod_served_1 18 107 (.goto (-98)) 3 rfl) (by decide) ?_
            exact mp_cut h ⟨Or.inr rfl, Or.inr rfl, Or.inr rfl, Or.inr rfl, Or.inr rfl, Or.inr rfl, Or.inl rfl, Or.inl rfl, Or.inl rfl, trivial⟩
          · replace h := h.2 hc
            refine mp_aload_n (i := 0) (v := qr 1 (some 0)) (dz dl_Mod_served_1 4 78 (.aload_n 0) 1 rfl) rfl rfl trivial ?_
            refine mp_getA (dz dl_Mod_served_1 5 79 (.getfield 58) 3 rfl) lk_Mod_58 (q := 0) kd_85 rfl sm_85 ?_
            refine mp_iload (i := 5) (x := l5) (dz dl_Mod_served_1 6 82 (.iload 5) 2 rfl) rfl ?_
            refine mp_iald (dz dl_Mod_served_1 7 84 (.iaload) 1 rfl) kd_85 rfl sm_85 i3 ?_
            refine mp_aload_n (i := 0) (v := qr 1 (some 0)) (dz dl_Mod_served_1 8 85 (.aload_n 0) 1 rfl) rfl rfl trivial ?_
            refine mp_getA (dz dl_Mod_served_1 9 86 (.getfield 58) 3 rfl) lk_Mod_58 (q := 0) kd_85 rfl sm_85 ?_
            refine mp_iload (i := 4) (x := l4) (dz dl_Mod_served_1 10 89 (.iload 4) 2 rfl) rfl ?_
            obtain ⟨i5, h⟩ := h
            refine mp_iald (dz dl_Mod_served_1 11 91 (.iaload) 1 rfl) kd_85 rfl sm_85 i5 ?_
            refine mp_icmp_ge (tgt := 100) (dz dl_Mod_served_1 12 92 (.if_icmp .ge (8)) 3 rfl) (by decide) (fun hc => ?_) (fun hc => ?_)
            · replace h := h.1 hc
              refine mp_iload (i := 4) (x := l4) (dz dl_Mod_served_1 15 100 (.iload 4) 2 rfl) rfl ?_
              refine mp_istore (i := 4) (dz dl_Mod_served_1 16 102 (.istore 4) 2 rfl) [qr 1 (some 0), qi l1, qi l2, qi l3, qi l4, qi l5, qi (1 : Int32), none, none] (by decide) rfl ?_
              refine mp_iinc (i := 5) (v := l5 + 1) (dz dl_Mod_served_1 17 104 (.iinc 5 (1)) 3 rfl) rfl (congrArg (fun z => l5 + z) (by decide)) [qr 1 (some 0), qi l1, qi l2, qi l3, qi l4, qi (l5 + 1), qi (1 : Int32), none, none] (by decide) rfl ?_
              refine mp_goto (tgt := 9) (dz dl_Mod_served_1 18 107 (.goto (-98)) 3 rfl) (by decide) ?_
              exact mp_cut h ⟨Or.inr rfl, Or.inr rfl, Or.inr rfl, Or.inr rfl, Or.inr rfl, Or.inr rfl, Or.inl rfl, Or.inl rfl, Or.inl rfl, trivial⟩
            · replace h := h.2 hc
              refine mp_iload (i := 5) (x := l5) (dz dl_Mod_served_1 13 95 (.iload 5) 2 rfl) rfl ?_
              refine mp_goto (tgt := 102) (dz dl_Mod_served_1 14 97 (.goto (5)) 3 rfl) (by decide) ?_
              refine mp_istore (i := 4) (dz dl_Mod_served_1 16 102 (.istore 4) 2 rfl) [qr 1 (some 0), qi l1, qi l2, qi l3, qi l5, qi l5, qi (1 : Int32), none, none] (by decide) rfl ?_
              refine mp_iinc (i := 5) (v := l5 + 1) (dz dl_Mod_served_1 17 104 (.iinc 5 (1)) 3 rfl) rfl (congrArg (fun z => l5 + z) (by decide)) [qr 1 (some 0), qi l1, qi l2, qi l3, qi l5, qi (l5 + 1), qi (1 : Int32), none, none] (by decide) rfl ?_
              refine mp_goto (tgt := 9) (dz dl_Mod_served_1 18 107 (.goto (-98)) 3 rfl) (by decide) ?_
              exact mp_cut h ⟨Or.inr rfl, Or.inr rfl, Or.inr rfl, Or.inr rfl, Or.inr rfl, Or.inr rfl, Or.inl rfl, Or.inl rfl, Or.inl rfl, trivial⟩
      · replace h := h.2 hc
        refine mp_aload_n (i := 0) (v := qr 1 (some 0)) (dz dl_Mod_served_0 29 47 (.aload_n 0) 1 rfl) rfl rfl trivial ?_
        refine mp_getA (dz dl_Mod_served_0 30 48 (.getfield 67) 3 rfl) lk_Mod_67 (q := 0) kd_88 rfl sm_88 ?_
        refine mp_iload (i := 5) (x := l5) (dz dl_Mod_served_0 31 51 (.iload 5) 2 rfl) rfl ?_
        refine mp_iald (dz dl_Mod_served_0 32 53 (.iaload) 1 rfl) kd_88 rfl sm_88 i3 ?_
        refine mp_aload_n (i := 0) (v := qr 1 (some 0)) (dz dl_Mod_served_0 33 54 (.aload_n 0) 1 rfl) rfl rfl trivial ?_
        refine mp_getI (dz dl_Mod_served_0 34 55 (.getfield 250) 3 rfl) lk_Mod_250 kd_67 rfl ?_
        refine mp_icmp_le (tgt := 65) (dz dl_Mod_served_0 35 58 (.if_icmp .le (7)) 3 rfl) (by decide) (fun hc => ?_) (fun hc => ?_)
        · replace h := h.1 hc
          refine mp_iconst (dz dl_Mod_served_0 38 65 (.iconst (0)) 1 rfl) (v := (0 : Int32)) (by decide) ?_
          refine mp_istore (i := 6) (dz dl_Mod_served_0 39 66 (.istore 6) 2 rfl) [qr 1 (some 0), qi l1, qi l2, qi l3, qi l4, qi l5, qi (0 : Int32), none, none] (by decide) rfl ?_
          refine mp_iload (i := 6) (x := (0 : Int32)) (dz dl_Mod_served_1 0 68 (.iload 6) 2 rfl) rfl ?_
          refine mp_if_eq (tgt := 100) (dz dl_Mod_served_1 1 70 (.ifCond .eq (30)) 3 rfl) (by decide) (fun hc => ?_) (fun hc => ?_)
          · replace h := h.1 hc
            refine mp_iload (i := 4) (x := l4) (dz dl_Mod_served_1 15 100 (.iload 4) 2 rfl) rfl ?_
            refine mp_istore (i := 4) (dz dl_Mod_served_1 16 102 (.istore 4) 2 rfl) [qr 1 (some 0), qi l1, qi l2, qi l3, qi l4, qi l5, qi (0 : Int32), none, none] (by decide) rfl ?_
            refine mp_iinc (i := 5) (v := l5 + 1) (dz dl_Mod_served_1 17 104 (.iinc 5 (1)) 3 rfl) rfl (congrArg (fun z => l5 + z) (by decide)) [qr 1 (some 0), qi l1, qi l2, qi l3, qi l4, qi (l5 + 1), qi (0 : Int32), none, none] (by decide) rfl ?_
            refine mp_goto (tgt := 9) (dz dl_Mod_served_1 18 107 (.goto (-98)) 3 rfl) (by decide) ?_
            exact mp_cut h ⟨Or.inr rfl, Or.inr rfl, Or.inr rfl, Or.inr rfl, Or.inr rfl, Or.inr rfl, Or.inl rfl, Or.inl rfl, Or.inl rfl, trivial⟩
          · replace h := h.2 hc
            refine mp_iload (i := 4) (x := l4) (dz dl_Mod_served_1 2 73 (.iload 4) 2 rfl) rfl ?_
            refine mp_if_lt (tgt := 95) (dz dl_Mod_served_1 3 75 (.ifCond .lt (20)) 3 rfl) (by decide) (fun hc => ?_) (fun hc => ?_)
            · replace h := h.1 hc
              refine mp_iload (i := 5) (x := l5) (dz dl_Mod_served_1 13 95 (.iload 5) 2 rfl) rfl ?_
              refine mp_goto (tgt := 102) (dz dl_Mod_served_1 14 97 (.goto (5)) 3 rfl) (by decide) ?_
              refine mp_istore (i := 4) (dz dl_Mod_served_1 16 102 (.istore 4) 2 rfl) [qr 1 (some 0), qi l1, qi l2, qi l3, qi l5, qi l5, qi (0 : Int32), none, none] (by decide) rfl ?_
              refine mp_iinc (i := 5) (v := l5 + 1) (dz dl_Mod_served_1 17 104 (.iinc 5 (1)) 3 rfl) rfl (congrArg (fun z => l5 + z) (by decide)) [qr 1 (some 0), qi l1, qi l2, qi l3, qi l5, qi (l5 + 1), qi (0 : Int32), none, none] (by decide) rfl ?_
              refine mp_goto (tgt := 9) (dz dl_Mod_served_1 18 107 (.goto (-98)) 3 rfl) (by decide) ?_
              exact mp_cut h ⟨Or.inr rfl, Or.inr rfl, Or.inr rfl, Or.inr rfl, Or.inr rfl, Or.inr rfl, Or.inl rfl, Or.inl rfl, Or.inl rfl, trivial⟩
            · replace h := h.2 hc
              refine mp_aload_n (i := 0) (v := qr 1 (some 0)) (dz dl_Mod_served_1 4 78 (.aload_n 0) 1 rfl) rfl rfl trivial ?_
              refine mp_getA (dz dl_Mod_served_1 5 79 (.getfield 58) 3 rfl) lk_Mod_58 (q := 0) kd_85 rfl sm_85 ?_
              refine mp_iload (i := 5) (x := l5) (dz dl_Mod_served_1 6 82 (.iload 5) 2 rfl) rfl ?_
              refine mp_iald (dz dl_Mod_served_1 7 84 (.iaload) 1 rfl) kd_85 rfl sm_85 i3 ?_
              refine mp_aload_n (i := 0) (v := qr 1 (some 0)) (dz dl_Mod_served_1 8 85 (.aload_n 0) 1 rfl) rfl rfl trivial ?_
              refine mp_getA (dz dl_Mod_served_1 9 86 (.getfield 58) 3 rfl) lk_Mod_58 (q := 0) kd_85 rfl sm_85 ?_
              refine mp_iload (i := 4) (x := l4) (dz dl_Mod_served_1 10 89 (.iload 4) 2 rfl) rfl ?_
              obtain ⟨i6, h⟩ := h
              refine mp_iald (dz dl_Mod_served_1 11 91 (.iaload) 1 rfl) kd_85 rfl sm_85 i6 ?_
              refine mp_icmp_ge (tgt := 100) (dz dl_Mod_served_1 12 92 (.if_icmp .ge (8)) 3 rfl) (by decide) (fun hc => ?_) (fun hc => ?_)
              · replace h := h.1 hc
                refine mp_iload (i := 4) (x := l4) (dz dl_Mod_served_1 15 100 (.iload 4) 2 rfl) rfl ?_
                refine mp_istore (i := 4) (dz dl_Mod_served_1 16 102 (.istore 4) 2 rfl) [qr 1 (some 0), qi l1, qi l2, qi l3, qi l4, qi l5, qi (0 : Int32), none, none] (by decide) rfl ?_
                refine mp_iinc (i := 5) (v := l5 + 1) (dz dl_Mod_served_1 17 104 (.iinc 5 (1)) 3 rfl) rfl (congrArg (fun z => l5 + z) (by decide)) [qr 1 (some 0), qi l1, qi l2, qi l3, qi l4, qi (l5 + 1), qi (0 : Int32), none, none] (by decide) rfl ?_
                refine mp_goto (tgt := 9) (dz dl_Mod_served_1 18 107 (.goto (-98)) 3 rfl) (by decide) ?_
                exact mp_cut h ⟨Or.inr rfl, Or.inr rfl, Or.inr rfl, Or.inr rfl, Or.inr rfl, Or.inr rfl, Or.inl rfl, Or.inl rfl, Or.inl rfl, trivial⟩
              · replace h := h.2 hc
                refine mp_iload (i := 5) (x := l5) (dz dl_Mod_served_1 13 95 (.iload 5) 2 rfl) rfl ?_
                refine mp_goto (tgt := 102) (dz dl_Mod_served_1 14 97 (.goto (5)) 3 rfl) (by decide) ?_
                refine mp_istore (i := 4) (dz dl_Mod_served_1 16 102 (.istore 4) 2 rfl) [qr 1 (some 0), qi l1, qi l2, qi l3, qi l5, qi l5, qi (0 : Int32), none, none] (by decide) rfl ?_
                refine mp_iinc (i := 5) (v := l5 + 1) (dz dl_Mod_served_1 17 104 (.iinc 5 (1)) 3 rfl) rfl (congrArg (fun z => l5 + z) (by decide)) [qr 1 (some 0), qi l1, qi l2, qi l3, qi l5, qi (l5 + 1), qi (0 : Int32), none, none] (by decide) rfl ?_
                refine mp_goto (tgt := 9) (dz dl_Mod_served_1 18 107 (.goto (-98)) 3 rfl) (by decide) ?_
                exact mp_cut h ⟨Or.inr rfl, Or.inr rfl, Or.inr rfl, Or.inr rfl, Or.inr rfl, Or.inr rfl, Or.inl rfl, Or.inl rfl, Or.inl rfl, trivial⟩
        · replace h := h.2 hc
          refine mp_iconst (dz dl_Mod_served_0 36 61 (.iconst (1)) 1 rfl) (v := (1 : Int32)) (by decide) ?_
          refine mp_goto (tgt := 66) (dz dl_Mod_served_0 37 62 (.goto (4)) 3 rfl) (by decide) ?_
          refine mp_istore (i := 6) (dz dl_Mod_served_0 39 66 (.istore 6) 2 rfl) [qr 1 (some 0), qi l1, qi l2, qi l3, qi l4, qi l5, qi (1 : Int32), none, none] (by decide) rfl ?_
          refine mp_iload (i := 6) (x := (1 : Int32)) (dz dl_Mod_served_1 0 68 (.iload 6) 2 rfl) rfl ?_
          refine mp_if_eq (tgt := 100) (dz dl_Mod_served_1 1 70 (.ifCond .eq (30)) 3 rfl) (by decide) (fun hc => ?_) (fun hc => ?_)
          · replace h := h.1 hc
            refine mp_iload (i := 4) (x := l4) (dz dl_Mod_served_1 15 100 (.iload 4) 2 rfl) rfl ?_
            refine mp_istore (i := 4) (dz dl_Mod_served_1 16 102 (.istore 4) 2 rfl) [qr 1 (some 0), qi l1, qi l2, qi l3, qi l4, qi l5, qi (1 : Int32), none, none] (by decide) rfl ?_
            refine mp_iinc (i := 5) (v := l5 + 1) (dz dl_Mod_served_1 17 104 (.iinc 5 (1)) 3 rfl) rfl (congrArg (fun z => l5 + z) (by decide)) [qr 1 (some 0), qi l1, qi l2, qi l3, qi l4, qi (l5 + 1), qi (1 : Int32), none, none] (by decide) rfl ?_
            refine mp_goto (tgt := 9) (dz dl_Mod_served_1 18 107 (.goto (-98)) 3 rfl) (by decide) ?_
            exact mp_cut h ⟨Or.inr rfl, Or.inr rfl, Or.inr rfl, Or.inr rfl, Or.inr rfl, Or.inr rfl, Or.inl rfl, Or.inl rfl, Or.inl rfl, trivial⟩
          · replace h := h.2 hc
            refine mp_iload (i := 4) (x := l4) (dz dl_Mod_served_1 2 73 (.iload 4) 2 rfl) rfl ?_
            refine mp_if_lt (tgt := 95) (dz dl_Mod_served_1 3 75 (.ifCond .lt (20)) 3 rfl) (by decide) (fun hc => ?_) (fun hc => ?_)
            · replace h := h.1 hc
              refine mp_iload (i := 5) (x := l5) (dz dl_Mod_served_1 13 95 (.iload 5) 2 rfl) rfl ?_
              refine mp_goto (tgt := 102) (dz dl_Mod_served_1 14 97 (.goto (5)) 3 rfl) (by decide) ?_
              refine mp_istore (i := 4) (dz dl_Mod_served_1 16 102 (.istore 4) 2 rfl) [qr 1 (some 0), qi l1, qi l2, qi l3, qi l5, qi l5, qi (1 : Int32), none, none] (by decide) rfl ?_
              refine mp_iinc (i := 5) (v := l5 + 1) (dz dl_Mod_served_1 17 104 (.iinc 5 (1)) 3 rfl) rfl (congrArg (fun z => l5 + z) (by decide)) [qr 1 (some 0), qi l1, qi l2, qi l3, qi l5, qi (l5 + 1), qi (1 : Int32), none, none] (by decide) rfl ?_
              refine mp_goto (tgt := 9) (dz dl_Mod_served_1 18 107 (.goto (-98)) 3 rfl) (by decide) ?_
              exact mp_cut h ⟨Or.inr rfl, Or.inr rfl, Or.inr rfl, Or.inr rfl, Or.inr rfl, Or.inr rfl, Or.inl rfl, Or.inl rfl, Or.inl rfl, trivial⟩
            · replace h := h.2 hc
              refine mp_aload_n (i := 0) (v := qr 1 (some 0)) (dz dl_Mod_served_1 4 78 (.aload_n 0) 1 rfl) rfl rfl trivial ?_
              refine mp_getA (dz dl_Mod_served_1 5 79 (.getfield 58) 3 rfl) lk_Mod_58 (q := 0) kd_85 rfl sm_85 ?_
              refine mp_iload (i := 5) (x := l5) (dz dl_Mod_served_1 6 82 (.iload 5) 2 rfl) rfl ?_
              refine mp_iald (dz dl_Mod_served_1 7 84 (.iaload) 1 rfl) kd_85 rfl sm_85 i3 ?_
              refine mp_aload_n (i := 0) (v := qr 1 (some 0)) (dz dl_Mod_served_1 8 85 (.aload_n 0) 1 rfl) rfl rfl trivial ?_
              refine mp_getA (dz dl_Mod_served_1 9 86 (.getfield 58) 3 rfl) lk_Mod_58 (q := 0) kd_85 rfl sm_85 ?_
              refine mp_iload (i := 4) (x := l4) (dz dl_Mod_served_1 10 89 (.iload 4) 2 rfl) rfl ?_
              obtain ⟨i7, h⟩ := h
              refine mp_iald (dz dl_Mod_served_1 11 91 (.iaload) 1 rfl) kd_85 rfl sm_85 i7 ?_
              refine mp_icmp_ge (tgt := 100) (dz dl_Mod_served_1 12 92 (.if_icmp .ge (8)) 3 rfl) (by decide) (fun hc => ?_) (fun hc => ?_)
              · replace h := h.1 hc
                refine mp_iload (i := 4) (x := l4) (dz dl_Mod_served_1 15 100 (.iload 4) 2 rfl) rfl ?_
                refine mp_istore (i := 4) (dz dl_Mod_served_1 16 102 (.istore 4) 2 rfl) [qr 1 (some 0), qi l1, qi l2, qi l3, qi l4, qi l5, qi (1 : Int32), none, none] (by decide) rfl ?_
                refine mp_iinc (i := 5) (v := l5 + 1) (dz dl_Mod_served_1 17 104 (.iinc 5 (1)) 3 rfl) rfl (congrArg (fun z => l5 + z) (by decide)) [qr 1 (some 0), qi l1, qi l2, qi l3, qi l4, qi (l5 + 1), qi (1 : Int32), none, none] (by decide) rfl ?_
                refine mp_goto (tgt := 9) (dz dl_Mod_served_1 18 107 (.goto (-98)) 3 rfl) (by decide) ?_
                exact mp_cut h ⟨Or.inr rfl, Or.inr rfl, Or.inr rfl, Or.inr rfl, Or.inr rfl, Or.inr rfl, Or.inl rfl, Or.inl rfl, Or.inl rfl, trivial⟩
              · replace h := h.2 hc
                refine mp_iload (i := 5) (x := l5) (dz dl_Mod_served_1 13 95 (.iload 5) 2 rfl) rfl ?_
                refine mp_goto (tgt := 102) (dz dl_Mod_served_1 14 97 (.goto (5)) 3 rfl) (by decide) ?_
                refine mp_istore (i := 4) (dz dl_Mod_served_1 16 102 (.istore 4) 2 rfl) [qr 1 (some 0), qi l1, qi l2, qi l3, qi l5, qi l5, qi (1 : Int32), none, none] (by decide) rfl ?_
                refine mp_iinc (i := 5) (v := l5 + 1) (dz dl_Mod_served_1 17 104 (.iinc 5 (1)) 3 rfl) rfl (congrArg (fun z => l5 + z) (by decide)) [qr 1 (some 0), qi l1, qi l2, qi l3, qi l5, qi (l5 + 1), qi (1 : Int32), none, none] (by decide) rfl ?_
                refine mp_goto (tgt := 9) (dz dl_Mod_served_1 18 107 (.goto (-98)) 3 rfl) (by decide) ?_
                exact mp_cut h ⟨Or.inr rfl, Or.inr rfl, Or.inr rfl, Or.inr rfl, Or.inr rfl, Or.inr rfl, Or.inl rfl, Or.inl rfl, Or.inl rfl, trivial⟩

theorem mb_Mod_stored_0 {u : MS} {l1 : Int32} {l2 : Int32} {Z : Int32 → MS → Prop} (h : mMT M_Mod_isNode [qi l1] u (mI fun r1 u1 => (r1 = 0 → (0 ≤ (-1 : Int32) → Z ((-1 : Int32) - ((6 : Int32) * l1)) u1) ∧ (¬ 0 ≤ (-1 : Int32) → Z (-1 : Int32) u1)) ∧ (¬ r1 = 0 → mMT M_Mod_isName [qr 1 (some 0), qi l2] u1 (mI fun r2 u2 => (r2 = 0 → (0 ≤ (-1 : Int32) → Z ((-1 : Int32) - ((6 : Int32) * l1)) u2) ∧ (¬ 0 ≤ (-1 : Int32) → Z (-1 : Int32) u2)) ∧ (¬ r2 = 0 → mMT M_Mod_inStore [qr 1 (some 0), qi l1, qi l2] u2 (mI fun r3 u3 => (0 ≤ r3 → Z (r3 - ((6 : Int32) * l1)) u3) ∧ (¬ 0 ≤ r3 → Z (-1 : Int32) u3))))))) : mWP M_Mod_stored 0 [qr 1 (some 0), qi l1, qi l2, none] [] u (mI Z) := by
  refine mp_iload_n (i := 1) (x := l1) (dz dl_Mod_stored_0 0 0 (.iload_n 1) 1 rfl) rfl rfl ?_
  refine mp_callS [qi l1] [] (dz dl_Mod_stored_0 1 1 (.invokestatic 161) 3 rfl) ok_Mod_isNode lm_Mod_161 ws_Mod_isNode ⟨Nat.le_of_ble_eq_true rfl, Nat.le_of_ble_eq_true rfl⟩ pn_Mod_isNode (Nat.le_of_ble_eq_true rfl) (Nat.le_of_ble_eq_true rfl) (Or.inl rfl) (mmono h ?_)
  rintro _ u1 ⟨r1, rfl, h⟩
  show mWP _ _ _ [qi r1] _ _
  refine mp_if_eq (tgt := 24) (dz dl_Mod_stored_0 2 4 (.ifCond .eq (20)) 3 rfl) (by decide) (fun hc => ?_) (fun hc => ?_)
  · replace h := h.1 hc
    refine mp_iconst (dz dl_Mod_stored_0 12 24 (.iconst (-1)) 1 rfl) (v := (-1 : Int32)) (by decide) ?_
    refine mp_istore_n (i := 3) (dz dl_Mod_stored_0 13 25 (.istore_n 3) 1 rfl) rfl [qr 1 (some 0), qi l1, qi l2, qi (-1 : Int32)] (by decide) rfl ?_
    refine mp_iload_n (i := 3) (x := (-1 : Int32)) (dz dl_Mod_stored_0 14 26 (.iload_n 3) 1 rfl) rfl rfl ?_
    refine mp_if_ge (tgt := 34) (dz dl_Mod_stored_0 15 27 (.ifCond .ge (7)) 3 rfl) (by decide) (fun hc => ?_) (fun hc => ?_)
    · replace h := h.1 hc
      refine mp_iload_n (i := 3) (x := (-1 : Int32)) (dz dl_Mod_stored_0 18 34 (.iload_n 3) 1 rfl) rfl rfl ?_
      refine mp_bipush (dz dl_Mod_stored_0 19 35 (.bipush (6)) 2 rfl) (v := (6 : Int32)) (by decide) ?_
      refine mp_iload_n (i := 1) (x := l1) (dz dl_Mod_stored_0 20 37 (.iload_n 1) 1 rfl) rfl rfl ?_
      refine mp_imul (dz dl_Mod_stored_0 21 38 (.imul) 1 rfl) ?_
      refine mp_isub (dz dl_Mod_stored_0 22 39 (.isub) 1 rfl) ?_
      exact mp_rt (qi _) (rt_I rfl (dz dl_Mod_stored_0 23 40 (.ireturn) 1 rfl)) ⟨_, rfl, h⟩
    · replace h := h.2 hc
      refine mp_iconst (dz dl_Mod_stored_0 16 30 (.iconst (-1)) 1 rfl) (v := (-1 : Int32)) (by decide) ?_
      refine mp_goto (tgt := 40) (dz dl_Mod_stored_0 17 31 (.goto (9)) 3 rfl) (by decide) ?_
      exact mp_rt (qi _) (rt_I rfl (dz dl_Mod_stored_0 23 40 (.ireturn) 1 rfl)) ⟨_, rfl, h⟩
  · replace h := h.2 hc
    refine mp_aload_n (i := 0) (v := qr 1 (some 0)) (dz dl_Mod_stored_0 3 7 (.aload_n 0) 1 rfl) rfl rfl trivial ?_
    refine mp_iload_n (i := 2) (x := l2) (dz dl_Mod_stored_0 4 8 (.iload_n 2) 1 rfl) rfl rfl ?_
    refine mp_callV [qi l2] [] (dz dl_Mod_stored_0 5 9 (.invokevirtual 222) 3 rfl) ok_Mod_isName lm_Mod_222 ws_Mod_isName wv_Mod_isName ⟨Nat.le_of_ble_eq_true rfl, Nat.le_of_ble_eq_true rfl⟩ pn_Mod_isName (Nat.le_of_ble_eq_true rfl) (Nat.le_of_ble_eq_true rfl) (Or.inl rfl) (mmono h ?_)
    rintro _ u2 ⟨r2, rfl, h⟩
    show mWP _ _ _ [qi r2] _ _
    refine mp_if_eq (tgt := 24) (dz dl_Mod_stored_0 6 12 (.ifCond .eq (12)) 3 rfl) (by decide) (fun hc => ?_) (fun hc => ?_)
    · replace h := h.1 hc
      refine mp_iconst (dz dl_Mod_stored_0 12 24 (.iconst (-1)) 1 rfl) (v := (-1 : Int32)) (by decide) ?_
      refine mp_istore_n (i := 3) (dz dl_Mod_stored_0 13 25 (.istore_n 3) 1 rfl) rfl [qr 1 (some 0), qi l1, qi l2, qi (-1 : Int32)] (by decide) rfl ?_
      refine mp_iload_n (i := 3) (x := (-1 : Int32)) (dz dl_Mod_stored_0 14 26 (.iload_n 3) 1 rfl) rfl rfl ?_
      refine mp_if_ge (tgt := 34) (dz dl_Mod_stored_0 15 27 (.ifCond .ge (7)) 3 rfl) (by decide) (fun hc => ?_) (fun hc => ?_)
      · replace h := h.1 hc
        refine mp_iload_n (i := 3) (x := (-1 : Int32)) (dz dl_Mod_stored_0 18 34 (.iload_n 3) 1 rfl) rfl rfl ?_
        refine mp_bipush (dz dl_Mod_stored_0 19 35 (.bipush (6)) 2 rfl) (v := (6 : Int32)) (by decide) ?_
        refine mp_iload_n (i := 1) (x := l1) (dz dl_Mod_stored_0 20 37 (.iload_n 1) 1 rfl) rfl rfl ?_
        refine mp_imul (dz dl_Mod_stored_0 21 38 (.imul) 1 rfl) ?_
        refine mp_isub (dz dl_Mod_stored_0 22 39 (.isub) 1 rfl) ?_
        exact mp_rt (qi _) (rt_I rfl (dz dl_Mod_stored_0 23 40 (.ireturn) 1 rfl)) ⟨_, rfl, h⟩
      · replace h := h.2 hc
        refine mp_iconst (dz dl_Mod_stored_0 16 30 (.iconst (-1)) 1 rfl) (v := (-1 : Int32)) (by decide) ?_
        refine mp_goto (tgt := 40) (dz dl_Mod_stored_0 17 31 (.goto (9)) 3 rfl) (by decide) ?_
        exact mp_rt (qi _) (rt_I rfl (dz dl_Mod_stored_0 23 40 (.ireturn) 1 rfl)) ⟨_, rfl, h⟩
    · replace h := h.2 hc
      refine mp_aload_n (i := 0) (v := qr 1 (some 0)) (dz dl_Mod_stored_0 7 15 (.aload_n 0) 1 rfl) rfl rfl trivial ?_
      refine mp_iload_n (i := 1) (x := l1) (dz dl_Mod_stored_0 8 16 (.iload_n 1) 1 rfl) rfl rfl ?_
      refine mp_iload_n (i := 2) (x := l2) (dz dl_Mod_stored_0 9 17 (.iload_n 2) 1 rfl) rfl rfl ?_
      refine mp_callV [qi l1, qi l2] [] (dz dl_Mod_stored_0 10 18 (.invokevirtual 243) 3 rfl) ok_Mod_inStore lm_Mod_243 ws_Mod_inStore wv_Mod_inStore ⟨Nat.le_of_ble_eq_true rfl, Nat.le_of_ble_eq_true rfl⟩ pn_Mod_inStore (Nat.le_of_ble_eq_true rfl) (Nat.le_of_ble_eq_true rfl) (Or.inl rfl) (mmono h ?_)
      rintro _ u3 ⟨r3, rfl, h⟩
      show mWP _ _ _ [qi r3] _ _
      refine mp_goto (tgt := 25) (dz dl_Mod_stored_0 11 21 (.goto (4)) 3 rfl) (by decide) ?_
      refine mp_istore_n (i := 3) (dz dl_Mod_stored_0 13 25 (.istore_n 3) 1 rfl) rfl [qr 1 (some 0), qi l1, qi l2, qi r3] (by decide) rfl ?_
      refine mp_iload_n (i := 3) (x := r3) (dz dl_Mod_stored_0 14 26 (.iload_n 3) 1 rfl) rfl rfl ?_
      refine mp_if_ge (tgt := 34) (dz dl_Mod_stored_0 15 27 (.ifCond .ge (7)) 3 rfl) (by decide) (fun hc => ?_) (fun hc => ?_)
      · replace h := h.1 hc
        refine mp_iload_n (i := 3) (x := r3) (dz dl_Mod_stored_0 18 34 (.iload_n 3) 1 rfl) rfl rfl ?_
        refine mp_bipush (dz dl_Mod_stored_0 19 35 (.bipush (6)) 2 rfl) (v := (6 : Int32)) (by decide) ?_
        refine mp_iload_n (i := 1) (x := l1) (dz dl_Mod_stored_0 20 37 (.iload_n 1) 1 rfl) rfl rfl ?_
        refine mp_imul (dz dl_Mod_stored_0 21 38 (.imul) 1 rfl) ?_
        refine mp_isub (dz dl_Mod_stored_0 22 39 (.isub) 1 rfl) ?_
        exact mp_rt (qi _) (rt_I rfl (dz dl_Mod_stored_0 23 40 (.ireturn) 1 rfl)) ⟨_, rfl, h⟩
      · replace h := h.2 hc
        refine mp_iconst (dz dl_Mod_stored_0 16 30 (.iconst (-1)) 1 rfl) (v := (-1 : Int32)) (by decide) ?_
        refine mp_goto (tgt := 40) (dz dl_Mod_stored_0 17 31 (.goto (9)) 3 rfl) (by decide) ?_
        exact mp_rt (qi _) (rt_I rfl (dz dl_Mod_stored_0 23 40 (.ireturn) 1 rfl)) ⟨_, rfl, h⟩
theorem mt_Mod_stored {u : MS} {l1 : Int32} {l2 : Int32} {Z : Int32 → MS → Prop} (h : mMT M_Mod_isNode [qi l1] u (mI fun r1 u1 => (r1 = 0 → (0 ≤ (-1 : Int32) → Z ((-1 : Int32) - ((6 : Int32) * l1)) u1) ∧ (¬ 0 ≤ (-1 : Int32) → Z (-1 : Int32) u1)) ∧ (¬ r1 = 0 → mMT M_Mod_isName [qr 1 (some 0), qi l2] u1 (mI fun r2 u2 => (r2 = 0 → (0 ≤ (-1 : Int32) → Z ((-1 : Int32) - ((6 : Int32) * l1)) u2) ∧ (¬ 0 ≤ (-1 : Int32) → Z (-1 : Int32) u2)) ∧ (¬ r2 = 0 → mMT M_Mod_inStore [qr 1 (some 0), qi l1, qi l2] u2 (mI fun r3 u3 => (0 ≤ r3 → Z (r3 - ((6 : Int32) * l1)) u3) ∧ (¬ 0 ≤ r3 → Z (-1 : Int32) u3))))))) : mMT M_Mod_stored [qr 1 (some 0), qi l1, qi l2] u (mI Z) := mb_Mod_stored_0 h

theorem mb_Mod_publish_0 {u : MS} {l1 : Int32} {l2 : Int32} {l3 : Int32} {l4 : Int32} {Z : Int32 → MS → Prop} (h : mMT M_Mod_isNode [qi l1] u (mI fun r1 u1 => (r1 = 0 → Z (0 : Int32) u1) ∧ (¬ r1 = 0 → mMT M_Mod_isName [qr 1 (some 0), qi l2] u1 (mI fun r2 u2 => (r2 = 0 → Z (0 : Int32) u2) ∧ (¬ r2 = 0 → (l4 < 0 → Z (0 : Int32) u2) ∧ (¬ l4 < 0 → ((20 : Int32) < l4 → Z (0 : Int32) u2) ∧ (¬ (20 : Int32) < l4 → vp_in l2 48 ∧ ((u2 89 l2.toNatClampNeg) ≤ 0 → ∀ u3, u3 = mu u2 89 l2.toNatClampNeg (l1 + (1 : Int32)) → ∀ u4, u4 = mu u3 90 l2.toNatClampNeg l3 → ∀ u5, u5 = mu u4 91 l2.toNatClampNeg l4 → Z (1 : Int32) u5) ∧ (¬ (u2 89 l2.toNatClampNeg) ≤ 0 → Z (0 : Int32) u2)))))))) : mWP M_Mod_publish 0 [qr 1 (some 0), qi l1, qi l2, qi l3, qi l4] [] u (mI Z) := by
  refine mp_iload_n (i := 1) (x := l1) (dz dl_Mod_publish_0 0 0 (.iload_n 1) 1 rfl) rfl rfl ?_
  refine mp_callS [qi l1] [] (dz dl_Mod_publish_0 1 1 (.invokestatic 161) 3 rfl) ok_Mod_isNode lm_Mod_161 ws_Mod_isNode ⟨Nat.le_of_ble_eq_true rfl, Nat.le_of_ble_eq_true rfl⟩ pn_Mod_isNode (Nat.le_of_ble_eq_true rfl) (Nat.le_of_ble_eq_true rfl) (Or.inl rfl) (mmono h ?_)
  rintro _ u1 ⟨r1, rfl, h⟩
  show mWP _ _ _ [qi r1] _ _
  refine mp_if_eq (tgt := 36) (dz dl_Mod_publish_0 2 4 (.ifCond .eq (32)) 3 rfl) (by decide) (fun hc => ?_) (fun hc => ?_)
  · replace h := h.1 hc
    refine mp_iconst (dz dl_Mod_publish_0 17 36 (.iconst (0)) 1 rfl) (v := (0 : Int32)) (by decide) ?_
    exact mp_rt (qi _) (rt_Z rfl (Or.inl rfl) (dz dl_Mod_publish_0 18 37 (.ireturn) 1 rfl)) ⟨_, rfl, h⟩
  · replace h := h.2 hc
    refine mp_aload_n (i := 0) (v := qr 1 (some 0)) (dz dl_Mod_publish_0 3 7 (.aload_n 0) 1 rfl) rfl rfl trivial ?_
    refine mp_iload_n (i := 2) (x := l2) (dz dl_Mod_publish_0 4 8 (.iload_n 2) 1 rfl) rfl rfl ?_
    refine mp_callV [qi l2] [] (dz dl_Mod_publish_0 5 9 (.invokevirtual 222) 3 rfl) ok_Mod_isName lm_Mod_222 ws_Mod_isName wv_Mod_isName ⟨Nat.le_of_ble_eq_true rfl, Nat.le_of_ble_eq_true rfl⟩ pn_Mod_isName (Nat.le_of_ble_eq_true rfl) (Nat.le_of_ble_eq_true rfl) (Or.inl rfl) (mmono h ?_)
    rintro _ u2 ⟨r2, rfl, h⟩
    show mWP _ _ _ [qi r2] _ _
    refine mp_if_eq (tgt := 36) (dz dl_Mod_publish_0 6 12 (.ifCond .eq (24)) 3 rfl) (by decide) (fun hc => ?_) (fun hc => ?_)
    · replace h := h.1 hc
      refine mp_iconst (dz dl_Mod_publish_0 17 36 (.iconst (0)) 1 rfl) (v := (0 : Int32)) (by decide) ?_
      exact mp_rt (qi _) (rt_Z rfl (Or.inl rfl) (dz dl_Mod_publish_0 18 37 (.ireturn) 1 rfl)) ⟨_, rfl, h⟩
    · replace h := h.2 hc
      refine mp_iload (i := 4) (x := l4) (dz dl_Mod_publish_0 7 15 (.iload 4) 2 rfl) rfl ?_
      refine mp_if_lt (tgt := 36) (dz dl_Mod_publish_0 8 17 (.ifCond .lt (19)) 3 rfl) (by decide) (fun hc => ?_) (fun hc => ?_)
      · replace h := h.1 hc
        refine mp_iconst (dz dl_Mod_publish_0 17 36 (.iconst (0)) 1 rfl) (v := (0 : Int32)) (by decide) ?_
        exact mp_rt (qi _) (rt_Z rfl (Or.inl rfl) (dz dl_Mod_publish_0 18 37 (.ireturn) 1 rfl)) ⟨_, rfl, h⟩
      · replace h := h.2 hc
        refine mp_iload (i := 4) (x := l4) (dz dl_Mod_publish_0 9 20 (.iload 4) 2 rfl) rfl ?_
        refine mp_bipush (dz dl_Mod_publish_0 10 22 (.bipush (20)) 2 rfl) (v := (20 : Int32)) (by decide) ?_
        refine mp_icmp_gt (tgt := 36) (dz dl_Mod_publish_0 11 24 (.if_icmp .gt (12)) 3 rfl) (by decide) (fun hc => ?_) (fun hc => ?_)
        · replace h := h.1 hc
          refine mp_iconst (dz dl_Mod_publish_0 17 36 (.iconst (0)) 1 rfl) (v := (0 : Int32)) (by decide) ?_
          exact mp_rt (qi _) (rt_Z rfl (Or.inl rfl) (dz dl_Mod_publish_0 18 37 (.ireturn) 1 rfl)) ⟨_, rfl, h⟩
        · replace h := h.2 hc
          refine mp_aload_n (i := 0) (v := qr 1 (some 0)) (dz dl_Mod_publish_0 12 27 (.aload_n 0) 1 rfl) rfl rfl trivial ?_
          refine mp_getA (dz dl_Mod_publish_0 13 28 (.getfield 70) 3 rfl) lk_Mod_70 (q := 0) kd_89 rfl sm_89 ?_
          refine mp_iload_n (i := 2) (x := l2) (dz dl_Mod_publish_0 14 31 (.iload_n 2) 1 rfl) rfl rfl ?_
          obtain ⟨i1, h⟩ := h
          refine mp_iald (dz dl_Mod_publish_0 15 32 (.iaload) 1 rfl) kd_89 rfl sm_89 i1 ?_
          refine mp_if_le (tgt := 38) (dz dl_Mod_publish_0 16 33 (.ifCond .le (5)) 3 rfl) (by decide) (fun hc => ?_) (fun hc => ?_)
          · replace h := h.1 hc
            refine mp_aload_n (i := 0) (v := qr 1 (some 0)) (dz dl_Mod_publish_0 19 38 (.aload_n 0) 1 rfl) rfl rfl trivial ?_
            refine mp_getA (dz dl_Mod_publish_0 20 39 (.getfield 70) 3 rfl) lk_Mod_70 (q := 0) kd_89 rfl sm_89 ?_
            refine mp_iload_n (i := 2) (x := l2) (dz dl_Mod_publish_0 21 42 (.iload_n 2) 1 rfl) rfl rfl ?_
            refine mp_iload_n (i := 1) (x := l1) (dz dl_Mod_publish_0 22 43 (.iload_n 1) 1 rfl) rfl rfl ?_
            refine mp_iconst (dz dl_Mod_publish_0 23 44 (.iconst (1)) 1 rfl) (v := (1 : Int32)) (by decide) ?_
            refine mp_iadd (dz dl_Mod_publish_0 24 45 (.iadd) 1 rfl) ?_
            have h := h _ rfl
            refine mp_iast (dz dl_Mod_publish_0 25 46 (.iastore) 1 rfl) kd_89 rfl sm_89 i1 rfl ?_
            refine mp_aload_n (i := 0) (v := qr 1 (some 0)) (dz dl_Mod_publish_0 26 47 (.aload_n 0) 1 rfl) rfl rfl trivial ?_
            refine mp_getA (dz dl_Mod_publish_0 27 48 (.getfield 73) 3 rfl) lk_Mod_73 (q := 0) kd_90 rfl sm_90 ?_
            refine mp_iload_n (i := 2) (x := l2) (dz dl_Mod_publish_0 28 51 (.iload_n 2) 1 rfl) rfl rfl ?_
            refine mp_iload_n (i := 3) (x := l3) (dz dl_Mod_publish_0 29 52 (.iload_n 3) 1 rfl) rfl rfl ?_
            have h := h _ rfl
            refine mp_iast (dz dl_Mod_publish_0 30 53 (.iastore) 1 rfl) kd_90 rfl sm_90 i1 rfl ?_
            refine mp_aload_n (i := 0) (v := qr 1 (some 0)) (dz dl_Mod_publish_0 31 54 (.aload_n 0) 1 rfl) rfl rfl trivial ?_
            refine mp_getA (dz dl_Mod_publish_0 32 55 (.getfield 76) 3 rfl) lk_Mod_76 (q := 0) kd_91 rfl sm_91 ?_
            refine mp_iload_n (i := 2) (x := l2) (dz dl_Mod_publish_0 33 58 (.iload_n 2) 1 rfl) rfl rfl ?_
            refine mp_iload (i := 4) (x := l4) (dz dl_Mod_publish_0 34 59 (.iload 4) 2 rfl) rfl ?_
            have h := h _ rfl
            refine mp_iast (dz dl_Mod_publish_0 35 61 (.iastore) 1 rfl) kd_91 rfl sm_91 i1 rfl ?_
            refine mp_iconst (dz dl_Mod_publish_0 36 62 (.iconst (1)) 1 rfl) (v := (1 : Int32)) (by decide) ?_
            exact mp_rt (qi _) (rt_Z rfl (Or.inr rfl) (dz dl_Mod_publish_0 37 63 (.ireturn) 1 rfl)) ⟨_, rfl, h⟩
          · replace h := h.2 hc
            refine mp_iconst (dz dl_Mod_publish_0 17 36 (.iconst (0)) 1 rfl) (v := (0 : Int32)) (by decide) ?_
            exact mp_rt (qi _) (rt_Z rfl (Or.inl rfl) (dz dl_Mod_publish_0 18 37 (.ireturn) 1 rfl)) ⟨_, rfl, h⟩
theorem mt_Mod_publish {u : MS} {l1 : Int32} {l2 : Int32} {l3 : Int32} {l4 : Int32} {Z : Int32 → MS → Prop} (h : mMT M_Mod_isNode [qi l1] u (mI fun r1 u1 => (r1 = 0 → Z (0 : Int32) u1) ∧ (¬ r1 = 0 → mMT M_Mod_isName [qr 1 (some 0), qi l2] u1 (mI fun r2 u2 => (r2 = 0 → Z (0 : Int32) u2) ∧ (¬ r2 = 0 → (l4 < 0 → Z (0 : Int32) u2) ∧ (¬ l4 < 0 → ((20 : Int32) < l4 → Z (0 : Int32) u2) ∧ (¬ (20 : Int32) < l4 → vp_in l2 48 ∧ ((u2 89 l2.toNatClampNeg) ≤ 0 → ∀ u3, u3 = mu u2 89 l2.toNatClampNeg (l1 + (1 : Int32)) → ∀ u4, u4 = mu u3 90 l2.toNatClampNeg l3 → ∀ u5, u5 = mu u4 91 l2.toNatClampNeg l4 → Z (1 : Int32) u5) ∧ (¬ (u2 89 l2.toNatClampNeg) ≤ 0 → Z (0 : Int32) u2)))))))) : mMT M_Mod_publish [qr 1 (some 0), qi l1, qi l2, qi l3, qi l4] u (mI Z) := mb_Mod_publish_0 h

theorem mb_Mod_settle_0 {u : MS} {l1 : Int32} {l2 : Int32} {l3 : Int32} {l4 : Int32} {l5 : Int32} {l6 : Int32} {Z : MS → Prop} (h : mWP M_Mod_settle 3 [qr 1 (some 0), qi l1, qi l2, qi l3, qi l4, qi l5, qi l6, qi (0 : Int32)] [] u (mV Z)) : mWP M_Mod_settle 0 [qr 1 (some 0), qi l1, qi l2, qi l3, qi l4, qi l5, qi l6, none] [] u (mV Z) := by
  refine mp_iconst (dz dl_Mod_settle_0 0 0 (.iconst (0)) 1 rfl) (v := (0 : Int32)) (by decide) ?_
  refine mp_istore (i := 7) (dz dl_Mod_settle_0 1 1 (.istore 7) 2 rfl) [qr 1 (some 0), qi l1, qi l2, qi l3, qi l4, qi l5, qi l6, qi (0 : Int32)] (by decide) rfl ?_
  exact mp_cut h ⟨Or.inr rfl, Or.inr rfl, Or.inr rfl, Or.inr rfl, Or.inr rfl, Or.inr rfl, Or.inr rfl, Or.inr rfl, trivial⟩
theorem mt_Mod_settle {u : MS} {l1 : Int32} {l2 : Int32} {l3 : Int32} {l4 : Int32} {l5 : Int32} {l6 : Int32} {Z : MS → Prop} (h : mWP M_Mod_settle 3 [qr 1 (some 0), qi l1, qi l2, qi l3, qi l4, qi l5, qi l6, qi (0 : Int32)] [] u (mV Z)) : mMT M_Mod_settle [qr 1 (some 0), qi l1, qi l2, qi l3, qi l4, qi l5, qi l6] u (mV Z) := mb_Mod_settle_0 h

theorem mb_Mod_settle_3 {u : MS} {l1 : Int32} {l2 : Int32} {l3 : Int32} {l4 : Int32} {l5 : Int32} {l6 : Int32} {l7 : Int32} {Z : MS → Prop} (h : ((u 101 0) ≤ l7 → Z u) ∧ (¬ (u 101 0) ≤ l7 → vp_in l7 120 ∧ (¬ (u 102 l7.toNatClampNeg) = l1 → mWP M_Mod_settle 3 [qr 1 (some 0), qi l1, qi l2, qi l3, qi l4, qi l5, qi l6, qi (l7 + 1)] [] u (mV Z)) ∧ ((u 102 l7.toNatClampNeg) = l1 → (¬ (u 103 l7.toNatClampNeg) = l2 → mWP M_Mod_settle 3 [qr 1 (some 0), qi l1, qi l2, qi l3, qi l4, qi l5, qi l6, qi (l7 + 1)] [] u (mV Z)) ∧ ((u 103 l7.toNatClampNeg) = l2 → (¬ (u 104 l7.toNatClampNeg) = l3 → mWP M_Mod_settle 3 [qr 1 (some 0), qi l1, qi l2, qi l3, qi l4, qi l5, qi l6, qi (l7 + 1)] [] u (mV Z)) ∧ ((u 104 l7.toNatClampNeg) = l3 → (¬ (u 105 l7.toNatClampNeg) = 0 → mWP M_Mod_settle 3 [qr 1 (some 0), qi l1, qi l2, qi l3, qi l4, qi l5, qi l6, qi (l7 + 1)] [] u (mV Z)) ∧ ((u 105 l7.toNatClampNeg) = 0 → ∀ u1, u1 = mu u 105 l7.toNatClampNeg l4 → ∀ u2, u2 = mu u1 107 l7.toNatClampNeg l5 → ∀ u3, u3 = mu u2 108 l7.toNatClampNeg l6 → mWP M_Mod_settle 3 [qr 1 (some 0), qi l1, qi l2, qi l3, qi l4, qi l5, qi l6, qi (l7 + 1)] [] u3 (mV Z))))))) : mWP M_Mod_settle 3 [qr 1 (some 0), qi l1, qi l2, qi l3, qi l4, qi l5, qi l6, qi l7] [] u (mV Z) := by
  refine mp_iload (i := 7) (x := l7) (dz dl_Mod_settle_0 2 3 (.iload 7) 2 rfl) rfl ?_
  refine mp_aload_n (i := 0) (v := qr 1 (some 0)) (dz dl_Mod_settle_0 3 5 (.aload_n 0) 1 rfl) rfl rfl trivial ?_
  refine mp_getI (dz dl_Mod_settle_0 4 6 (.getfield 260) 3 rfl) lk_Mod_260 kd_101 rfl ?_
  refine mp_icmp_ge (tgt := 88) (dz dl_Mod_settle_0 5 9 (.if_icmp .ge (79)) 3 rfl) (by decide) (fun hc => ?_) (fun hc => ?_)
  · replace h := h.1 hc
    exact mp_rt none (rt_V rfl (dz dl_Mod_settle_1 6 88 (.return_) 1 rfl)) ⟨rfl, h⟩
  · replace h := h.2 hc
    refine mp_aload_n (i := 0) (v := qr 1 (some 0)) (dz dl_Mod_settle_0 6 12 (.aload_n 0) 1 rfl) rfl rfl trivial ?_
    refine mp_getA (dz dl_Mod_settle_0 7 13 (.getfield 106) 3 rfl) lk_Mod_106 (q := 0) kd_102 rfl sm_102 ?_
    refine mp_iload (i := 7) (x := l7) (dz dl_Mod_settle_0 8 16 (.iload 7) 2 rfl) rfl ?_
    obtain ⟨i1, h⟩ := h
    refine mp_iald (dz dl_Mod_settle_0 9 18 (.iaload) 1 rfl) kd_102 rfl sm_102 i1 ?_
    refine mp_iload_n (i := 1) (x := l1) (dz dl_Mod_settle_0 10 19 (.iload_n 1) 1 rfl) rfl rfl ?_
    refine mp_icmp_ne (tgt := 82) (dz dl_Mod_settle_0 11 20 (.if_icmp .ne (62)) 3 rfl) (by decide) (fun hc => ?_) (fun hc => ?_)
    · replace h := h.1 hc
      refine mp_iinc (i := 7) (v := l7 + 1) (dz dl_Mod_settle_1 4 82 (.iinc 7 (1)) 3 rfl) rfl (congrArg (fun z => l7 + z) (by decide)) [qr 1 (some 0), qi l1, qi l2, qi l3, qi l4, qi l5, qi l6, qi (l7 + 1)] (by decide) rfl ?_
      refine mp_goto (tgt := 3) (dz dl_Mod_settle_1 5 85 (.goto (-82)) 3 rfl) (by decide) ?_
      exact mp_cut h ⟨Or.inr rfl, Or.inr rfl, Or.inr rfl, Or.inr rfl, Or.inr rfl, Or.inr rfl, Or.inr rfl, Or.inr rfl, trivial⟩
    · replace h := h.2 hc
      refine mp_aload_n (i := 0) (v := qr 1 (some 0)) (dz dl_Mod_settle_0 12 23 (.aload_n 0) 1 rfl) rfl rfl trivial ?_
      refine mp_getA (dz dl_Mod_settle_0 13 24 (.getfield 109) 3 rfl) lk_Mod_109 (q := 0) kd_103 rfl sm_103 ?_
      refine mp_iload (i := 7) (x := l7) (dz dl_Mod_settle_0 14 27 (.iload 7) 2 rfl) rfl ?_
      refine mp_iald (dz dl_Mod_settle_0 15 29 (.iaload) 1 rfl) kd_103 rfl sm_103 i1 ?_
      refine mp_iload_n (i := 2) (x := l2) (dz dl_Mod_settle_0 16 30 (.iload_n 2) 1 rfl) rfl rfl ?_
      refine mp_icmp_ne (tgt := 82) (dz dl_Mod_settle_0 17 31 (.if_icmp .ne (51)) 3 rfl) (by decide) (fun hc => ?_) (fun hc => ?_)
      · replace h := h.1 hc
        refine mp_iinc (i := 7) (v := l7 + 1) (dz dl_Mod_settle_1 4 82 (.iinc 7 (1)) 3 rfl) rfl (congrArg (fun z => l7 + z) (by decide)) [qr 1 (some 0), qi l1, qi l2, qi l3, qi l4, qi l5, qi l6, qi (l7 + 1)] (by decide) rfl ?_
        refine mp_goto (tgt := 3) (dz dl_Mod_settle_1 5 85 (.goto (-82)) 3 rfl) (by decide) ?_
        exact mp_cut h ⟨Or.inr rfl, Or.inr rfl, Or.inr rfl, Or.inr rfl, Or.inr rfl, Or.inr rfl, Or.inr rfl, Or.inr rfl, trivial⟩
      · replace h := h.2 hc
        refine mp_aload_n (i := 0) (v := qr 1 (some 0)) (dz dl_Mod_settle_0 18 34 (.aload_n 0) 1 rfl) rfl rfl trivial ?_
        refine mp_getA (dz dl_Mod_settle_0 19 35 (.getfield 112) 3 rfl) lk_Mod_112 (q := 0) kd_104 rfl sm_104 ?_
        refine mp_iload (i := 7) (x := l7) (dz dl_Mod_settle_0 20 38 (.iload 7) 2 rfl) rfl ?_
        refine mp_iald (dz dl_Mod_settle_0 21 40 (.iaload) 1 rfl) kd_104 rfl sm_104 i1 ?_
        refine mp_iload_n (i := 3) (x := l3) (dz dl_Mod_settle_0 22 41 (.iload_n 3) 1 rfl) rfl rfl ?_
        refine mp_icmp_ne (tgt := 82) (dz dl_Mod_settle_0 23 42 (.if_icmp .ne (40)) 3 rfl) (by decide) (fun hc => ?_) (fun hc => ?_)
        · replace h := h.1 hc
          refine mp_iinc (i := 7) (v := l7 + 1) (dz dl_Mod_settle_1 4 82 (.iinc 7 (1)) 3 rfl) rfl (congrArg (fun z => l7 + z) (by decide)) [qr 1 (some 0), qi l1, qi l2, qi l3, qi l4, qi l5, qi l6, qi (l7 + 1)] (by decide) rfl ?_
          refine mp_goto (tgt := 3) (dz dl_Mod_settle_1 5 85 (.goto (-82)) 3 rfl) (by decide) ?_
          exact mp_cut h ⟨Or.inr rfl, Or.inr rfl, Or.inr rfl, Or.inr rfl, Or.inr rfl, Or.inr rfl, Or.inr rfl, Or.inr rfl, trivial⟩
        · replace h := h.2 hc
          refine mp_aload_n (i := 0) (v := qr 1 (some 0)) (dz dl_Mod_settle_0 24 45 (.aload_n 0) 1 rfl) rfl rfl trivial ?_
          refine mp_getA (dz dl_Mod_settle_0 25 46 (.getfield 115) 3 rfl) lk_Mod_115 (q := 0) kd_105 rfl sm_105 ?_
          refine mp_iload (i := 7) (x := l7) (dz dl_Mod_settle_0 26 49 (.iload 7) 2 rfl) rfl ?_
          refine mp_iald (dz dl_Mod_settle_0 27 51 (.iaload) 1 rfl) kd_105 rfl sm_105 i1 ?_
          refine mp_if_ne (tgt := 82) (dz dl_Mod_settle_0 28 52 (.ifCond .ne (30)) 3 rfl) (by decide) (fun hc => ?_) (fun hc => ?_)
          · replace h := h.1 hc
            refine mp_iinc (i := 7) (v := l7 + 1) (dz dl_Mod_settle_1 4 82 (.iinc 7 (1)) 3 rfl) rfl (congrArg (fun z => l7 + z) (by decide)) [qr 1 (some 0), qi l1, qi l2, qi l3, qi l4, qi l5, qi l6, qi (l7 + 1)] (by decide) rfl ?_
            refine mp_goto (tgt := 3) (dz dl_Mod_settle_1 5 85 (.goto (-82)) 3 rfl) (by decide) ?_
            exact mp_cut h ⟨Or.inr rfl, Or.inr rfl, Or.inr rfl, Or.inr rfl, Or.inr rfl, Or.inr rfl, Or.inr rfl, Or.inr rfl, trivial⟩
          · replace h := h.2 hc
            refine mp_aload_n (i := 0) (v := qr 1 (some 0)) (dz dl_Mod_settle_0 29 55 (.aload_n 0) 1 rfl) rfl rfl trivial ?_
            refine mp_getA (dz dl_Mod_settle_0 30 56 (.getfield 115) 3 rfl) lk_Mod_115 (q := 0) kd_105 rfl sm_105 ?_
            refine mp_iload (i := 7) (x := l7) (dz dl_Mod_settle_0 31 59 (.iload 7) 2 rfl) rfl ?_
            refine mp_iload (i := 4) (x := l4) (dz dl_Mod_settle_0 32 61 (.iload 4) 2 rfl) rfl ?_
            have h := h _ rfl
            refine mp_iast (dz dl_Mod_settle_0 33 63 (.iastore) 1 rfl) kd_105 rfl sm_105 i1 rfl ?_
            refine mp_aload_n (i := 0) (v := qr 1 (some 0)) (dz dl_Mod_settle_0 34 64 (.aload_n 0) 1 rfl) rfl rfl trivial ?_
            refine mp_getA (dz dl_Mod_settle_0 35 65 (.getfield 121) 3 rfl) lk_Mod_121 (q := 0) kd_107 rfl sm_107 ?_
            refine mp_iload (i := 7) (x := l7) (dz dl_Mod_settle_0 36 68 (.iload 7) 2 rfl) rfl ?_
            refine mp_iload (i := 5) (x := l5) (dz dl_Mod_settle_0 37 70 (.iload 5) 2 rfl) rfl ?_
            have h := h _ rfl
            refine mp_iast (dz dl_Mod_settle_0 38 72 (.iastore) 1 rfl) kd_107 rfl sm_107 i1 rfl ?_
            refine mp_aload_n (i := 0) (v := qr 1 (some 0)) (dz dl_Mod_settle_0 39 73 (.aload_n 0) 1 rfl) rfl rfl trivial ?_
            refine mp_getA (dz dl_Mod_settle_1 0 74 (.getfield 124) 3 rfl) lk_Mod_124 (q := 0) kd_108 rfl sm_108 ?_
            refine mp_iload (i := 7) (x := l7) (dz dl_Mod_settle_1 1 77 (.iload 7) 2 rfl) rfl ?_
            refine mp_iload (i := 6) (x := l6) (dz dl_Mod_settle_1 2 79 (.iload 6) 2 rfl) rfl ?_
            have h := h _ rfl
            refine mp_iast (dz dl_Mod_settle_1 3 81 (.iastore) 1 rfl) kd_108 rfl sm_108 i1 rfl ?_
            refine mp_iinc (i := 7) (v := l7 + 1) (dz dl_Mod_settle_1 4 82 (.iinc 7 (1)) 3 rfl) rfl (congrArg (fun z => l7 + z) (by decide)) [qr 1 (some 0), qi l1, qi l2, qi l3, qi l4, qi l5, qi l6, qi (l7 + 1)] (by decide) rfl ?_
            refine mp_goto (tgt := 3) (dz dl_Mod_settle_1 5 85 (.goto (-82)) 3 rfl) (by decide) ?_
            exact mp_cut h ⟨Or.inr rfl, Or.inr rfl, Or.inr rfl, Or.inr rfl, Or.inr rfl, Or.inr rfl, Or.inr rfl, Or.inr rfl, trivial⟩

theorem mb_Mod_nackOut_0 {u : MS} {l1 : Int32} {l2 : Int32} {l3 : Int32} {l4 : Int32} {l5 : Int32} {Z : MS → Prop} (h : (¬ l2 = (4 : Int32) → mMT M_Mod_put [qr 1 (some 0), qi (((4 : Int32) * l1) + l2), qi (2 : Int32), qi l3, qi l4, qi l5, qi (0 : Int32)] u (mV fun u1 => Z u1)) ∧ (l2 = (4 : Int32) → mMT M_Mod_settle [qr 1 (some 0), qi l1, qi l3, qi l4, qi (2 : Int32), qi (-1 : Int32), qi (0 : Int32)] u (mV fun u2 => Z u2))) : mWP M_Mod_nackOut 0 [qr 1 (some 0), qi l1, qi l2, qi l3, qi l4, qi l5] [] u (mV Z) := by
  refine mp_iload_n (i := 2) (x := l2) (dz dl_Mod_nackOut_0 0 0 (.iload_n 2) 1 rfl) rfl rfl ?_
  refine mp_iconst (dz dl_Mod_nackOut_0 1 1 (.iconst (4)) 1 rfl) (v := (4 : Int32)) (by decide) ?_
  refine mp_icmp_ne (tgt := 19) (dz dl_Mod_nackOut_0 2 2 (.if_icmp .ne (17)) 3 rfl) (by decide) (fun hc => ?_) (fun hc => ?_)
  · replace h := h.1 hc
    refine mp_aload_n (i := 0) (v := qr 1 (some 0)) (dz dl_Mod_nackOut_0 12 19 (.aload_n 0) 1 rfl) rfl rfl trivial ?_
    refine mp_iconst (dz dl_Mod_nackOut_0 13 20 (.iconst (4)) 1 rfl) (v := (4 : Int32)) (by decide) ?_
    refine mp_iload_n (i := 1) (x := l1) (dz dl_Mod_nackOut_0 14 21 (.iload_n 1) 1 rfl) rfl rfl ?_
    refine mp_imul (dz dl_Mod_nackOut_0 15 22 (.imul) 1 rfl) ?_
    refine mp_iload_n (i := 2) (x := l2) (dz dl_Mod_nackOut_0 16 23 (.iload_n 2) 1 rfl) rfl rfl ?_
    refine mp_iadd (dz dl_Mod_nackOut_0 17 24 (.iadd) 1 rfl) ?_
    refine mp_iconst (dz dl_Mod_nackOut_0 18 25 (.iconst (2)) 1 rfl) (v := (2 : Int32)) (by decide) ?_
    refine mp_iload_n (i := 3) (x := l3) (dz dl_Mod_nackOut_0 19 26 (.iload_n 3) 1 rfl) rfl rfl ?_
    refine mp_iload (i := 4) (x := l4) (dz dl_Mod_nackOut_0 20 27 (.iload 4) 2 rfl) rfl ?_
    refine mp_iload (i := 5) (x := l5) (dz dl_Mod_nackOut_0 21 29 (.iload 5) 2 rfl) rfl ?_
    refine mp_iconst (dz dl_Mod_nackOut_0 22 31 (.iconst (0)) 1 rfl) (v := (0 : Int32)) (by decide) ?_
    refine mp_callV [qi (((4 : Int32) * l1) + l2), qi (2 : Int32), qi l3, qi l4, qi l5, qi (0 : Int32)] [] (dz dl_Mod_nackOut_0 23 32 (.invokevirtual 216) 3 rfl) ok_Mod_put lm_Mod_216 ws_Mod_put wv_Mod_put ⟨Nat.le_of_ble_eq_true rfl, Nat.le_of_ble_eq_true rfl⟩ pn_Mod_put (Nat.le_of_ble_eq_true rfl) (Nat.le_of_ble_eq_true rfl) (Or.inl rfl) (mmono h ?_)
    rintro _ u1 ⟨rfl, h⟩
    show mWP _ _ _ [] _ _
    exact mp_rt none (rt_V rfl (dz dl_Mod_nackOut_0 24 35 (.return_) 1 rfl)) ⟨rfl, h⟩
  · replace h := h.2 hc
    refine mp_aload_n (i := 0) (v := qr 1 (some 0)) (dz dl_Mod_nackOut_0 3 5 (.aload_n 0) 1 rfl) rfl rfl trivial ?_
    refine mp_iload_n (i := 1) (x := l1) (dz dl_Mod_nackOut_0 4 6 (.iload_n 1) 1 rfl) rfl rfl ?_
    refine mp_iload_n (i := 3) (x := l3) (dz dl_Mod_nackOut_0 5 7 (.iload_n 3) 1 rfl) rfl rfl ?_
    refine mp_iload (i := 4) (x := l4) (dz dl_Mod_nackOut_0 6 8 (.iload 4) 2 rfl) rfl ?_
    refine mp_iconst (dz dl_Mod_nackOut_0 7 10 (.iconst (2)) 1 rfl) (v := (2 : Int32)) (by decide) ?_
    refine mp_iconst (dz dl_Mod_nackOut_0 8 11 (.iconst (-1)) 1 rfl) (v := (-1 : Int32)) (by decide) ?_
    refine mp_iconst (dz dl_Mod_nackOut_0 9 12 (.iconst (0)) 1 rfl) (v := (0 : Int32)) (by decide) ?_
    refine mp_callV [qi l1, qi l3, qi l4, qi (2 : Int32), qi (-1 : Int32), qi (0 : Int32)] [] (dz dl_Mod_nackOut_0 10 13 (.invokevirtual 263) 3 rfl) ok_Mod_settle lm_Mod_263 ws_Mod_settle wv_Mod_settle ⟨Nat.le_of_ble_eq_true rfl, Nat.le_of_ble_eq_true rfl⟩ pn_Mod_settle (Nat.le_of_ble_eq_true rfl) (Nat.le_of_ble_eq_true rfl) (Or.inl rfl) (mmono h ?_)
    rintro _ u2 ⟨rfl, h⟩
    show mWP _ _ _ [] _ _
    refine mp_goto (tgt := 35) (dz dl_Mod_nackOut_0 11 16 (.goto (19)) 3 rfl) (by decide) ?_
    exact mp_rt none (rt_V rfl (dz dl_Mod_nackOut_0 24 35 (.return_) 1 rfl)) ⟨rfl, h⟩
theorem mt_Mod_nackOut {u : MS} {l1 : Int32} {l2 : Int32} {l3 : Int32} {l4 : Int32} {l5 : Int32} {Z : MS → Prop} (h : (¬ l2 = (4 : Int32) → mMT M_Mod_put [qr 1 (some 0), qi (((4 : Int32) * l1) + l2), qi (2 : Int32), qi l3, qi l4, qi l5, qi (0 : Int32)] u (mV fun u1 => Z u1)) ∧ (l2 = (4 : Int32) → mMT M_Mod_settle [qr 1 (some 0), qi l1, qi l3, qi l4, qi (2 : Int32), qi (-1 : Int32), qi (0 : Int32)] u (mV fun u2 => Z u2))) : mMT M_Mod_nackOut [qr 1 (some 0), qi l1, qi l2, qi l3, qi l4, qi l5] u (mV Z) := mb_Mod_nackOut_0 h

theorem mb_Mod_entry_0 {u : MS} {l1 : Int32} {l2 : Int32} {l3 : Int32} {Z : Int32 → MS → Prop} (h : mWP M_Mod_entry 6 [qr 1 (some 0), qi l1, qi l2, qi l3, qi ((6 : Int32) * l1)] [] u (mI Z)) : mWP M_Mod_entry 0 [qr 1 (some 0), qi l1, qi l2, qi l3, none] [] u (mI Z) := by
  refine mp_bipush (dz dl_Mod_entry_0 0 0 (.bipush (6)) 2 rfl) (v := (6 : Int32)) (by decide) ?_
  refine mp_iload_n (i := 1) (x := l1) (dz dl_Mod_entry_0 1 2 (.iload_n 1) 1 rfl) rfl rfl ?_
  refine mp_imul (dz dl_Mod_entry_0 2 3 (.imul) 1 rfl) ?_
  refine mp_istore (i := 4) (dz dl_Mod_entry_0 3 4 (.istore 4) 2 rfl) [qr 1 (some 0), qi l1, qi l2, qi l3, qi ((6 : Int32) * l1)] (by decide) rfl ?_
  exact mp_cut h ⟨Or.inr rfl, Or.inr rfl, Or.inr rfl, Or.inr rfl, Or.inr rfl, trivial⟩
theorem mt_Mod_entry {u : MS} {l1 : Int32} {l2 : Int32} {l3 : Int32} {Z : Int32 → MS → Prop} (h : mWP M_Mod_entry 6 [qr 1 (some 0), qi l1, qi l2, qi l3, qi ((6 : Int32) * l1)] [] u (mI Z)) : mMT M_Mod_entry [qr 1 (some 0), qi l1, qi l2, qi l3] u (mI Z) := mb_Mod_entry_0 h

theorem mb_Mod_entry_6 {u : MS} {l1 : Int32} {l2 : Int32} {l3 : Int32} {l4 : Int32} {Z : Int32 → MS → Prop} (h : vp_in l1 5 ∧ ((((6 : Int32) * l1) + (u 92 l1.toNatClampNeg)) ≤ l4 → Z (-1 : Int32) u) ∧ (¬ (((6 : Int32) * l1) + (u 92 l1.toNatClampNeg)) ≤ l4 → vp_in l4 30 ∧ (¬ (u 93 l4.toNatClampNeg) = l2 → mWP M_Mod_entry 6 [qr 1 (some 0), qi l1, qi l2, qi l3, qi (l4 + 1)] [] u (mI Z)) ∧ ((u 93 l4.toNatClampNeg) = l2 → (¬ (u 94 l4.toNatClampNeg) = l3 → mWP M_Mod_entry 6 [qr 1 (some 0), qi l1, qi l2, qi l3, qi (l4 + 1)] [] u (mI Z)) ∧ ((u 94 l4.toNatClampNeg) = l3 → Z l4 u)))) : mWP M_Mod_entry 6 [qr 1 (some 0), qi l1, qi l2, qi l3, qi l4] [] u (mI Z) := by
  refine mp_iload (i := 4) (x := l4) (dz dl_Mod_entry_0 4 6 (.iload 4) 2 rfl) rfl ?_
  refine mp_bipush (dz dl_Mod_entry_0 5 8 (.bipush (6)) 2 rfl) (v := (6 : Int32)) (by decide) ?_
  refine mp_iload_n (i := 1) (x := l1) (dz dl_Mod_entry_0 6 10 (.iload_n 1) 1 rfl) rfl rfl ?_
  refine mp_imul (dz dl_Mod_entry_0 7 11 (.imul) 1 rfl) ?_
  refine mp_aload_n (i := 0) (v := qr 1 (some 0)) (dz dl_Mod_entry_0 8 12 (.aload_n 0) 1 rfl) rfl rfl trivial ?_
  refine mp_getA (dz dl_Mod_entry_0 9 13 (.getfield 79) 3 rfl) lk_Mod_79 (q := 0) kd_92 rfl sm_92 ?_
  refine mp_iload_n (i := 1) (x := l1) (dz dl_Mod_entry_0 10 16 (.iload_n 1) 1 rfl) rfl rfl ?_
  obtain ⟨i1, h⟩ := h
  refine mp_iald (dz dl_Mod_entry_0 11 17 (.iaload) 1 rfl) kd_92 rfl sm_92 i1 ?_
  refine mp_iadd (dz dl_Mod_entry_0 12 18 (.iadd) 1 rfl) ?_
  refine mp_icmp_ge (tgt := 53) (dz dl_Mod_entry_0 13 19 (.if_icmp .ge (34)) 3 rfl) (by decide) (fun hc => ?_) (fun hc => ?_)
  · replace h := h.1 hc
    refine mp_iconst (dz dl_Mod_entry_0 30 53 (.iconst (-1)) 1 rfl) (v := (-1 : Int32)) (by decide) ?_
    exact mp_rt (qi _) (rt_I rfl (dz dl_Mod_entry_0 31 54 (.ireturn) 1 rfl)) ⟨_, rfl, h⟩
  · replace h := h.2 hc
    refine mp_aload_n (i := 0) (v := qr 1 (some 0)) (dz dl_Mod_entry_0 14 22 (.aload_n 0) 1 rfl) rfl rfl trivial ?_
    refine mp_getA (dz dl_Mod_entry_0 15 23 (.getfield 82) 3 rfl) lk_Mod_82 (q := 0) kd_93 rfl sm_93 ?_
    refine mp_iload (i := 4) (x := l4) (dz dl_Mod_entry_0 16 26 (.iload 4) 2 rfl) rfl ?_
    obtain ⟨i2, h⟩ := h
    refine mp_iald (dz dl_Mod_entry_0 17 28 (.iaload) 1 rfl) kd_93 rfl sm_93 i2 ?_
    refine mp_iload_n (i := 2) (x := l2) (dz dl_Mod_entry_0 18 29 (.iload_n 2) 1 rfl) rfl rfl ?_
    refine mp_icmp_ne (tgt := 47) (dz dl_Mod_entry_0 19 30 (.if_icmp .ne (17)) 3 rfl) (by decide) (fun hc => ?_) (fun hc => ?_)
    · replace h := h.1 hc
      refine mp_iinc (i := 4) (v := l4 + 1) (dz dl_Mod_entry_0 28 47 (.iinc 4 (1)) 3 rfl) rfl (congrArg (fun z => l4 + z) (by decide)) [qr 1 (some 0), qi l1, qi l2, qi l3, qi (l4 + 1)] (by decide) rfl ?_
      refine mp_goto (tgt := 6) (dz dl_Mod_entry_0 29 50 (.goto (-44)) 3 rfl) (by decide) ?_
      exact mp_cut h ⟨Or.inr rfl, Or.inr rfl, Or.inr rfl, Or.inr rfl, Or.inr rfl, trivial⟩
    · replace h := h.2 hc
      refine mp_aload_n (i := 0) (v := qr 1 (some 0)) (dz dl_Mod_entry_0 20 33 (.aload_n 0) 1 rfl) rfl rfl trivial ?_
      refine mp_getA (dz dl_Mod_entry_0 21 34 (.getfield 85) 3 rfl) lk_Mod_85 (q := 0) kd_94 rfl sm_94 ?_
      refine mp_iload (i := 4) (x := l4) (dz dl_Mod_entry_0 22 37 (.iload 4) 2 rfl) rfl ?_
      refine mp_iald (dz dl_Mod_entry_0 23 39 (.iaload) 1 rfl) kd_94 rfl sm_94 i2 ?_
      refine mp_iload_n (i := 3) (x := l3) (dz dl_Mod_entry_0 24 40 (.iload_n 3) 1 rfl) rfl rfl ?_
      refine mp_icmp_ne (tgt := 47) (dz dl_Mod_entry_0 25 41 (.if_icmp .ne (6)) 3 rfl) (by decide) (fun hc => ?_) (fun hc => ?_)
      · replace h := h.1 hc
        refine mp_iinc (i := 4) (v := l4 + 1) (dz dl_Mod_entry_0 28 47 (.iinc 4 (1)) 3 rfl) rfl (congrArg (fun z => l4 + z) (by decide)) [qr 1 (some 0), qi l1, qi l2, qi l3, qi (l4 + 1)] (by decide) rfl ?_
        refine mp_goto (tgt := 6) (dz dl_Mod_entry_0 29 50 (.goto (-44)) 3 rfl) (by decide) ?_
        exact mp_cut h ⟨Or.inr rfl, Or.inr rfl, Or.inr rfl, Or.inr rfl, Or.inr rfl, trivial⟩
      · replace h := h.2 hc
        refine mp_iload (i := 4) (x := l4) (dz dl_Mod_entry_0 26 44 (.iload 4) 2 rfl) rfl ?_
        exact mp_rt (qi _) (rt_I rfl (dz dl_Mod_entry_0 27 46 (.ireturn) 1 rfl)) ⟨_, rfl, h⟩

theorem mb_Mod_removeEntry_0 {u : MS} {l1 : Int32} {l2 : Int32} {Z : MS → Prop} (h : vp_in l1 5 ∧ ∀ u1, u1 = mu u 92 l1.toNatClampNeg ((u 92 l1.toNatClampNeg) - (1 : Int32)) → mWP M_Mod_removeEntry 12 [qr 1 (some 0), qi l1, none, qi l2, none] [] u1 (mV Z)) : mWP M_Mod_removeEntry 0 [qr 1 (some 0), qi l1, qi l2, none, none] [] u (mV Z) := by
  refine mp_aload_n (i := 0) (v := qr 1 (some 0)) (dz dl_Mod_removeEntry_0 0 0 (.aload_n 0) 1 rfl) rfl rfl trivial ?_
  refine mp_getA (dz dl_Mod_removeEntry_0 1 1 (.getfield 79) 3 rfl) lk_Mod_79 (q := 0) kd_92 rfl sm_92 ?_
  refine mp_iload_n (i := 1) (x := l1) (dz dl_Mod_removeEntry_0 2 4 (.iload_n 1) 1 rfl) rfl rfl ?_
  refine mp_dup2 (dz dl_Mod_removeEntry_0 3 5 (.dup2) 1 rfl) ?_
  obtain ⟨i1, h⟩ := h
  refine mp_iald (dz dl_Mod_removeEntry_0 4 6 (.iaload) 1 rfl) kd_92 rfl sm_92 i1 ?_
  refine mp_iconst (dz dl_Mod_removeEntry_0 5 7 (.iconst (1)) 1 rfl) (v := (1 : Int32)) (by decide) ?_
  refine mp_isub (dz dl_Mod_removeEntry_0 6 8 (.isub) 1 rfl) ?_
  have h := h _ rfl
  refine mp_iast (dz dl_Mod_removeEntry_0 7 9 (.iastore) 1 rfl) kd_92 rfl sm_92 i1 rfl ?_
  refine mp_iload_n (i := 2) (x := l2) (dz dl_Mod_removeEntry_0 8 10 (.iload_n 2) 1 rfl) rfl rfl ?_
  refine mp_istore_n (i := 3) (dz dl_Mod_removeEntry_0 9 11 (.istore_n 3) 1 rfl) rfl [qr 1 (some 0), qi l1, qi l2, qi l2, none] (by decide) rfl ?_
  exact mp_cut h ⟨Or.inr rfl, Or.inr rfl, Or.inl rfl, Or.inr rfl, Or.inl rfl, trivial⟩
theorem mt_Mod_removeEntry {u : MS} {l1 : Int32} {l2 : Int32} {Z : MS → Prop} (h : vp_in l1 5 ∧ ∀ u1, u1 = mu u 92 l1.toNatClampNeg ((u 92 l1.toNatClampNeg) - (1 : Int32)) → mWP M_Mod_removeEntry 12 [qr 1 (some 0), qi l1, none, qi l2, none] [] u1 (mV Z)) : mMT M_Mod_removeEntry [qr 1 (some 0), qi l1, qi l2] u (mV Z) := mb_Mod_removeEntry_0 h

theorem mb_Mod_removeEntry_12 {u : MS} {l1 : Int32} {l3 : Int32} {Z : MS → Prop} (h : vp_in l1 5 ∧ ((((6 : Int32) * l1) + (u 92 l1.toNatClampNeg)) ≤ l3 → Z u) ∧ (¬ (((6 : Int32) * l1) + (u 92 l1.toNatClampNeg)) ≤ l3 → vp_in (l3 + (1 : Int32)) 30 ∧ vp_in l3 30 ∧ ∀ u1, u1 = mu u 93 l3.toNatClampNeg (u 93 (l3 + (1 : Int32)).toNatClampNeg) → ∀ u2, u2 = mu u1 94 l3.toNatClampNeg (u1 94 (l3 + (1 : Int32)).toNatClampNeg) → ∀ u3, u3 = mu u2 95 l3.toNatClampNeg (u2 95 (l3 + (1 : Int32)).toNatClampNeg) → mWP M_Mod_removeEntry 74 [qr 1 (some 0), qi l1, none, qi l3, qi ((5 : Int32) * l3)] [] u3 (mV Z))) : mWP M_Mod_removeEntry 12 [qr 1 (some 0), qi l1, none, qi l3, none] [] u (mV Z) := by
  refine mp_iload_n (i := 3) (x := l3) (dz dl_Mod_removeEntry_0 10 12 (.iload_n 3) 1 rfl) rfl rfl ?_
  refine mp_bipush (dz dl_Mod_removeEntry_0 11 13 (.bipush (6)) 2 rfl) (v := (6 : Int32)) (by decide) ?_
  refine mp_iload_n (i := 1) (x := l1) (dz dl_Mod_removeEntry_0 12 15 (.iload_n 1) 1 rfl) rfl rfl ?_
  refine mp_imul (dz dl_Mod_removeEntry_0 13 16 (.imul) 1 rfl) ?_
  refine mp_aload_n (i := 0) (v := qr 1 (some 0)) (dz dl_Mod_removeEntry_0 14 17 (.aload_n 0) 1 rfl) rfl rfl trivial ?_
  refine mp_getA (dz dl_Mod_removeEntry_0 15 18 (.getfield 79) 3 rfl) lk_Mod_79 (q := 0) kd_92 rfl sm_92 ?_
  refine mp_iload_n (i := 1) (x := l1) (dz dl_Mod_removeEntry_0 16 21 (.iload_n 1) 1 rfl) rfl rfl ?_
  obtain ⟨i1, h⟩ := h
  refine mp_iald (dz dl_Mod_removeEntry_0 17 22 (.iaload) 1 rfl) kd_92 rfl sm_92 i1 ?_
  refine mp_iadd (dz dl_Mod_removeEntry_0 18 23 (.iadd) 1 rfl) ?_
  refine mp_icmp_ge (tgt := 176) (dz dl_Mod_removeEntry_0 19 24 (.if_icmp .ge (152)) 3 rfl) (by decide) (fun hc => ?_) (fun hc => ?_)
  · replace h := h.1 hc
    exact mp_rt none (rt_V rfl (dz dl_Mod_removeEntry_2 35 176 (.return_) 1 rfl)) ⟨rfl, h⟩
  · replace h := h.2 hc
    refine mp_aload_n (i := 0) (v := qr 1 (some 0)) (dz dl_Mod_removeEntry_0 20 27 (.aload_n 0) 1 rfl) rfl rfl trivial ?_
    refine mp_getA (dz dl_Mod_removeEntry_0 21 28 (.getfield 82) 3 rfl) lk_Mod_82 (q := 0) kd_93 rfl sm_93 ?_
    refine mp_iload_n (i := 3) (x := l3) (dz dl_Mod_removeEntry_0 22 31 (.iload_n 3) 1 rfl) rfl rfl ?_
    refine mp_aload_n (i := 0) (v := qr 1 (some 0)) (dz dl_Mod_removeEntry_0 23 32 (.aload_n 0) 1 rfl) rfl rfl trivial ?_
    refine mp_getA (dz dl_Mod_removeEntry_0 24 33 (.getfield 82) 3 rfl) lk_Mod_82 (q := 0) kd_93 rfl sm_93 ?_
    refine mp_iload_n (i := 3) (x := l3) (dz dl_Mod_removeEntry_0 25 36 (.iload_n 3) 1 rfl) rfl rfl ?_
    refine mp_iconst (dz dl_Mod_removeEntry_0 26 37 (.iconst (1)) 1 rfl) (v := (1 : Int32)) (by decide) ?_
    refine mp_iadd (dz dl_Mod_removeEntry_0 27 38 (.iadd) 1 rfl) ?_
    obtain ⟨i2, h⟩ := h
    refine mp_iald (dz dl_Mod_removeEntry_0 28 39 (.iaload) 1 rfl) kd_93 rfl sm_93 i2 ?_
    obtain ⟨i3, h⟩ := h
    have h := h _ rfl
    refine mp_iast (dz dl_Mod_removeEntry_0 29 40 (.iastore) 1 rfl) kd_93 rfl sm_93 i3 rfl ?_
    refine mp_aload_n (i := 0) (v := qr 1 (some 0)) (dz dl_Mod_removeEntry_0 30 41 (.aload_n 0) 1 rfl) rfl rfl trivial ?_
    refine mp_getA (dz dl_Mod_removeEntry_0 31 42 (.getfield 85) 3 rfl) lk_Mod_85 (q := 0) kd_94 rfl sm_94 ?_
    refine mp_iload_n (i := 3) (x := l3) (dz dl_Mod_removeEntry_0 32 45 (.iload_n 3) 1 rfl) rfl rfl ?_
    refine mp_aload_n (i := 0) (v := qr 1 (some 0)) (dz dl_Mod_removeEntry_0 33 46 (.aload_n 0) 1 rfl) rfl rfl trivial ?_
    refine mp_getA (dz dl_Mod_removeEntry_0 34 47 (.getfield 85) 3 rfl) lk_Mod_85 (q := 0) kd_94 rfl sm_94 ?_
    refine mp_iload_n (i := 3) (x := l3) (dz dl_Mod_removeEntry_0 35 50 (.iload_n 3) 1 rfl) rfl rfl ?_
    refine mp_iconst (dz dl_Mod_removeEntry_0 36 51 (.iconst (1)) 1 rfl) (v := (1 : Int32)) (by decide) ?_
    refine mp_iadd (dz dl_Mod_removeEntry_0 37 52 (.iadd) 1 rfl) ?_
    refine mp_iald (dz dl_Mod_removeEntry_0 38 53 (.iaload) 1 rfl) kd_94 rfl sm_94 i2 ?_
    have h := h _ rfl
    refine mp_iast (dz dl_Mod_removeEntry_0 39 54 (.iastore) 1 rfl) kd_94 rfl sm_94 i3 rfl ?_
    refine mp_aload_n (i := 0) (v := qr 1 (some 0)) (dz dl_Mod_removeEntry_1 0 55 (.aload_n 0) 1 rfl) rfl rfl trivial ?_
    refine mp_getA (dz dl_Mod_removeEntry_1 1 56 (.getfield 88) 3 rfl) lk_Mod_88 (q := 0) kd_95 rfl sm_95 ?_
    refine mp_iload_n (i := 3) (x := l3) (dz dl_Mod_removeEntry_1 2 59 (.iload_n 3) 1 rfl) rfl rfl ?_
    refine mp_aload_n (i := 0) (v := qr 1 (some 0)) (dz dl_Mod_removeEntry_1 3 60 (.aload_n 0) 1 rfl) rfl rfl trivial ?_
    refine mp_getA (dz dl_Mod_removeEntry_1 4 61 (.getfield 88) 3 rfl) lk_Mod_88 (q := 0) kd_95 rfl sm_95 ?_
    refine mp_iload_n (i := 3) (x := l3) (dz dl_Mod_removeEntry_1 5 64 (.iload_n 3) 1 rfl) rfl rfl ?_
    refine mp_iconst (dz dl_Mod_removeEntry_1 6 65 (.iconst (1)) 1 rfl) (v := (1 : Int32)) (by decide) ?_
    refine mp_iadd (dz dl_Mod_removeEntry_1 7 66 (.iadd) 1 rfl) ?_
    refine mp_iald (dz dl_Mod_removeEntry_1 8 67 (.iaload) 1 rfl) kd_95 rfl sm_95 i2 ?_
    have h := h _ rfl
    refine mp_iast (dz dl_Mod_removeEntry_1 9 68 (.iastore) 1 rfl) kd_95 rfl sm_95 i3 rfl ?_
    refine mp_iconst (dz dl_Mod_removeEntry_1 10 69 (.iconst (5)) 1 rfl) (v := (5 : Int32)) (by decide) ?_
    refine mp_iload_n (i := 3) (x := l3) (dz dl_Mod_removeEntry_1 11 70 (.iload_n 3) 1 rfl) rfl rfl ?_
    refine mp_imul (dz dl_Mod_removeEntry_1 12 71 (.imul) 1 rfl) ?_
    refine mp_istore (i := 4) (dz dl_Mod_removeEntry_1 13 72 (.istore 4) 2 rfl) [qr 1 (some 0), qi l1, none, qi l3, qi ((5 : Int32) * l3)] (by decide) rfl ?_
    exact mp_cut h ⟨Or.inr rfl, Or.inr rfl, Or.inl rfl, Or.inr rfl, Or.inr rfl, trivial⟩

theorem mb_Mod_removeEntry_74 {u : MS} {l1 : Int32} {l3 : Int32} {l4 : Int32} {Z : MS → Prop} (h : ((((5 : Int32) * l3) + (5 : Int32)) ≤ l4 → mWP M_Mod_removeEntry 12 [qr 1 (some 0), qi l1, none, qi (l3 + 1), none] [] u (mV Z)) ∧ (¬ (((5 : Int32) * l3) + (5 : Int32)) ≤ l4 → vp_in (l4 + (5 : Int32)) 150 ∧ vp_in l4 150 ∧ ∀ u1, u1 = mu u 96 l4.toNatClampNeg (u 96 (l4 + (5 : Int32)).toNatClampNeg) → ∀ u2, u2 = mu u1 97 l4.toNatClampNeg (u1 97 (l4 + (5 : Int32)).toNatClampNeg) → ∀ u3, u3 = mu u2 98 l4.toNatClampNeg (u2 98 (l4 + (5 : Int32)).toNatClampNeg) → ∀ u4, u4 = mu u3 99 l4.toNatClampNeg (u3 99 (l4 + (5 : Int32)).toNatClampNeg) → ∀ u5, u5 = mu u4 100 l4.toNatClampNeg (u4 100 (l4 + (5 : Int32)).toNatClampNeg) → mWP M_Mod_removeEntry 74 [qr 1 (some 0), qi l1, none, qi l3, qi (l4 + 1)] [] u5 (mV Z))) : mWP M_Mod_removeEntry 74 [qr 1 (some 0), qi l1, none, qi l3, qi l4] [] u (mV Z) := by
  refine mp_iload (i := 4) (x := l4) (dz dl_Mod_removeEntry_1 14 74 (.iload 4) 2 rfl) rfl ?_
  refine mp_iconst (dz dl_Mod_removeEntry_1 15 76 (.iconst (5)) 1 rfl) (v := (5 : Int32)) (by decide) ?_
  refine mp_iload_n (i := 3) (x := l3) (dz dl_Mod_removeEntry_1 16 77 (.iload_n 3) 1 rfl) rfl rfl ?_
  refine mp_imul (dz dl_Mod_removeEntry_1 17 78 (.imul) 1 rfl) ?_
  refine mp_iconst (dz dl_Mod_removeEntry_1 18 79 (.iconst (5)) 1 rfl) (v := (5 : Int32)) (by decide) ?_
  refine mp_iadd (dz dl_Mod_removeEntry_1 19 80 (.iadd) 1 rfl) ?_
  refine mp_icmp_ge (tgt := 170) (dz dl_Mod_removeEntry_1 20 81 (.if_icmp .ge (89)) 3 rfl) (by decide) (fun hc => ?_) (fun hc => ?_)
  · replace h := h.1 hc
    refine mp_iinc (i := 3) (v := l3 + 1) (dz dl_Mod_removeEntry_2 33 170 (.iinc 3 (1)) 3 rfl) rfl (congrArg (fun z => l3 + z) (by decide)) [qr 1 (some 0), qi l1, none, qi (l3 + 1), qi l4] (by decide) rfl ?_
    refine mp_goto (tgt := 12) (dz dl_Mod_removeEntry_2 34 173 (.goto (-161)) 3 rfl) (by decide) ?_
    exact mp_cut h ⟨Or.inr rfl, Or.inr rfl, Or.inl rfl, Or.inr rfl, Or.inl rfl, trivial⟩
  · replace h := h.2 hc
    refine mp_aload_n (i := 0) (v := qr 1 (some 0)) (dz dl_Mod_removeEntry_1 21 84 (.aload_n 0) 1 rfl) rfl rfl trivial ?_
    refine mp_getA (dz dl_Mod_removeEntry_1 22 85 (.getfield 91) 3 rfl) lk_Mod_91 (q := 0) kd_96 rfl sm_96 ?_
    refine mp_iload (i := 4) (x := l4) (dz dl_Mod_removeEntry_1 23 88 (.iload 4) 2 rfl) rfl ?_
    refine mp_aload_n (i := 0) (v := qr 1 (some 0)) (dz dl_Mod_removeEntry_1 24 90 (.aload_n 0) 1 rfl) rfl rfl trivial ?_
    refine mp_getA (dz dl_Mod_removeEntry_1 25 91 (.getfield 91) 3 rfl) lk_Mod_91 (q := 0) kd_96 rfl sm_96 ?_
    refine mp_iload (i := 4) (x := l4) (dz dl_Mod_removeEntry_1 26 94 (.iload 4) 2 rfl) rfl ?_
    refine mp_iconst (dz dl_Mod_removeEntry_1 27 96 (.iconst (5)) 1 rfl) (v := (5 : Int32)) (by decide) ?_
    refine mp_iadd (dz dl_Mod_removeEntry_1 28 97 (.iadd) 1 rfl) ?_
    obtain ⟨i1, h⟩ := h
    refine mp_iald (dz dl_Mod_removeEntry_1 29 98 (.iaload) 1 rfl) kd_96 rfl sm_96 i1 ?_
    obtain ⟨i2, h⟩ := h
    have h := h _ rfl
    refine mp_iast (dz dl_Mod_removeEntry_1 30 99 (.iastore) 1 rfl) kd_96 rfl sm_96 i2 rfl ?_
    refine mp_aload_n (i := 0) (v := qr 1 (some 0)) (dz dl_Mod_removeEntry_1 31 100 (.aload_n 0) 1 rfl) rfl rfl trivial ?_
    refine mp_getA (dz dl_Mod_removeEntry_1 32 101 (.getfield 94) 3 rfl) lk_Mod_94 (q := 0) kd_97 rfl sm_97 ?_
    refine mp_iload (i := 4) (x := l4) (dz dl_Mod_removeEntry_1 33 104 (.iload 4) 2 rfl) rfl ?_
    refine mp_aload_n (i := 0) (v := qr 1 (some 0)) (dz dl_Mod_removeEntry_1 34 106 (.aload_n 0) 1 rfl) rfl rfl trivial ?_
    refine mp_getA (dz dl_Mod_removeEntry_1 35 107 (.getfield 94) 3 rfl) lk_Mod_94 (q := 0) kd_97 rfl sm_97 ?_
    refine mp_iload (i := 4) (x := l4) (dz dl_Mod_removeEntry_1 36 110 (.iload 4) 2 rfl) rfl ?_
    refine mp_iconst (dz dl_Mod_removeEntry_1 37 112 (.iconst (5)) 1 rfl) (v := (5 : Int32)) (by decide) ?_
    refine mp_iadd (dz dl_Mod_removeEntry_1 38 113 (.iadd) 1 rfl) ?_
    refine mp_iald (dz dl_Mod_removeEntry_1 39 114 (.iaload) 1 rfl) kd_97 rfl sm_97 i1 ?_
    have h := h _ rfl
    refine mp_iast (dz dl_Mod_removeEntry_2 0 115 (.iastore) 1 rfl) kd_97 rfl sm_97 i2 rfl ?_
    refine mp_aload_n (i := 0) (v := qr 1 (some 0)) (dz dl_Mod_removeEntry_2 1 116 (.aload_n 0) 1 rfl) rfl rfl trivial ?_
    refine mp_getA (dz dl_Mod_removeEntry_2 2 117 (.getfield 97) 3 rfl) lk_Mod_97 (q := 0) kd_98 rfl sm_98 ?_
    refine mp_iload (i := 4) (x := l4) (dz dl_Mod_removeEntry_2 3 120 (.iload 4) 2 rfl) rfl ?_
    refine mp_aload_n (i := 0) (v := qr 1 (some 0)) (dz dl_Mod_removeEntry_2 4 122 (.aload_n 0) 1 rfl) rfl rfl trivial ?_
    refine mp_getA (dz dl_Mod_removeEntry_2 5 123 (.getfield 97) 3 rfl) lk_Mod_97 (q := 0) kd_98 rfl sm_98 ?_
    refine mp_iload (i := 4) (x := l4) (dz dl_Mod_removeEntry_2 6 126 (.iload 4) 2 rfl) rfl ?_
    refine mp_iconst (dz dl_Mod_removeEntry_2 7 128 (.iconst (5)) 1 rfl) (v := (5 : Int32)) (by decide) ?_
    refine mp_iadd (dz dl_Mod_removeEntry_2 8 129 (.iadd) 1 rfl) ?_
    refine mp_iald (dz dl_Mod_removeEntry_2 9 130 (.iaload) 1 rfl) kd_98 rfl sm_98 i1 ?_
    have h := h _ rfl
    refine mp_iast (dz dl_Mod_removeEntry_2 10 131 (.iastore) 1 rfl) kd_98 rfl sm_98 i2 rfl ?_
    refine mp_aload_n (i := 0) (v := qr 1 (some 0)) (dz dl_Mod_removeEntry_2 11 132 (.aload_n 0) 1 rfl) rfl rfl trivial ?_
    refine mp_getA (dz dl_Mod_removeEntry_2 12 133 (.getfield 100) 3 rfl) lk_Mod_100 (q := 0) kd_99 rfl sm_99 ?_
    refine mp_iload (i := 4) (x := l4) (dz dl_Mod_removeEntry_2 13 136 (.iload 4) 2 rfl) rfl ?_
    refine mp_aload_n (i := 0) (v := qr 1 (some 0)) (dz dl_Mod_removeEntry_2 14 138 (.aload_n 0) 1 rfl) rfl rfl trivial ?_
    refine mp_getA (dz dl_Mod_removeEntry_2 15 139 (.getfield 100) 3 rfl) lk_Mod_100 (q := 0) kd_99 rfl sm_99 ?_
    refine mp_iload (i := 4) (x := l4) (dz dl_Mod_removeEntry_2 16 142 (.iload 4) 2 rfl) rfl ?_
    refine mp_iconst (dz dl_Mod_removeEntry_2 17 144 (.iconst (5)) 1 rfl) (v := (5 : Int32)) (by decide) ?_
    refine mp_iadd (dz dl_Mod_removeEntry_2 18 145 (.iadd) 1 rfl) ?_
    refine mp_iald (dz dl_Mod_removeEntry_2 19 146 (.iaload) 1 rfl) kd_99 rfl sm_99 i1 ?_
    have h := h _ rfl
    refine mp_iast (dz dl_Mod_removeEntry_2 20 147 (.iastore) 1 rfl) kd_99 rfl sm_99 i2 rfl ?_
    refine mp_aload_n (i := 0) (v := qr 1 (some 0)) (dz dl_Mod_removeEntry_2 21 148 (.aload_n 0) 1 rfl) rfl rfl trivial ?_
    refine mp_getA (dz dl_Mod_removeEntry_2 22 149 (.getfield 103) 3 rfl) lk_Mod_103 (q := 0) kd_100 rfl sm_100 ?_
    refine mp_iload (i := 4) (x := l4) (dz dl_Mod_removeEntry_2 23 152 (.iload 4) 2 rfl) rfl ?_
    refine mp_aload_n (i := 0) (v := qr 1 (some 0)) (dz dl_Mod_removeEntry_2 24 154 (.aload_n 0) 1 rfl) rfl rfl trivial ?_
    refine mp_getA (dz dl_Mod_removeEntry_2 25 155 (.getfield 103) 3 rfl) lk_Mod_103 (q := 0) kd_100 rfl sm_100 ?_
    refine mp_iload (i := 4) (x := l4) (dz dl_Mod_removeEntry_2 26 158 (.iload 4) 2 rfl) rfl ?_
    refine mp_iconst (dz dl_Mod_removeEntry_2 27 160 (.iconst (5)) 1 rfl) (v := (5 : Int32)) (by decide) ?_
    refine mp_iadd (dz dl_Mod_removeEntry_2 28 161 (.iadd) 1 rfl) ?_
    refine mp_iald (dz dl_Mod_removeEntry_2 29 162 (.iaload) 1 rfl) kd_100 rfl sm_100 i1 ?_
    have h := h _ rfl
    refine mp_iast (dz dl_Mod_removeEntry_2 30 163 (.iastore) 1 rfl) kd_100 rfl sm_100 i2 rfl ?_
    refine mp_iinc (i := 4) (v := l4 + 1) (dz dl_Mod_removeEntry_2 31 164 (.iinc 4 (1)) 3 rfl) rfl (congrArg (fun z => l4 + z) (by decide)) [qr 1 (some 0), qi l1, none, qi l3, qi (l4 + 1)] (by decide) rfl ?_
    refine mp_goto (tgt := 74) (dz dl_Mod_removeEntry_2 32 167 (.goto (-93)) 3 rfl) (by decide) ?_
    exact mp_cut h ⟨Or.inr rfl, Or.inr rfl, Or.inl rfl, Or.inr rfl, Or.inr rfl, trivial⟩

theorem mb_Mod_round_0 {u : MS} {l1 : Int32} {l2 : Int32} {l3 : Int32} {Z : Int32 → MS → Prop} (h : mWP M_Mod_round 6 [qr 1 (some 0), qi l1, qi l2, qi l3, qi (0 : Int32), qi (0 : Int32)] [] u (mI Z)) : mWP M_Mod_round 0 [qr 1 (some 0), qi l1, qi l2, qi l3, none, none] [] u (mI Z) := by
  refine mp_iconst (dz dl_Mod_round_0 0 0 (.iconst (0)) 1 rfl) (v := (0 : Int32)) (by decide) ?_
  refine mp_istore (i := 4) (dz dl_Mod_round_0 1 1 (.istore 4) 2 rfl) [qr 1 (some 0), qi l1, qi l2, qi l3, qi (0 : Int32), none] (by decide) rfl ?_
  refine mp_iconst (dz dl_Mod_round_0 2 3 (.iconst (0)) 1 rfl) (v := (0 : Int32)) (by decide) ?_
  refine mp_istore (i := 5) (dz dl_Mod_round_0 3 4 (.istore 5) 2 rfl) [qr 1 (some 0), qi l1, qi l2, qi l3, qi (0 : Int32), qi (0 : Int32)] (by decide) rfl ?_
  exact mp_cut h ⟨Or.inr rfl, Or.inr rfl, Or.inr rfl, Or.inr rfl, Or.inr rfl, Or.inr rfl, trivial⟩
theorem mt_Mod_round {u : MS} {l1 : Int32} {l2 : Int32} {l3 : Int32} {Z : Int32 → MS → Prop} (h : mWP M_Mod_round 6 [qr 1 (some 0), qi l1, qi l2, qi l3, qi (0 : Int32), qi (0 : Int32)] [] u (mI Z)) : mMT M_Mod_round [qr 1 (some 0), qi l1, qi l2, qi l3] u (mI Z) := mb_Mod_round_0 h

theorem mb_Mod_round_6 {u : MS} {l1 : Int32} {l2 : Int32} {l3 : Int32} {l4 : Int32} {l5 : Int32} {Z : Int32 → MS → Prop} (h : ((5 : Int32) ≤ l5 → (l4 = 0 ∨ l4 = 1) ∧ Z l4 u) ∧ (¬ (5 : Int32) ≤ l5 → (¬ l4 = 0 → mWP M_Mod_round 6 [qr 1 (some 0), qi l1, qi l2, qi l3, qi (1 : Int32), qi (l5 + 1)] [] u (mI Z)) ∧ (l4 = 0 → vp_in (((5 : Int32) * l1) + l5) 150 ∧ ((u 99 (((5 : Int32) * l1) + l5).toNatClampNeg) ≤ 0 → (l5 = l2 → mWP M_Mod_round 6 [qr 1 (some 0), qi l1, qi l2, qi l3, qi (0 : Int32), qi (l5 + 1)] [] u (mI Z)) ∧ (¬ l5 = l2 → ((u 96 (((5 : Int32) * l1) + l5).toNatClampNeg) ≤ 0 → mWP M_Mod_round 6 [qr 1 (some 0), qi l1, qi l2, qi l3, qi (0 : Int32), qi (l5 + 1)] [] u (mI Z)) ∧ (¬ (u 96 (((5 : Int32) * l1) + l5).toNatClampNeg) ≤ 0 → (¬ (u 97 (((5 : Int32) * l1) + l5).toNatClampNeg) = l3 → mWP M_Mod_round 6 [qr 1 (some 0), qi l1, qi l2, qi l3, qi (0 : Int32), qi (l5 + 1)] [] u (mI Z)) ∧ ((u 97 (((5 : Int32) * l1) + l5).toNatClampNeg) = l3 → mWP M_Mod_round 6 [qr 1 (some 0), qi l1, qi l2, qi l3, qi (1 : Int32), qi (l5 + 1)] [] u (mI Z))))) ∧ (¬ (u 99 (((5 : Int32) * l1) + l5).toNatClampNeg) ≤ 0 → ((u 100 (((5 : Int32) * l1) + l5).toNatClampNeg) = l3 → mWP M_Mod_round 6 [qr 1 (some 0), qi l1, qi l2, qi l3, qi (1 : Int32), qi (l5 + 1)] [] u (mI Z)) ∧ (¬ (u 100 (((5 : Int32) * l1) + l5).toNatClampNeg) = l3 → (l5 = l2 → mWP M_Mod_round 6 [qr 1 (some 0), qi l1, qi l2, qi l3, qi (0 : Int32), qi (l5 + 1)] [] u (mI Z)) ∧ (¬ l5 = l2 → ((u 96 (((5 : Int32) * l1) + l5).toNatClampNeg) ≤ 0 → mWP M_Mod_round 6 [qr 1 (some 0), qi l1, qi l2, qi l3, qi (0 : Int32), qi (l5 + 1)] [] u (mI Z)) ∧ (¬ (u 96 (((5 : Int32) * l1) + l5).toNatClampNeg) ≤ 0 → (¬ (u 97 (((5 : Int32) * l1) + l5).toNatClampNeg) = l3 → mWP M_Mod_round 6 [qr 1 (some 0), qi l1, qi l2, qi l3, qi (0 : Int32), qi (l5 + 1)] [] u (mI Z)) ∧ ((u 97 (((5 : Int32) * l1) + l5).toNatClampNeg) = l3 → mWP M_Mod_round 6 [qr 1 (some 0), qi l1, qi l2, qi l3, qi (1 : Int32), qi (l5 + 1)] [] u (mI Z))))))))) : mWP M_Mod_round 6 [qr 1 (some 0), qi l1, qi l2, qi l3, qi l4, qi l5] [] u (mI Z) := by
  refine mp_iload (i := 5) (x := l5) (dz dl_Mod_round_0 4 6 (.iload 5) 2 rfl) rfl ?_
  refine mp_iconst (dz dl_Mod_round_0 5 8 (.iconst (5)) 1 rfl) (v := (5 : Int32)) (by decide) ?_
  refine mp_icmp_ge (tgt := 94) (dz dl_Mod_round_0 6 9 (.if_icmp .ge (85)) 3 rfl) (by decide) (fun hc => ?_) (fun hc => ?_)
  · replace h := h.1 hc
    refine mp_iload (i := 4) (x := l4) (dz dl_Mod_round_1 16 94 (.iload 4) 2 rfl) rfl ?_
    exact mp_rt (qi _) (rt_Z rfl h.1 (dz dl_Mod_round_1 17 96 (.ireturn) 1 rfl)) ⟨_, rfl, h.2⟩
  · replace h := h.2 hc
    refine mp_iload (i := 4) (x := l4) (dz dl_Mod_round_0 7 12 (.iload 4) 2 rfl) rfl ?_
    refine mp_if_ne (tgt := 81) (dz dl_Mod_round_0 8 14 (.ifCond .ne (67)) 3 rfl) (by decide) (fun hc => ?_) (fun hc => ?_)
    · replace h := h.1 hc
      refine mp_iconst (dz dl_Mod_round_1 10 81 (.iconst (1)) 1 rfl) (v := (1 : Int32)) (by decide) ?_
      refine mp_goto (tgt := 86) (dz dl_Mod_round_1 11 82 (.goto (4)) 3 rfl) (by decide) ?_
      refine mp_istore (i := 4) (dz dl_Mod_round_1 13 86 (.istore 4) 2 rfl) [qr 1 (some 0), qi l1, qi l2, qi l3, qi (1 : Int32), qi l5] (by decide) rfl ?_
      refine mp_iinc (i := 5) (v := l5 + 1) (dz dl_Mod_round_1 14 88 (.iinc 5 (1)) 3 rfl) rfl (congrArg (fun z => l5 + z) (by decide)) [qr 1 (some 0), qi l1, qi l2, qi l3, qi (1 : Int32), qi (l5 + 1)] (by decide) rfl ?_
      refine mp_goto (tgt := 6) (dz dl_Mod_round_1 15 91 (.goto (-85)) 3 rfl) (by decide) ?_
      exact mp_cut h ⟨Or.inr rfl, Or.inr rfl, Or.inr rfl, Or.inr rfl, Or.inr rfl, Or.inr rfl, trivial⟩
    · replace h := h.2 hc
      refine mp_aload_n (i := 0) (v := qr 1 (some 0)) (dz dl_Mod_round_0 9 17 (.aload_n 0) 1 rfl) rfl rfl trivial ?_
      refine mp_getA (dz dl_Mod_round_0 10 18 (.getfield 100) 3 rfl) lk_Mod_100 (q := 0) kd_99 rfl sm_99 ?_
      refine mp_iconst (dz dl_Mod_round_0 11 21 (.iconst (5)) 1 rfl) (v := (5 : Int32)) (by decide) ?_
      refine mp_iload_n (i := 1) (x := l1) (dz dl_Mod_round_0 12 22 (.iload_n 1) 1 rfl) rfl rfl ?_
      refine mp_imul (dz dl_Mod_round_0 13 23 (.imul) 1 rfl) ?_
      refine mp_iload (i := 5) (x := l5) (dz dl_Mod_round_0 14 24 (.iload 5) 2 rfl) rfl ?_
      refine mp_iadd (dz dl_Mod_round_0 15 26 (.iadd) 1 rfl) ?_
      obtain ⟨i1, h⟩ := h
      refine mp_iald (dz dl_Mod_round_0 16 27 (.iaload) 1 rfl) kd_99 rfl sm_99 i1 ?_
      refine mp_if_le (tgt := 46) (dz dl_Mod_round_0 17 28 (.ifCond .le (18)) 3 rfl) (by decide) (fun hc => ?_) (fun hc => ?_)
      · replace h := h.1 hc
        refine mp_iload (i := 5) (x := l5) (dz dl_Mod_round_0 28 46 (.iload 5) 2 rfl) rfl ?_
        refine mp_iload_n (i := 2) (x := l2) (dz dl_Mod_round_0 29 48 (.iload_n 2) 1 rfl) rfl rfl ?_
        refine mp_icmp_eq (tgt := 85) (dz dl_Mod_round_0 30 49 (.if_icmp .eq (36)) 3 rfl) (by decide) (fun hc => ?_) (fun hc => ?_)
        · replace h := h.1 hc
          refine mp_iconst (dz dl_Mod_round_1 12 85 (.iconst (0)) 1 rfl) (v := (0 : Int32)) (by decide) ?_
          refine mp_istore (i := 4) (dz dl_Mod_round_1 13 86 (.istore 4) 2 rfl) [qr 1 (some 0), qi l1, qi l2, qi l3, qi (0 : Int32), qi l5] (by decide) rfl ?_
          refine mp_iinc (i := 5) (v := l5 + 1) (dz dl_Mod_round_1 14 88 (.iinc 5 (1)) 3 rfl) rfl (congrArg (fun z => l5 + z) (by decide)) [qr 1 (some 0), qi l1, qi l2, qi l3, qi (0 : Int32), qi (l5 + 1)] (by decide) rfl ?_
          refine mp_goto (tgt := 6) (dz dl_Mod_round_1 15 91 (.goto (-85)) 3 rfl) (by decide) ?_
          exact mp_cut h ⟨Or.inr rfl, Or.inr rfl, Or.inr rfl, Or.inr rfl, Or.inr rfl, Or.inr rfl, trivial⟩
        · replace h := h.2 hc
          refine mp_aload_n (i := 0) (v := qr 1 (some 0)) (dz dl_Mod_round_0 31 52 (.aload_n 0) 1 rfl) rfl rfl trivial ?_
          refine mp_getA (dz dl_Mod_round_0 32 53 (.getfield 91) 3 rfl) lk_Mod_91 (q := 0) kd_96 rfl sm_96 ?_
          refine mp_iconst (dz dl_Mod_round_0 33 56 (.iconst (5)) 1 rfl) (v := (5 : Int32)) (by decide) ?_
          refine mp_iload_n (i := 1) (x := l1) (dz dl_Mod_round_0 34 57 (.iload_n 1) 1 rfl) rfl rfl ?_
          refine mp_imul (dz dl_Mod_round_0 35 58 (.imul) 1 rfl) ?_
          refine mp_iload (i := 5) (x := l5) (dz dl_Mod_round_0 36 59 (.iload 5) 2 rfl) rfl ?_
          refine mp_iadd (dz dl_Mod_round_0 37 61 (.iadd) 1 rfl) ?_
          refine mp_iald (dz dl_Mod_round_0 38 62 (.iaload) 1 rfl) kd_96 rfl sm_96 i1 ?_
          refine mp_if_le (tgt := 85) (dz dl_Mod_round_0 39 63 (.ifCond .le (22)) 3 rfl) (by decide) (fun hc => ?_) (fun hc => ?_)
          · replace h := h.1 hc
            refine mp_iconst (dz dl_Mod_round_1 12 85 (.iconst (0)) 1 rfl) (v := (0 : Int32)) (by decide) ?_
            refine mp_istore (i := 4) (dz dl_Mod_round_1 13 86 (.istore 4) 2 rfl) [qr 1 (some 0), qi l1, qi l2, qi l3, qi (0 : Int32), qi l5] (by decide) rfl ?_
            refine mp_iinc (i := 5) (v := l5 + 1) (dz dl_Mod_round_1 14 88 (.iinc 5 (1)) 3 rfl) rfl (congrArg (fun z => l5 + z) (by decide)) [qr 1 (some 0), qi l1, qi l2, qi l3, qi (0 : Int32), qi (l5 + 1)] (by decide) rfl ?_
            refine mp_goto (tgt := 6) (dz dl_Mod_round_1 15 91 (.goto (-85)) 3 rfl) (by decide) ?_
            exact mp_cut h ⟨Or.inr rfl, Or.inr rfl, Or.inr rfl, Or.inr rfl, Or.inr rfl, Or.inr rfl, trivial⟩
          · replace h := h.2 hc
            refine mp_aload_n (i := 0) (v := qr 1 (some 0)) (dz dl_Mod_round_1 0 66 (.aload_n 0) 1 rfl) rfl rfl trivial ?_
            refine mp_getA (dz dl_Mod_round_1 1 67 (.getfield 94) 3 rfl) lk_Mod_94 (q := 0) kd_97 rfl sm_97 ?_
            refine mp_iconst (dz dl_Mod_round_1 2 70 (.iconst (5)) 1 rfl) (v := (5 : Int32)) (by decide) ?_
            refine mp_iload_n (i := 1) (x := l1) (dz dl_Mod_round_1 3 71 (.iload_n 1) 1 rfl) rfl rfl ?_
            refine mp_imul (dz dl_Mod_round_1 4 72 (.imul) 1 rfl) ?_
            refine mp_iload (i := 5) (x := l5) (dz dl_Mod_round_1 5 73 (.iload 5) 2 rfl) rfl ?_
            refine mp_iadd (dz dl_Mod_round_1 6 75 (.iadd) 1 rfl) ?_
            refine mp_iald (dz dl_Mod_round_1 7 76 (.iaload) 1 rfl) kd_97 rfl sm_97 i1 ?_
            refine mp_iload_n (i := 3) (x := l3) (dz dl_Mod_round_1 8 77 (.iload_n 3) 1 rfl) rfl rfl ?_
            refine mp_icmp_ne (tgt := 85) (dz dl_Mod_round_1 9 78 (.if_icmp .ne (7)) 3 rfl) (by decide) (fun hc => ?_) (fun hc => ?_)
            · replace h := h.1 hc
              refine mp_iconst (dz dl_Mod_round_1 12 85 (.iconst (0)) 1 rfl) (v := (0 : Int32)) (by decide) ?_
              refine mp_istore (i := 4) (dz dl_Mod_round_1 13 86 (.istore 4) 2 rfl) [qr 1 (some 0), qi l1, qi l2, qi l3, qi (0 : Int32), qi l5] (by decide) rfl ?_
              refine mp_iinc (i := 5) (v := l5 + 1) (dz dl_Mod_round_1 14 88 (.iinc 5 (1)) 3 rfl) rfl (congrArg (fun z => l5 + z) (by decide)) [qr 1 (some 0), qi l1, qi l2, qi l3, qi (0 : Int32), qi (l5 + 1)] (by decide) rfl ?_
              refine mp_goto (tgt := 6) (dz dl_Mod_round_1 15 91 (.goto (-85)) 3 rfl) (by decide) ?_
              exact mp_cut h ⟨Or.inr rfl, Or.inr rfl, Or.inr rfl, Or.inr rfl, Or.inr rfl, Or.inr rfl, trivial⟩
            · replace h := h.2 hc
              refine mp_iconst (dz dl_Mod_round_1 10 81 (.iconst (1)) 1 rfl) (v := (1 : Int32)) (by decide) ?_
              refine mp_goto (tgt := 86) (dz dl_Mod_round_1 11 82 (.goto (4)) 3 rfl) (by decide) ?_
              refine mp_istore (i := 4) (dz dl_Mod_round_1 13 86 (.istore 4) 2 rfl) [qr 1 (some 0), qi l1, qi l2, qi l3, qi (1 : Int32), qi l5] (by decide) rfl ?_
              refine mp_iinc (i := 5) (v := l5 + 1) (dz dl_Mod_round_1 14 88 (.iinc 5 (1)) 3 rfl) rfl (congrArg (fun z => l5 + z) (by decide)) [qr 1 (some 0), qi l1, qi l2, qi l3, qi (1 : Int32), qi (l5 + 1)] (by decide) rfl ?_
              refine mp_goto (tgt := 6) (dz dl_Mod_round_1 15 91 (.goto (-85)) 3 rfl) (by decide) ?_
              exact mp_cut h ⟨Or.inr rfl, Or.inr rfl, Or.inr rfl, Or.inr rfl, Or.inr rfl, Or.inr rfl, trivial⟩
      · replace h := h.2 hc
        refine mp_aload_n (i := 0) (v := qr 1 (some 0)) (dz dl_Mod_round_0 18 31 (.aload_n 0) 1 rfl) rfl rfl trivial ?_
        refine mp_getA (dz dl_Mod_round_0 19 32 (.getfield 103) 3 rfl) lk_Mod_103 (q := 0) kd_100 rfl sm_100 ?_
        refine mp_iconst (dz dl_Mod_round_0 20 35 (.iconst (5)) 1 rfl) (v := (5 : Int32)) (by decide) ?_
        refine mp_iload_n (i := 1) (x := l1) (dz dl_Mod_round_0 21 36 (.iload_n 1) 1 rfl) rfl rfl ?_
        refine mp_imul (dz dl_Mod_round_0 22 37 (.imul) 1 rfl) ?_
        refine mp_iload (i := 5) (x := l5) (dz dl_Mod_round_0 23 38 (.iload 5) 2 rfl) rfl ?_
        refine mp_iadd (dz dl_Mod_round_0 24 40 (.iadd) 1 rfl) ?_
        refine mp_iald (dz dl_Mod_round_0 25 41 (.iaload) 1 rfl) kd_100 rfl sm_100 i1 ?_
        refine mp_iload_n (i := 3) (x := l3) (dz dl_Mod_round_0 26 42 (.iload_n 3) 1 rfl) rfl rfl ?_
        refine mp_icmp_eq (tgt := 81) (dz dl_Mod_round_0 27 43 (.if_icmp .eq (38)) 3 rfl) (by decide) (fun hc => ?_) (fun hc => ?_)
        · replace h := h.1 hc
          refine mp_iconst (dz dl_Mod_round_1 10 81 (.iconst (1)) 1 rfl) (v := (1 : Int32)) (by decide) ?_
          refine mp_goto (tgt := 86) (dz dl_Mod_round_1 11 82 (.goto (4)) 3 rfl) (by decide) ?_
          refine mp_istore (i := 4) (dz dl_Mod_round_1 13 86 (.istore 4) 2 rfl) [qr 1 (some 0), qi l1, qi l2, qi l3, qi (1 : Int32), qi l5] (by decide) rfl ?_
          refine mp_iinc (i := 5) (v := l5 + 1) (dz dl_Mod_round_1 14 88 (.iinc 5 (1)) 3 rfl) rfl (congrArg (fun z => l5 + z) (by decide)) [qr 1 (some 0), qi l1, qi l2, qi l3, qi (1 : Int32), qi (l5 + 1)] (by decide) rfl ?_
          refine mp_goto (tgt := 6) (dz dl_Mod_round_1 15 91 (.goto (-85)) 3 rfl) (by decide) ?_
          exact mp_cut h ⟨Or.inr rfl, Or.inr rfl, Or.inr rfl, Or.inr rfl, Or.inr rfl, Or.inr rfl, trivial⟩
        · replace h := h.2 hc
          refine mp_iload (i := 5) (x := l5) (dz dl_Mod_round_0 28 46 (.iload 5) 2 rfl) rfl ?_
          refine mp_iload_n (i := 2) (x := l2) (dz dl_Mod_round_0 29 48 (.iload_n 2) 1 rfl) rfl rfl ?_
          refine mp_icmp_eq (tgt := 85) (dz dl_Mod_round_0 30 49 (.if_icmp .eq (36)) 3 rfl) (by decide) (fun hc => ?_) (fun hc => ?_)
          · replace h := h.1 hc
            refine mp_iconst (dz dl_Mod_round_1 12 85 (.iconst (0)) 1 rfl) (v := (0 : Int32)) (by decide) ?_
            refine mp_istore (i := 4) (dz dl_Mod_round_1 13 86 (.istore 4) 2 rfl) [qr 1 (some 0), qi l1, qi l2, qi l3, qi (0 : Int32), qi l5] (by decide) rfl ?_
            refine mp_iinc (i := 5) (v := l5 + 1) (dz dl_Mod_round_1 14 88 (.iinc 5 (1)) 3 rfl) rfl (congrArg (fun z => l5 + z) (by decide)) [qr 1 (some 0), qi l1, qi l2, qi l3, qi (0 : Int32), qi (l5 + 1)] (by decide) rfl ?_
            refine mp_goto (tgt := 6) (dz dl_Mod_round_1 15 91 (.goto (-85)) 3 rfl) (by decide) ?_
            exact mp_cut h ⟨Or.inr rfl, Or.inr rfl, Or.inr rfl, Or.inr rfl, Or.inr rfl, Or.inr rfl, trivial⟩
          · replace h := h.2 hc
            refine mp_aload_n (i := 0) (v := qr 1 (some 0)) (dz dl_Mod_round_0 31 52 (.aload_n 0) 1 rfl) rfl rfl trivial ?_
            refine mp_getA (dz dl_Mod_round_0 32 53 (.getfield 91) 3 rfl) lk_Mod_91 (q := 0) kd_96 rfl sm_96 ?_
            refine mp_iconst (dz dl_Mod_round_0 33 56 (.iconst (5)) 1 rfl) (v := (5 : Int32)) (by decide) ?_
            refine mp_iload_n (i := 1) (x := l1) (dz dl_Mod_round_0 34 57 (.iload_n 1) 1 rfl) rfl rfl ?_
            refine mp_imul (dz dl_Mod_round_0 35 58 (.imul) 1 rfl) ?_
            refine mp_iload (i := 5) (x := l5) (dz dl_Mod_round_0 36 59 (.iload 5) 2 rfl) rfl ?_
            refine mp_iadd (dz dl_Mod_round_0 37 61 (.iadd) 1 rfl) ?_
            refine mp_iald (dz dl_Mod_round_0 38 62 (.iaload) 1 rfl) kd_96 rfl sm_96 i1 ?_
            refine mp_if_le (tgt := 85) (dz dl_Mod_round_0 39 63 (.ifCond .le (22)) 3 rfl) (by decide) (fun hc => ?_) (fun hc => ?_)
            · replace h := h.1 hc
              refine mp_iconst (dz dl_Mod_round_1 12 85 (.iconst (0)) 1 rfl) (v := (0 : Int32)) (by decide) ?_
              refine mp_istore (i := 4) (dz dl_Mod_round_1 13 86 (.istore 4) 2 rfl) [qr 1 (some 0), qi l1, qi l2, qi l3, qi (0 : Int32), qi l5] (by decide) rfl ?_
              refine mp_iinc (i := 5) (v := l5 + 1) (dz dl_Mod_round_1 14 88 (.iinc 5 (1)) 3 rfl) rfl (congrArg (fun z => l5 + z) (by decide)) [qr 1 (some 0), qi l1, qi l2, qi l3, qi (0 : Int32), qi (l5 + 1)] (by decide) rfl ?_
              refine mp_goto (tgt := 6) (dz dl_Mod_round_1 15 91 (.goto (-85)) 3 rfl) (by decide) ?_
              exact mp_cut h ⟨Or.inr rfl, Or.inr rfl, Or.inr rfl, Or.inr rfl, Or.inr rfl, Or.inr rfl, trivial⟩
            · replace h := h.2 hc
              refine mp_aload_n (i := 0) (v := qr 1 (some 0)) (dz dl_Mod_round_1 0 66 (.aload_n 0) 1 rfl) rfl rfl trivial ?_
              refine mp_getA (dz dl_Mod_round_1 1 67 (.getfield 94) 3 rfl) lk_Mod_94 (q := 0) kd_97 rfl sm_97 ?_
              refine mp_iconst (dz dl_Mod_round_1 2 70 (.iconst (5)) 1 rfl) (v := (5 : Int32)) (by decide) ?_
              refine mp_iload_n (i := 1) (x := l1) (dz dl_Mod_round_1 3 71 (.iload_n 1) 1 rfl) rfl rfl ?_
              refine mp_imul (dz dl_Mod_round_1 4 72 (.imul) 1 rfl) ?_
              refine mp_iload (i := 5) (x := l5) (dz dl_Mod_round_1 5 73 (.iload 5) 2 rfl) rfl ?_
              refine mp_iadd (dz dl_Mod_round_1 6 75 (.iadd) 1 rfl) ?_
              refine mp_iald (dz dl_Mod_round_1 7 76 (.iaload) 1 rfl) kd_97 rfl sm_97 i1 ?_
              refine mp_iload_n (i := 3) (x := l3) (dz dl_Mod_round_1 8 77 (.iload_n 3) 1 rfl) rfl rfl ?_
              refine mp_icmp_ne (tgt := 85) (dz dl_Mod_round_1 9 78 (.if_icmp .ne (7)) 3 rfl) (by decide) (fun hc => ?_) (fun hc => ?_)
              · replace h := h.1 hc
                refine mp_iconst (dz dl_Mod_round_1 12 85 (.iconst (0)) 1 rfl) (v := (0 : Int32)) (by decide) ?_
                refine mp_istore (i := 4) (dz dl_Mod_round_1 13 86 (.istore 4) 2 rfl) [qr 1 (some 0), qi l1, qi l2, qi l3, qi (0 : Int32), qi l5] (by decide) rfl ?_
                refine mp_iinc (i := 5) (v := l5 + 1) (dz dl_Mod_round_1 14 88 (.iinc 5 (1)) 3 rfl) rfl (congrArg (fun z => l5 + z) (by decide)) [qr 1 (some 0), qi l1, qi l2, qi l3, qi (0 : Int32), qi (l5 + 1)] (by decide) rfl ?_
                refine mp_goto (tgt := 6) (dz dl_Mod_round_1 15 91 (.goto (-85)) 3 rfl) (by decide) ?_
                exact mp_cut h ⟨Or.inr rfl, Or.inr rfl, Or.inr rfl, Or.inr rfl, Or.inr rfl, Or.inr rfl, trivial⟩
              · replace h := h.2 hc
                refine mp_iconst (dz dl_Mod_round_1 10 81 (.iconst (1)) 1 rfl) (v := (1 : Int32)) (by decide) ?_
                refine mp_goto (tgt := 86) (dz dl_Mod_round_1 11 82 (.goto (4)) 3 rfl) (by decide) ?_
                refine mp_istore (i := 4) (dz dl_Mod_round_1 13 86 (.istore 4) 2 rfl) [qr 1 (some 0), qi l1, qi l2, qi l3, qi (1 : Int32), qi l5] (by decide) rfl ?_
                refine mp_iinc (i := 5) (v := l5 + 1) (dz dl_Mod_round_1 14 88 (.iinc 5 (1)) 3 rfl) rfl (congrArg (fun z => l5 + z) (by decide)) [qr 1 (some 0), qi l1, qi l2, qi l3, qi (1 : Int32), qi (l5 + 1)] (by decide) rfl ?_
                refine mp_goto (tgt := 6) (dz dl_Mod_round_1 15 91 (.goto (-85)) 3 rfl) (by decide) ?_
                exact mp_cut h ⟨Or.inr rfl, Or.inr rfl, Or.inr rfl, Or.inr rfl, Or.inr rfl, Or.inr rfl, trivial⟩

theorem mb_Mod_interest_0 {u : MS} {l1 : Int32} {l2 : Int32} {l3 : Int32} {l4 : Int32} {l5 : Int32} {l6 : Int32} {Z : MS → Prop} (h : mMT M_Mod_entry [qr 1 (some 0), qi l1, qi l3, qi l4] u (mI fun r1 u1 => (r1 < 0 → mWP M_Mod_interest 39 [qr 1 (some 0), qi l1, qi l2, qi l3, qi l4, qi l5, qi l6, qi r1, none, none] [] u1 (mV Z)) ∧ (¬ r1 < 0 → mMT M_Mod_round [qr 1 (some 0), qi r1, qi l2, qi l5] u1 (mI fun r2 u2 => (r2 = 0 → mWP M_Mod_interest 39 [qr 1 (some 0), qi l1, qi l2, qi l3, qi l4, qi l5, qi l6, qi r1, none, none] [] u2 (mV Z)) ∧ (¬ r2 = 0 → mMT M_Mod_nackOut [qr 1 (some 0), qi l1, qi l2, qi l3, qi l4, qi l5] u2 (mV fun u3 => Z u3)))))) : mWP M_Mod_interest 0 [qr 1 (some 0), qi l1, qi l2, qi l3, qi l4, qi l5, qi l6, none, none, none] [] u (mV Z) := by
  refine mp_aload_n (i := 0) (v := qr 1 (some 0)) (dz dl_Mod_interest_0 0 0 (.aload_n 0) 1 rfl) rfl rfl trivial ?_
  refine mp_iload_n (i := 1) (x := l1) (dz dl_Mod_interest_0 1 1 (.iload_n 1) 1 rfl) rfl rfl ?_
  refine mp_iload_n (i := 3) (x := l3) (dz dl_Mod_interest_0 2 2 (.iload_n 3) 1 rfl) rfl rfl ?_
  refine mp_iload (i := 4) (x := l4) (dz dl_Mod_interest_0 3 3 (.iload 4) 2 rfl) rfl ?_
  refine mp_callV [qi l1, qi l3, qi l4] [] (dz dl_Mod_interest_0 4 5 (.invokevirtual 266) 3 rfl) ok_Mod_entry lm_Mod_266 ws_Mod_entry wv_Mod_entry ⟨Nat.le_of_ble_eq_true rfl, Nat.le_of_ble_eq_true rfl⟩ pn_Mod_entry (Nat.le_of_ble_eq_true rfl) (Nat.le_of_ble_eq_true rfl) (Or.inl rfl) (mmono h ?_)
  rintro _ u1 ⟨r1, rfl, h⟩
  show mWP _ _ _ [qi r1] _ _
  refine mp_istore (i := 7) (dz dl_Mod_interest_0 5 8 (.istore 7) 2 rfl) [qr 1 (some 0), qi l1, qi l2, qi l3, qi l4, qi l5, qi l6, qi r1, none, none] (by decide) rfl ?_
  refine mp_iload (i := 7) (x := r1) (dz dl_Mod_interest_0 6 10 (.iload 7) 2 rfl) rfl ?_
  refine mp_if_lt (tgt := 39) (dz dl_Mod_interest_0 7 12 (.ifCond .lt (27)) 3 rfl) (by decide) (fun hc => ?_) (fun hc => ?_)
  · replace h := h.1 hc
    exact mp_cut h ⟨Or.inr rfl, Or.inr rfl, Or.inr rfl, Or.inr rfl, Or.inr rfl, Or.inr rfl, Or.inr rfl, Or.inr rfl, Or.inl rfl, Or.inl rfl, trivial⟩
  · replace h := h.2 hc
    refine mp_aload_n (i := 0) (v := qr 1 (some 0)) (dz dl_Mod_interest_0 8 15 (.aload_n 0) 1 rfl) rfl rfl trivial ?_
    refine mp_iload (i := 7) (x := r1) (dz dl_Mod_interest_0 9 16 (.iload 7) 2 rfl) rfl ?_
    refine mp_iload_n (i := 2) (x := l2) (dz dl_Mod_interest_0 10 18 (.iload_n 2) 1 rfl) rfl rfl ?_
    refine mp_iload (i := 5) (x := l5) (dz dl_Mod_interest_0 11 19 (.iload 5) 2 rfl) rfl ?_
    refine mp_callV [qi r1, qi l2, qi l5] [] (dz dl_Mod_interest_0 12 21 (.invokevirtual 269) 3 rfl) ok_Mod_round lm_Mod_269 ws_Mod_round wv_Mod_round ⟨Nat.le_of_ble_eq_true rfl, Nat.le_of_ble_eq_true rfl⟩ pn_Mod_round (Nat.le_of_ble_eq_true rfl) (Nat.le_of_ble_eq_true rfl) (Or.inl rfl) (mmono h ?_)
    rintro _ u2 ⟨r2, rfl, h⟩
    show mWP _ _ _ [qi r2] _ _
    refine mp_if_eq (tgt := 39) (dz dl_Mod_interest_0 13 24 (.ifCond .eq (15)) 3 rfl) (by decide) (fun hc => ?_) (fun hc => ?_)
    · replace h := h.1 hc
      exact mp_cut h ⟨Or.inr rfl, Or.inr rfl, Or.inr rfl, Or.inr rfl, Or.inr rfl, Or.inr rfl, Or.inr rfl, Or.inr rfl, Or.inl rfl, Or.inl rfl, trivial⟩
    · replace h := h.2 hc
      refine mp_aload_n (i := 0) (v := qr 1 (some 0)) (dz dl_Mod_interest_0 14 27 (.aload_n 0) 1 rfl) rfl rfl trivial ?_
      refine mp_iload_n (i := 1) (x := l1) (dz dl_Mod_interest_0 15 28 (.iload_n 1) 1 rfl) rfl rfl ?_
      refine mp_iload_n (i := 2) (x := l2) (dz dl_Mod_interest_0 16 29 (.iload_n 2) 1 rfl) rfl rfl ?_
      refine mp_iload_n (i := 3) (x := l3) (dz dl_Mod_interest_0 17 30 (.iload_n 3) 1 rfl) rfl rfl ?_
      refine mp_iload (i := 4) (x := l4) (dz dl_Mod_interest_0 18 31 (.iload 4) 2 rfl) rfl ?_
      refine mp_iload (i := 5) (x := l5) (dz dl_Mod_interest_0 19 33 (.iload 5) 2 rfl) rfl ?_
      refine mp_callV [qi l1, qi l2, qi l3, qi l4, qi l5] [] (dz dl_Mod_interest_0 20 35 (.invokevirtual 272) 3 rfl) ok_Mod_nackOut lm_Mod_272 ws_Mod_nackOut wv_Mod_nackOut ⟨Nat.le_of_ble_eq_true rfl, Nat.le_of_ble_eq_true rfl⟩ pn_Mod_nackOut (Nat.le_of_ble_eq_true rfl) (Nat.le_of_ble_eq_true rfl) (Or.inl rfl) (mmono h ?_)
      rintro _ u3 ⟨rfl, h⟩
      show mWP _ _ _ [] _ _
      exact mp_rt none (rt_V rfl (dz dl_Mod_interest_0 21 38 (.return_) 1 rfl)) ⟨rfl, h⟩
theorem mt_Mod_interest {u : MS} {l1 : Int32} {l2 : Int32} {l3 : Int32} {l4 : Int32} {l5 : Int32} {l6 : Int32} {Z : MS → Prop} (h : mMT M_Mod_entry [qr 1 (some 0), qi l1, qi l3, qi l4] u (mI fun r1 u1 => (r1 < 0 → mWP M_Mod_interest 39 [qr 1 (some 0), qi l1, qi l2, qi l3, qi l4, qi l5, qi l6, qi r1, none, none] [] u1 (mV Z)) ∧ (¬ r1 < 0 → mMT M_Mod_round [qr 1 (some 0), qi r1, qi l2, qi l5] u1 (mI fun r2 u2 => (r2 = 0 → mWP M_Mod_interest 39 [qr 1 (some 0), qi l1, qi l2, qi l3, qi l4, qi l5, qi l6, qi r1, none, none] [] u2 (mV Z)) ∧ (¬ r2 = 0 → mMT M_Mod_nackOut [qr 1 (some 0), qi l1, qi l2, qi l3, qi l4, qi l5] u2 (mV fun u3 => Z u3)))))) : mMT M_Mod_interest [qr 1 (some 0), qi l1, qi l2, qi l3, qi l4, qi l5, qi l6] u (mV Z) := mb_Mod_interest_0 h

theorem mb_Mod_interest_39 {u : MS} {l1 : Int32} {l2 : Int32} {l3 : Int32} {l4 : Int32} {l5 : Int32} {l6 : Int32} {l7 : Int32} {Z : MS → Prop} (h : mMT M_Mod_served [qr 1 (some 0), qi l1, qi l3, qi l4] u (mI fun r1 u1 => (r1 < 0 → (0 ≤ l7 → (l7 < 0 → (0 ≤ l7 → mWP M_Mod_interest 189 [qr 1 (some 0), qi l1, qi l2, qi l3, qi l4, qi l5, qi l6, qi l7, none, qi (1 : Int32)] [] u1 (mV Z)) ∧ (¬ 0 ≤ l7 → mMT M_Mod_newEntry [qr 1 (some 0), qi l1, qi l3, qi l4] u1 (mI fun r2 u2 => mWP M_Mod_interest 189 [qr 1 (some 0), qi l1, qi l2, qi l3, qi l4, qi l5, qi l6, qi r2, none, qi (1 : Int32)] [] u2 (mV Z)))) ∧ (¬ l7 < 0 → vp_in (((5 : Int32) * l7) + l2) 150 ∧ ((u1 96 (((5 : Int32) * l7) + l2).toNatClampNeg) ≤ 0 → (0 ≤ l7 → mWP M_Mod_interest 189 [qr 1 (some 0), qi l1, qi l2, qi l3, qi l4, qi l5, qi l6, qi l7, none, qi (0 : Int32)] [] u1 (mV Z)) ∧ (¬ 0 ≤ l7 → mMT M_Mod_newEntry [qr 1 (some 0), qi l1, qi l3, qi l4] u1 (mI fun r3 u3 => mWP M_Mod_interest 189 [qr 1 (some 0), qi l1, qi l2, qi l3, qi l4, qi l5, qi l6, qi r3, none, qi (0 : Int32)] [] u3 (mV Z)))) ∧ (¬ (u1 96 (((5 : Int32) * l7) + l2).toNatClampNeg) ≤ 0 → (0 ≤ l7 → mWP M_Mod_interest 189 [qr 1 (some 0), qi l1, qi l2, qi l3, qi l4, qi l5, qi l6, qi l7, none, qi (1 : Int32)] [] u1 (mV Z)) ∧ (¬ 0 ≤ l7 → mMT M_Mod_newEntry [qr 1 (some 0), qi l1, qi l3, qi l4] u1 (mI fun r4 u4 => mWP M_Mod_interest 189 [qr 1 (some 0), qi l1, qi l2, qi l3, qi l4, qi l5, qi l6, qi r4, none, qi (1 : Int32)] [] u4 (mV Z)))))) ∧ (¬ 0 ≤ l7 → vp_in l1 5 ∧ (¬ (u1 92 l1.toNatClampNeg) = (u1 65 0) → (l7 < 0 → (0 ≤ l7 → mWP M_Mod_interest 189 [qr 1 (some 0), qi l1, qi l2, qi l3, qi l4, qi l5, qi l6, qi l7, none, qi (1 : Int32)] [] u1 (mV Z)) ∧ (¬ 0 ≤ l7 → mMT M_Mod_newEntry [qr 1 (some 0), qi l1, qi l3, qi l4] u1 (mI fun r5 u5 => mWP M_Mod_interest 189 [qr 1 (some 0), qi l1, qi l2, qi l3, qi l4, qi l5, qi l6, qi r5, none, qi (1 : Int32)] [] u5 (mV Z)))) ∧ (¬ l7 < 0 → vp_in (((5 : Int32) * l7) + l2) 150 ∧ ((u1 96 (((5 : Int32) * l7) + l2).toNatClampNeg) ≤ 0 → (0 ≤ l7 → mWP M_Mod_interest 189 [qr 1 (some 0), qi l1, qi l2, qi l3, qi l4, qi l5, qi l6, qi l7, none, qi (0 : Int32)] [] u1 (mV Z)) ∧ (¬ 0 ≤ l7 → mMT M_Mod_newEntry [qr 1 (some 0), qi l1, qi l3, qi l4] u1 (mI fun r6 u6 => mWP M_Mod_interest 189 [qr 1 (some 0), qi l1, qi l2, qi l3, qi l4, qi l5, qi l6, qi r6, none, qi (0 : Int32)] [] u6 (mV Z)))) ∧ (¬ (u1 96 (((5 : Int32) * l7) + l2).toNatClampNeg) ≤ 0 → (0 ≤ l7 → mWP M_Mod_interest 189 [qr 1 (some 0), qi l1, qi l2, qi l3, qi l4, qi l5, qi l6, qi l7, none, qi (1 : Int32)] [] u1 (mV Z)) ∧ (¬ 0 ≤ l7 → mMT M_Mod_newEntry [qr 1 (some 0), qi l1, qi l3, qi l4] u1 (mI fun r7 u7 => mWP M_Mod_interest 189 [qr 1 (some 0), qi l1, qi l2, qi l3, qi l4, qi l5, qi l6, qi r7, none, qi (1 : Int32)] [] u7 (mV Z)))))) ∧ ((u1 92 l1.toNatClampNeg) = (u1 65 0) → mMT M_Mod_nackOut [qr 1 (some 0), qi l1, qi l2, qi l3, qi l4, qi l5] u1 (mV fun u8 => Z u8)))) ∧ (¬ r1 < 0 → (¬ l2 = (4 : Int32) → vp_in r1 30 ∧ mMT M_Mod_put [qr 1 (some 0), qi (((4 : Int32) * l1) + l2), qi (1 : Int32), qi (u1 85 r1.toNatClampNeg), qi (u1 86 r1.toNatClampNeg), qi (u1 87 r1.toNatClampNeg), qi (0 : Int32)] u1 (mV fun u9 => Z u9)) ∧ (l2 = (4 : Int32) → vp_in r1 30 ∧ mMT M_Mod_settle [qr 1 (some 0), qi l1, qi l3, qi l4, qi (1 : Int32), qi (u1 85 r1.toNatClampNeg), qi (u1 86 r1.toNatClampNeg)] u1 (mV fun u10 => Z u10))))) : mWP M_Mod_interest 39 [qr 1 (some 0), qi l1, qi l2, qi l3, qi l4, qi l5, qi l6, qi l7, none, none] [] u (mV Z) := by
  refine mp_aload_n (i := 0) (v := qr 1 (some 0)) (dz dl_Mod_interest_0 22 39 (.aload_n 0) 1 rfl) rfl rfl trivial ?_
  refine mp_iload_n (i := 1) (x := l1) (dz dl_Mod_interest_0 23 40 (.iload_n 1) 1 rfl) rfl rfl ?_
  refine mp_iload_n (i := 3) (x := l3) (dz dl_Mod_interest_0 24 41 (.iload_n 3) 1 rfl) rfl rfl ?_
  refine mp_iload (i := 4) (x := l4) (dz dl_Mod_interest_0 25 42 (.iload 4) 2 rfl) rfl ?_
  refine mp_callV [qi l1, qi l3, qi l4] [] (dz dl_Mod_interest_0 26 44 (.invokevirtual 275) 3 rfl) ok_Mod_served lm_Mod_275 ws_Mod_served wv_Mod_served ⟨Nat.le_of_ble_eq_true rfl, Nat.le_of_ble_eq_true rfl⟩ pn_Mod_served (Nat.le_of_ble_eq_true rfl) (Nat.le_of_ble_eq_true rfl) (Or.inl rfl) (mmono h ?_)
  rintro _ u1 ⟨r1, rfl, h⟩
  show mWP _ _ _ [qi r1] _ _
  refine mp_istore (i := 8) (dz dl_Mod_interest_0 27 47 (.istore 8) 2 rfl) [qr 1 (some 0), qi l1, qi l2, qi l3, qi l4, qi l5, qi l6, qi l7, qi r1, none] (by decide) rfl ?_
  refine mp_iload (i := 8) (x := r1) (dz dl_Mod_interest_0 28 49 (.iload 8) 2 rfl) rfl ?_
  refine mp_if_lt (tgt := 118) (dz dl_Mod_interest_0 29 51 (.ifCond .lt (67)) 3 rfl) (by decide) (fun hc => ?_) (fun hc => ?_)
  · replace h := h.1 hc
    refine mp_iload (i := 7) (x := l7) (dz dl_Mod_interest_1 30 118 (.iload 7) 2 rfl) rfl ?_
    refine mp_if_ge (tgt := 148) (dz dl_Mod_interest_1 31 120 (.ifCond .ge (28)) 3 rfl) (by decide) (fun hc => ?_) (fun hc => ?_)
    · replace h := h.1 hc
      refine mp_iload (i := 7) (x := l7) (dz dl_Mod_interest_2 7 148 (.iload 7) 2 rfl) rfl ?_
      refine mp_if_lt (tgt := 167) (dz dl_Mod_interest_2 8 150 (.ifCond .lt (17)) 3 rfl) (by decide) (fun hc => ?_) (fun hc => ?_)
      · replace h := h.1 hc
        refine mp_iconst (dz dl_Mod_interest_2 18 167 (.iconst (1)) 1 rfl) (v := (1 : Int32)) (by decide) ?_
        refine mp_goto (tgt := 172) (dz dl_Mod_interest_2 19 168 (.goto (4)) 3 rfl) (by decide) ?_
        refine mp_istore (i := 9) (dz dl_Mod_interest_2 21 172 (.istore 9) 2 rfl) [qr 1 (some 0), qi l1, qi l2, qi l3, qi l4, qi l5, qi l6, qi l7, qi r1, qi (1 : Int32)] (by decide) rfl ?_
        refine mp_iload (i := 7) (x := l7) (dz dl_Mod_interest_2 22 174 (.iload 7) 2 rfl) rfl ?_
        refine mp_if_ge (tgt := 189) (dz dl_Mod_interest_2 23 176 (.ifCond .ge (13)) 3 rfl) (by decide) (fun hc => ?_) (fun hc => ?_)
        · replace h := h.1 hc
          exact mp_cut h ⟨Or.inr rfl, Or.inr rfl, Or.inr rfl, Or.inr rfl, Or.inr rfl, Or.inr rfl, Or.inr rfl, Or.inr rfl, Or.inl rfl, Or.inr rfl, trivial⟩
        · replace h := h.2 hc
          refine mp_aload_n (i := 0) (v := qr 1 (some 0)) (dz dl_Mod_interest_2 24 179 (.aload_n 0) 1 rfl) rfl rfl trivial ?_
          refine mp_iload_n (i := 1) (x := l1) (dz dl_Mod_interest_2 25 180 (.iload_n 1) 1 rfl) rfl rfl ?_
          refine mp_iload_n (i := 3) (x := l3) (dz dl_Mod_interest_2 26 181 (.iload_n 3) 1 rfl) rfl rfl ?_
          refine mp_iload (i := 4) (x := l4) (dz dl_Mod_interest_2 27 182 (.iload 4) 2 rfl) rfl ?_
          refine mp_callV [qi l1, qi l3, qi l4] [] (dz dl_Mod_interest_2 28 184 (.invokevirtual 278) 3 rfl) ok_Mod_newEntry lm_Mod_278 ws_Mod_newEntry wv_Mod_newEntry ⟨Nat.le_of_ble_eq_true rfl, Nat.le_of_ble_eq_true rfl⟩ pn_Mod_newEntry (Nat.le_of_ble_eq_true rfl) (Nat.le_of_ble_eq_true rfl) (Or.inl rfl) (mmono h ?_)
          rintro _ u2 ⟨r2, rfl, h⟩
          show mWP _ _ _ [qi r2] _ _
          refine mp_istore (i := 7) (dz dl_Mod_interest_2 29 187 (.istore 7) 2 rfl) [qr 1 (some 0), qi l1, qi l2, qi l3, qi l4, qi l5, qi l6, qi r2, qi r1, qi (1 : Int32)] (by decide) rfl ?_
          exact mp_cut h ⟨Or.inr rfl, Or.inr rfl, Or.inr rfl, Or.inr rfl, Or.inr rfl, Or.inr rfl, Or.inr rfl, Or.inr rfl, Or.inl rfl, Or.inr rfl, trivial⟩
      · replace h := h.2 hc
        refine mp_aload_n (i := 0) (v := qr 1 (some 0)) (dz dl_Mod_interest_2 9 153 (.aload_n 0) 1 rfl) rfl rfl trivial ?_
        refine mp_getA (dz dl_Mod_interest_2 10 154 (.getfield 91) 3 rfl) lk_Mod_91 (q := 0) kd_96 rfl sm_96 ?_
        refine mp_iconst (dz dl_Mod_interest_2 11 157 (.iconst (5)) 1 rfl) (v := (5 : Int32)) (by decide) ?_
        refine mp_iload (i := 7) (x := l7) (dz dl_Mod_interest_2 12 158 (.iload 7) 2 rfl) rfl ?_
        refine mp_imul (dz dl_Mod_interest_2 13 160 (.imul) 1 rfl) ?_
        refine mp_iload_n (i := 2) (x := l2) (dz dl_Mod_interest_2 14 161 (.iload_n 2) 1 rfl) rfl rfl ?_
        refine mp_iadd (dz dl_Mod_interest_2 15 162 (.iadd) 1 rfl) ?_
        obtain ⟨i1, h⟩ := h
        refine mp_iald (dz dl_Mod_interest_2 16 163 (.iaload) 1 rfl) kd_96 rfl sm_96 i1 ?_
        refine mp_if_le (tgt := 171) (dz dl_Mod_interest_2 17 164 (.ifCond .le (7)) 3 rfl) (by decide) (fun hc => ?_) (fun hc => ?_)
        · replace h := h.1 hc
          refine mp_iconst (dz dl_Mod_interest_2 20 171 (.iconst (0)) 1 rfl) (v := (0 : Int32)) (by decide) ?_
          refine mp_istore (i := 9) (dz dl_Mod_interest_2 21 172 (.istore 9) 2 rfl) [qr 1 (some 0), qi l1, qi l2, qi l3, qi l4, qi l5, qi l6, qi l7, qi r1, qi (0 : Int32)] (by decide) rfl ?_
          refine mp_iload (i := 7) (x := l7) (dz dl_Mod_interest_2 22 174 (.iload 7) 2 rfl) rfl ?_
          refine mp_if_ge (tgt := 189) (dz dl_Mod_interest_2 23 176 (.ifCond .ge (13)) 3 rfl) (by decide) (fun hc => ?_) (fun hc => ?_)
          · replace h := h.1 hc
            exact mp_cut h ⟨Or.inr rfl, Or.inr rfl, Or.inr rfl, Or.inr rfl, Or.inr rfl, Or.inr rfl, Or.inr rfl, Or.inr rfl, Or.inl rfl, Or.inr rfl, trivial⟩
          · replace h := h.2 hc
            refine mp_aload_n (i := 0) (v := qr 1 (some 0)) (dz dl_Mod_interest_2 24 179 (.aload_n 0) 1 rfl) rfl rfl trivial ?_
            refine mp_iload_n (i := 1) (x := l1) (dz dl_Mod_interest_2 25 180 (.iload_n 1) 1 rfl) rfl rfl ?_
            refine mp_iload_n (i := 3) (x := l3) (dz dl_Mod_interest_2 26 181 (.iload_n 3) 1 rfl) rfl rfl ?_
            refine mp_iload (i := 4) (x := l4) (dz dl_Mod_interest_2 27 182 (.iload 4) 2 rfl) rfl ?_
            refine mp_callV [qi l1, qi l3, qi l4] [] (dz dl_Mod_interest_2 28 184 (.invokevirtual 278) 3 rfl) ok_Mod_newEntry lm_Mod_278 ws_Mod_newEntry wv_Mod_newEntry ⟨Nat.le_of_ble_eq_true rfl, Nat.le_of_ble_eq_true rfl⟩ pn_Mod_newEntry (Nat.le_of_ble_eq_true rfl) (Nat.le_of_ble_eq_true rfl) (Or.inl rfl) (mmono h ?_)
            rintro _ u3 ⟨r3, rfl, h⟩
            show mWP _ _ _ [qi r3] _ _
            refine mp_istore (i := 7) (dz dl_Mod_interest_2 29 187 (.istore 7) 2 rfl) [qr 1 (some 0), qi l1, qi l2, qi l3, qi l4, qi l5, qi l6, qi r3, qi r1, qi (0 : Int32)] (by decide) rfl ?_
            exact mp_cut h ⟨Or.inr rfl, Or.inr rfl, Or.inr rfl, Or.inr rfl, Or.inr rfl, Or.inr rfl, Or.inr rfl, Or.inr rfl, Or.inl rfl, Or.inr rfl, trivial⟩
        · replace h := h.2 hc
          refine mp_iconst (dz dl_Mod_interest_2 18 167 (.iconst (1)) 1 rfl) (v := (1 : Int32)) (by decide) ?_
          refine mp_goto (tgt := 172) (dz dl_Mod_interest_2 19 168 (.goto (4)) 3 rfl) (by decide) ?_
          refine mp_istore (i := 9) (dz dl_Mod_interest_2 21 172 (.istore 9) 2 rfl) [qr 1 (some 0), qi l1, qi l2, qi l3, qi l4, qi l5, qi l6, qi l7, qi r1, qi (1 : Int32)] (by decide) rfl ?_
          refine mp_iload (i := 7) (x := l7) (dz dl_Mod_interest_2 22 174 (.iload 7) 2 rfl) rfl ?_
          refine mp_if_ge (tgt := 189) (dz dl_Mod_interest_2 23 176 (.ifCond .ge (13)) 3 rfl) (by decide) (fun hc => ?_) (fun hc => ?_)
          · replace h := h.1 hc
            exact mp_cut h ⟨Or.inr rfl, Or.inr rfl, Or.inr rfl, Or.inr rfl, Or.inr rfl, Or.inr rfl, Or.inr rfl, Or.inr rfl, Or.inl rfl, Or.inr rfl, trivial⟩
          · replace h := h.2 hc
            refine mp_aload_n (i := 0) (v := qr 1 (some 0)) (dz dl_Mod_interest_2 24 179 (.aload_n 0) 1 rfl) rfl rfl trivial ?_
            refine mp_iload_n (i := 1) (x := l1) (dz dl_Mod_interest_2 25 180 (.iload_n 1) 1 rfl) rfl rfl ?_
            refine mp_iload_n (i := 3) (x := l3) (dz dl_Mod_interest_2 26 181 (.iload_n 3) 1 rfl) rfl rfl ?_
            refine mp_iload (i := 4) (x := l4) (dz dl_Mod_interest_2 27 182 (.iload 4) 2 rfl) rfl ?_
            refine mp_callV [qi l1, qi l3, qi l4] [] (dz dl_Mod_interest_2 28 184 (.invokevirtual 278) 3 rfl) ok_Mod_newEntry lm_Mod_278 ws_Mod_newEntry wv_Mod_newEntry ⟨Nat.le_of_ble_eq_true rfl, Nat.le_of_ble_eq_true rfl⟩ pn_Mod_newEntry (Nat.le_of_ble_eq_true rfl) (Nat.le_of_ble_eq_true rfl) (Or.inl rfl) (mmono h ?_)
            rintro _ u4 ⟨r4, rfl, h⟩
            show mWP _ _ _ [qi r4] _ _
            refine mp_istore (i := 7) (dz dl_Mod_interest_2 29 187 (.istore 7) 2 rfl) [qr 1 (some 0), qi l1, qi l2, qi l3, qi l4, qi l5, qi l6, qi r4, qi r1, qi (1 : Int32)] (by decide) rfl ?_
            exact mp_cut h ⟨Or.inr rfl, Or.inr rfl, Or.inr rfl, Or.inr rfl, Or.inr rfl, Or.inr rfl, Or.inr rfl, Or.inr rfl, Or.inl rfl, Or.inr rfl, trivial⟩
    · replace h := h.2 hc
      refine mp_aload_n (i := 0) (v := qr 1 (some 0)) (dz dl_Mod_interest_1 32 123 (.aload_n 0) 1 rfl) rfl rfl trivial ?_
      refine mp_getA (dz dl_Mod_interest_1 33 124 (.getfield 79) 3 rfl) lk_Mod_79 (q := 0) kd_92 rfl sm_92 ?_
      refine mp_iload_n (i := 1) (x := l1) (dz dl_Mod_interest_1 34 127 (.iload_n 1) 1 rfl) rfl rfl ?_
      obtain ⟨i2, h⟩ := h
      refine mp_iald (dz dl_Mod_interest_1 35 128 (.iaload) 1 rfl) kd_92 rfl sm_92 i2 ?_
      refine mp_aload_n (i := 0) (v := qr 1 (some 0)) (dz dl_Mod_interest_1 36 129 (.aload_n 0) 1 rfl) rfl rfl trivial ?_
      refine mp_getI (dz dl_Mod_interest_1 37 130 (.getfield 155) 3 rfl) lk_Mod_155 kd_65 rfl ?_
      refine mp_icmp_ne (tgt := 148) (dz dl_Mod_interest_1 38 133 (.if_icmp .ne (15)) 3 rfl) (by decide) (fun hc => ?_) (fun hc => ?_)
      · replace h := h.1 hc
        refine mp_iload (i := 7) (x := l7) (dz dl_Mod_interest_2 7 148 (.iload 7) 2 rfl) rfl ?_
        refine mp_if_lt (tgt := 167) (dz dl_Mod_interest_2 8 150 (.ifCond .lt (17)) 3 rfl) (by decide) (fun hc => ?_) (fun hc => ?_)
        · replace h := h.1 hc
          refine mp_iconst (dz dl_Mod_interest_2 18 167 (.iconst (1)) 1 rfl) (v := (1 : Int32)) (by decide) ?_
          refine mp_goto (tgt := 172) (dz dl_Mod_interest_2 19 168 (.goto (4)) 3 rfl) (by decide) ?_
          refine mp_istore (i := 9) (dz dl_Mod_interest_2 21 172 (.istore 9) 2 rfl) [qr 1 (some 0), qi l1, qi l2, qi l3, qi l4, qi l5, qi l6, qi l7, qi r1, qi (1 : Int32)] (by decide) rfl ?_
          refine mp_iload (i := 7) (x := l7) (dz dl_Mod_interest_2 22 174 (.iload 7) 2 rfl) rfl ?_
          refine mp_if_ge (tgt := 189) (dz dl_Mod_interest_2 23 176 (.ifCond .ge (13)) 3 rfl) (by decide) (fun hc => ?_) (fun hc => ?_)
          · replace h := h.1 hc
            exact mp_cut h ⟨Or.inr rfl, Or.inr rfl, Or.inr rfl, Or.inr rfl, Or.inr rfl, Or.inr rfl, Or.inr rfl, Or.inr rfl, Or.inl rfl, Or.inr rfl, trivial⟩
          · replace h := h.2 hc
            refine mp_aload_n (i := 0) (v := qr 1 (some 0)) (dz dl_Mod_interest_2 24 179 (.aload_n 0) 1 rfl) rfl rfl trivial ?_
            refine mp_iload_n (i := 1) (x := l1) (dz dl_Mod_interest_2 25 180 (.iload_n 1) 1 rfl) rfl rfl ?_
            refine mp_iload_n (i := 3) (x := l3) (dz dl_Mod_interest_2 26 181 (.iload_n 3) 1 rfl) rfl rfl ?_
            refine mp_iload (i := 4) (x := l4) (dz dl_Mod_interest_2 27 182 (.iload 4) 2 rfl) rfl ?_
            refine mp_callV [qi l1, qi l3, qi l4] [] (dz dl_Mod_interest_2 28 184 (.invokevirtual 278) 3 rfl) ok_Mod_newEntry lm_Mod_278 ws_Mod_newEntry wv_Mod_newEntry ⟨Nat.le_of_ble_eq_true rfl, Nat.le_of_ble_eq_true rfl⟩ pn_Mod_newEntry (Nat.le_of_ble_eq_true rfl) (Nat.le_of_ble_eq_true rfl) (Or.inl rfl) (mmono h ?_)
            rintro _ u5 ⟨r5, rfl, h⟩
            show mWP _ _ _ [qi r5] _ _
            refine mp_istore (i := 7) (dz dl_Mod_interest_2 29 187 (.istore 7) 2 rfl) [qr 1 (some 0), qi l1, qi l2, qi l3, qi l4, qi l5, qi l6, qi r5, qi r1, qi (1 : Int32)] (by decide) rfl ?_
            exact mp_cut h ⟨Or.inr rfl, Or.inr rfl, Or.inr rfl, Or.inr rfl, Or.inr rfl, Or.inr rfl, Or.inr rfl, Or.inr rfl, Or.inl rfl, Or.inr rfl, trivial⟩
        · replace h := h.2 hc
          refine mp_aload_n (i := 0) (v := qr 1 (some 0)) (dz dl_Mod_interest_2 9 153 (.aload_n 0) 1 rfl) rfl rfl trivial ?_
          refine mp_getA (dz dl_Mod_interest_2 10 154 (.getfield 91) 3 rfl) lk_Mod_91 (q := 0) kd_96 rfl sm_96 ?_
          refine mp_iconst (dz dl_Mod_interest_2 11 157 (.iconst (5)) 1 rfl) (v := (5 : Int32)) (by decide) ?_
          refine mp_iload (i := 7) (x := l7) (dz dl_Mod_interest_2 12 158 (.iload 7) 2 rfl) rfl ?_
          refine mp_imul (dz dl_Mod_interest_2 13 160 (.imul) 1 rfl) ?_
          refine mp_iload_n (i := 2) (x := l2) (dz dl_Mod_interest_2 14 161 (.iload_n 2) 1 rfl) rfl rfl ?_
          refine mp_iadd (dz dl_Mod_interest_2 15 162 (.iadd) 1 rfl) ?_
          obtain ⟨i3, h⟩ := h
          refine mp_iald (dz dl_Mod_interest_2 16 163 (.iaload) 1 rfl) kd_96 rfl sm_96 i3 ?_
          refine mp_if_le (tgt := 171) (dz dl_Mod_interest_2 17 164 (.ifCond .le (7)) 3 rfl) (by decide) (fun hc => ?_) (fun hc => ?_)
          · replace h := h.1 hc
            refine mp_iconst (dz dl_Mod_interest_2 20 171 (.iconst (0)) 1 rfl) (v := (0 : Int32)) (by decide) ?_
            refine mp_istore (i := 9) (dz dl_Mod_interest_2 21 172 (.istore 9) 2 rfl) [qr 1 (some 0), qi l1, qi l2, qi l3, qi l4, qi l5, qi l6, qi l7, qi r1, qi (0 : Int32)] (by decide) rfl ?_
            refine mp_iload (i := 7) (x := l7) (dz dl_Mod_interest_2 22 174 (.iload 7) 2 rfl) rfl ?_
            refine mp_if_ge (tgt := 189) (dz dl_Mod_interest_2 23 176 (.ifCond .ge (13)) 3 rfl) (by decide) (fun hc => ?_) (fun hc => ?_)
            · replace h := h.1 hc
              exact mp_cut h ⟨Or.inr rfl, Or.inr rfl, Or.inr rfl, Or.inr rfl, Or.inr rfl, Or.inr rfl, Or.inr rfl, Or.inr rfl, Or.inl rfl, Or.inr rfl, trivial⟩
            · replace h := h.2 hc
              refine mp_aload_n (i := 0) (v := qr 1 (some 0)) (dz dl_Mod_interest_2 24 179 (.aload_n 0) 1 rfl) rfl rfl trivial ?_
              refine mp_iload_n (i := 1) (x := l1) (dz dl_Mod_interest_2 25 180 (.iload_n 1) 1 rfl) rfl rfl ?_
              refine mp_iload_n (i := 3) (x := l3) (dz dl_Mod_interest_2 26 181 (.iload_n 3) 1 rfl) rfl rfl ?_
              refine mp_iload (i := 4) (x := l4) (dz dl_Mod_interest_2 27 182 (.iload 4) 2 rfl) rfl ?_
              refine mp_callV [qi l1, qi l3, qi l4] [] (dz dl_Mod_interest_2 28 184 (.invokevirtual 278) 3 rfl) ok_Mod_newEntry lm_Mod_278 ws_Mod_newEntry wv_Mod_newEntry ⟨Nat.le_of_ble_eq_true rfl, Nat.le_of_ble_eq_true rfl⟩ pn_Mod_newEntry (Nat.le_of_ble_eq_true rfl) (Nat.le_of_ble_eq_true rfl) (Or.inl rfl) (mmono h ?_)
              rintro _ u6 ⟨r6, rfl, h⟩
              show mWP _ _ _ [qi r6] _ _
              refine mp_istore (i := 7) (dz dl_Mod_interest_2 29 187 (.istore 7) 2 rfl) [qr 1 (some 0), qi l1, qi l2, qi l3, qi l4, qi l5, qi l6, qi r6, qi r1, qi (0 : Int32)] (by decide) rfl ?_
              exact mp_cut h ⟨Or.inr rfl, Or.inr rfl, Or.inr rfl, Or.inr rfl, Or.inr rfl, Or.inr rfl, Or.inr rfl, Or.inr rfl, Or.inl rfl, Or.inr rfl, trivial⟩
          · replace h := h.2 hc
            refine mp_iconst (dz dl_Mod_interest_2 18 167 (.iconst (1)) 1 rfl) (v := (1 : Int32)) (by decide) ?_
            refine mp_goto (tgt := 172) (dz dl_Mod_interest_2 19 168 (.goto (4)) 3 rfl) (by decide) ?_
            refine mp_istore (i := 9) (dz dl_Mod_interest_2 21 172 (.istore 9) 2 rfl) [qr 1 (some 0), qi l1, qi l2, qi l3, qi l4, qi l5, qi l6, qi l7, qi r1, qi (1 : Int32)] (by decide) rfl ?_
            refine mp_iload (i := 7) (x := l7) (dz dl_Mod_interest_2 22 174 (.iload 7) 2 rfl) rfl ?_
            refine mp_if_ge (tgt := 189) (dz dl_Mod_interest_2 23 176 (.ifCond .ge (13)) 3 rfl) (by decide) (fun hc => ?_) (fun hc => ?_)
            · replace h := h.1 hc
              exact mp_cut h ⟨Or.inr rfl, Or.inr rfl, Or.inr rfl, Or.inr rfl, Or.inr rfl, Or.inr rfl, Or.inr rfl, Or.inr rfl, Or.inl rfl, Or.inr rfl, trivial⟩
            · replace h := h.2 hc
              refine mp_aload_n (i := 0) (v := qr 1 (some 0)) (dz dl_Mod_interest_2 24 179 (.aload_n 0) 1 rfl) rfl rfl trivial ?_
              refine mp_iload_n (i := 1) (x := l1) (dz dl_Mod_interest_2 25 180 (.iload_n 1) 1 rfl) rfl rfl ?_
              refine mp_iload_n (i := 3) (x := l3) (dz dl_Mod_interest_2 26 181 (.iload_n 3) 1 rfl) rfl rfl ?_
              refine mp_iload (i := 4) (x := l4) (dz dl_Mod_interest_2 27 182 (.iload 4) 2 rfl) rfl ?_
              refine mp_callV [qi l1, qi l3, qi l4] [] (dz dl_Mod_interest_2 28 184 (.invokevirtual 278) 3 rfl) ok_Mod_newEntry lm_Mod_278 ws_Mod_newEntry wv_Mod_newEntry ⟨Nat.le_of_ble_eq_true rfl, Nat.le_of_ble_eq_true rfl⟩ pn_Mod_newEntry (Nat.le_of_ble_eq_true rfl) (Nat.le_of_ble_eq_true rfl) (Or.inl rfl) (mmono h ?_)
              rintro _ u7 ⟨r7, rfl, h⟩
              show mWP _ _ _ [qi r7] _ _
              refine mp_istore (i := 7) (dz dl_Mod_interest_2 29 187 (.istore 7) 2 rfl) [qr 1 (some 0), qi l1, qi l2, qi l3, qi l4, qi l5, qi l6, qi r7, qi r1, qi (1 : Int32)] (by decide) rfl ?_
              exact mp_cut h ⟨Or.inr rfl, Or.inr rfl, Or.inr rfl, Or.inr rfl, Or.inr rfl, Or.inr rfl, Or.inr rfl, Or.inr rfl, Or.inl rfl, Or.inr rfl, trivial⟩
      · replace h := h.2 hc
        refine mp_aload_n (i := 0) (v := qr 1 (some 0)) (dz dl_Mod_interest_1 39 136 (.aload_n 0) 1 rfl) rfl rfl trivial ?_
        refine mp_iload_n (i := 1) (x := l1) (dz dl_Mod_interest_2 0 137 (.iload_n 1) 1 rfl) rfl rfl ?_
        refine mp_iload_n (i := 2) (x := l2) (dz dl_Mod_interest_2 1 138 (.iload_n 2) 1 rfl) rfl rfl ?_
        refine mp_iload_n (i := 3) (x := l3) (dz dl_Mod_interest_2 2 139 (.iload_n 3) 1 rfl) rfl rfl ?_
        refine mp_iload (i := 4) (x := l4) (dz dl_Mod_interest_2 3 140 (.iload 4) 2 rfl) rfl ?_
        refine mp_iload (i := 5) (x := l5) (dz dl_Mod_interest_2 4 142 (.iload 5) 2 rfl) rfl ?_
        refine mp_callV [qi l1, qi l2, qi l3, qi l4, qi l5] [] (dz dl_Mod_interest_2 5 144 (.invokevirtual 272) 3 rfl) ok_Mod_nackOut lm_Mod_272 ws_Mod_nackOut wv_Mod_nackOut ⟨Nat.le_of_ble_eq_true rfl, Nat.le_of_ble_eq_true rfl⟩ pn_Mod_nackOut (Nat.le_of_ble_eq_true rfl) (Nat.le_of_ble_eq_true rfl) (Or.inl rfl) (mmono h ?_)
        rintro _ u8 ⟨rfl, h⟩
        show mWP _ _ _ [] _ _
        exact mp_rt none (rt_V rfl (dz dl_Mod_interest_2 6 147 (.return_) 1 rfl)) ⟨rfl, h⟩
  · replace h := h.2 hc
    refine mp_iload_n (i := 2) (x := l2) (dz dl_Mod_interest_0 30 54 (.iload_n 2) 1 rfl) rfl rfl ?_
    refine mp_iconst (dz dl_Mod_interest_0 31 55 (.iconst (4)) 1 rfl) (v := (4 : Int32)) (by decide) ?_
    refine mp_icmp_ne (tgt := 85) (dz dl_Mod_interest_0 32 56 (.if_icmp .ne (29)) 3 rfl) (by decide) (fun hc => ?_) (fun hc => ?_)
    · replace h := h.1 hc
      refine mp_aload_n (i := 0) (v := qr 1 (some 0)) (dz dl_Mod_interest_1 8 85 (.aload_n 0) 1 rfl) rfl rfl trivial ?_
      refine mp_iconst (dz dl_Mod_interest_1 9 86 (.iconst (4)) 1 rfl) (v := (4 : Int32)) (by decide) ?_
      refine mp_iload_n (i := 1) (x := l1) (dz dl_Mod_interest_1 10 87 (.iload_n 1) 1 rfl) rfl rfl ?_
      refine mp_imul (dz dl_Mod_interest_1 11 88 (.imul) 1 rfl) ?_
      refine mp_iload_n (i := 2) (x := l2) (dz dl_Mod_interest_1 12 89 (.iload_n 2) 1 rfl) rfl rfl ?_
      refine mp_iadd (dz dl_Mod_interest_1 13 90 (.iadd) 1 rfl) ?_
      refine mp_iconst (dz dl_Mod_interest_1 14 91 (.iconst (1)) 1 rfl) (v := (1 : Int32)) (by decide) ?_
      refine mp_aload_n (i := 0) (v := qr 1 (some 0)) (dz dl_Mod_interest_1 15 92 (.aload_n 0) 1 rfl) rfl rfl trivial ?_
      refine mp_getA (dz dl_Mod_interest_1 16 93 (.getfield 58) 3 rfl) lk_Mod_58 (q := 0) kd_85 rfl sm_85 ?_
      refine mp_iload (i := 8) (x := r1) (dz dl_Mod_interest_1 17 96 (.iload 8) 2 rfl) rfl ?_
      obtain ⟨i4, h⟩ := h
      refine mp_iald (dz dl_Mod_interest_1 18 98 (.iaload) 1 rfl) kd_85 rfl sm_85 i4 ?_
      refine mp_aload_n (i := 0) (v := qr 1 (some 0)) (dz dl_Mod_interest_1 19 99 (.aload_n 0) 1 rfl) rfl rfl trivial ?_
      refine mp_getA (dz dl_Mod_interest_1 20 100 (.getfield 61) 3 rfl) lk_Mod_61 (q := 0) kd_86 rfl sm_86 ?_
      refine mp_iload (i := 8) (x := r1) (dz dl_Mod_interest_1 21 103 (.iload 8) 2 rfl) rfl ?_
      refine mp_iald (dz dl_Mod_interest_1 22 105 (.iaload) 1 rfl) kd_86 rfl sm_86 i4 ?_
      refine mp_aload_n (i := 0) (v := qr 1 (some 0)) (dz dl_Mod_interest_1 23 106 (.aload_n 0) 1 rfl) rfl rfl trivial ?_
      refine mp_getA (dz dl_Mod_interest_1 24 107 (.getfield 64) 3 rfl) lk_Mod_64 (q := 0) kd_87 rfl sm_87 ?_
      refine mp_iload (i := 8) (x := r1) (dz dl_Mod_interest_1 25 110 (.iload 8) 2 rfl) rfl ?_
      refine mp_iald (dz dl_Mod_interest_1 26 112 (.iaload) 1 rfl) kd_87 rfl sm_87 i4 ?_
      refine mp_iconst (dz dl_Mod_interest_1 27 113 (.iconst (0)) 1 rfl) (v := (0 : Int32)) (by decide) ?_
      refine mp_callV [qi (((4 : Int32) * l1) + l2), qi (1 : Int32), qi (u1 85 r1.toNatClampNeg), qi (u1 86 r1.toNatClampNeg), qi (u1 87 r1.toNatClampNeg), qi (0 : Int32)] [] (dz dl_Mod_interest_1 28 114 (.invokevirtual 216) 3 rfl) ok_Mod_put lm_Mod_216 ws_Mod_put wv_Mod_put ⟨Nat.le_of_ble_eq_true rfl, Nat.le_of_ble_eq_true rfl⟩ pn_Mod_put (Nat.le_of_ble_eq_true rfl) (Nat.le_of_ble_eq_true rfl) (Or.inl rfl) (mmono h ?_)
      rintro _ u9 ⟨rfl, h⟩
      show mWP _ _ _ [] _ _
      exact mp_rt none (rt_V rfl (dz dl_Mod_interest_1 29 117 (.return_) 1 rfl)) ⟨rfl, h⟩
    · replace h := h.2 hc
      refine mp_aload_n (i := 0) (v := qr 1 (some 0)) (dz dl_Mod_interest_0 33 59 (.aload_n 0) 1 rfl) rfl rfl trivial ?_
      refine mp_iload_n (i := 1) (x := l1) (dz dl_Mod_interest_0 34 60 (.iload_n 1) 1 rfl) rfl rfl ?_
      refine mp_iload_n (i := 3) (x := l3) (dz dl_Mod_interest_0 35 61 (.iload_n 3) 1 rfl) rfl rfl ?_
      refine mp_iload (i := 4) (x := l4) (dz dl_Mod_interest_0 36 62 (.iload 4) 2 rfl) rfl ?_
      refine mp_iconst (dz dl_Mod_interest_0 37 64 (.iconst (1)) 1 rfl) (v := (1 : Int32)) (by decide) ?_
      refine mp_aload_n (i := 0) (v := qr 1 (some 0)) (dz dl_Mod_interest_0 38 65 (.aload_n 0) 1 rfl) rfl rfl trivial ?_
      refine mp_getA (dz dl_Mod_interest_0 39 66 (.getfield 58) 3 rfl) lk_Mod_58 (q := 0) kd_85 rfl sm_85 ?_
      refine mp_iload (i := 8) (x := r1) (dz dl_Mod_interest_1 0 69 (.iload 8) 2 rfl) rfl ?_
      obtain ⟨i5, h⟩ := h
      refine mp_iald (dz dl_Mod_interest_1 1 71 (.iaload) 1 rfl) kd_85 rfl sm_85 i5 ?_
      refine mp_aload_n (i := 0) (v := qr 1 (some 0)) (dz dl_Mod_interest_1 2 72 (.aload_n 0) 1 rfl) rfl rfl trivial ?_
      refine mp_getA (dz dl_Mod_interest_1 3 73 (.getfield 61) 3 rfl) lk_Mod_61 (q := 0) kd_86 rfl sm_86 ?_
      refine mp_iload (i := 8) (x := r1) (dz dl_Mod_interest_1 4 76 (.iload 8) 2 rfl) rfl ?_
      refine mp_iald (dz dl_Mod_interest_1 5 78 (.iaload) 1 rfl) kd_86 rfl sm_86 i5 ?_
      refine mp_callV [qi l1, qi l3, qi l4, qi (1 : Int32), qi (u1 85 r1.toNatClampNeg), qi (u1 86 r1.toNatClampNeg)] [] (dz dl_Mod_interest_1 6 79 (.invokevirtual 263) 3 rfl) ok_Mod_settle lm_Mod_263 ws_Mod_settle wv_Mod_settle ⟨Nat.le_of_ble_eq_true rfl, Nat.le_of_ble_eq_true rfl⟩ pn_Mod_settle (Nat.le_of_ble_eq_true rfl) (Nat.le_of_ble_eq_true rfl) (Or.inl rfl) (mmono h ?_)
      rintro _ u10 ⟨rfl, h⟩
      show mWP _ _ _ [] _ _
      refine mp_goto (tgt := 117) (dz dl_Mod_interest_1 7 82 (.goto (35)) 3 rfl) (by decide) ?_
      exact mp_rt none (rt_V rfl (dz dl_Mod_interest_1 29 117 (.return_) 1 rfl)) ⟨rfl, h⟩

theorem mb_Mod_interest_189 {u : MS} {l1 : Int32} {l2 : Int32} {l3 : Int32} {l4 : Int32} {l5 : Int32} {l6 : Int32} {l7 : Int32} {l9 : Int32} {Z : MS → Prop} (h : vp_in (((5 : Int32) * l7) + l2) 150 ∧ ∀ u1, u1 = mu u 96 (((5 : Int32) * l7) + l2).toNatClampNeg (1 : Int32) → ∀ u2, u2 = mu u1 97 (((5 : Int32) * l7) + l2).toNatClampNeg l5 → ∀ u3, u3 = mu u2 98 (((5 : Int32) * l7) + l2).toNatClampNeg ((u2 67 0) + (u2 66 0)) → vp_in l7 30 ∧ ∀ u4, u4 = mu u3 95 l7.toNatClampNeg l6 → (l9 = 0 → Z u4) ∧ (¬ l9 = 0 → mMT M_Mod_passOn [qr 1 (some 0), qi l1, qi l3, qi l4, qi l5, qi l6] u4 (mV fun u5 => Z u5))) : mWP M_Mod_interest 189 [qr 1 (some 0), qi l1, qi l2, qi l3, qi l4, qi l5, qi l6, qi l7, none, qi l9] [] u (mV Z) := by
  refine mp_aload_n (i := 0) (v := qr 1 (some 0)) (dz dl_Mod_interest_2 30 189 (.aload_n 0) 1 rfl) rfl rfl trivial ?_
  refine mp_getA (dz dl_Mod_interest_2 31 190 (.getfield 91) 3 rfl) lk_Mod_91 (q := 0) kd_96 rfl sm_96 ?_
  refine mp_iconst (dz dl_Mod_interest_2 32 193 (.iconst (5)) 1 rfl) (v := (5 : Int32)) (by decide) ?_
  refine mp_iload (i := 7) (x := l7) (dz dl_Mod_interest_2 33 194 (.iload 7) 2 rfl) rfl ?_
  refine mp_imul (dz dl_Mod_interest_2 34 196 (.imul) 1 rfl) ?_
  refine mp_iload_n (i := 2) (x := l2) (dz dl_Mod_interest_2 35 197 (.iload_n 2) 1 rfl) rfl rfl ?_
  refine mp_iadd (dz dl_Mod_interest_2 36 198 (.iadd) 1 rfl) ?_
  refine mp_iconst (dz dl_Mod_interest_2 37 199 (.iconst (1)) 1 rfl) (v := (1 : Int32)) (by decide) ?_
  obtain ⟨i1, h⟩ := h
  have h := h _ rfl
  refine mp_iast (dz dl_Mod_interest_2 38 200 (.iastore) 1 rfl) kd_96 rfl sm_96 i1 rfl ?_
  refine mp_aload_n (i := 0) (v := qr 1 (some 0)) (dz dl_Mod_interest_2 39 201 (.aload_n 0) 1 rfl) rfl rfl trivial ?_
  refine mp_getA (dz dl_Mod_interest_3 0 202 (.getfield 94) 3 rfl) lk_Mod_94 (q := 0) kd_97 rfl sm_97 ?_
  refine mp_iconst (dz dl_Mod_interest_3 1 205 (.iconst (5)) 1 rfl) (v := (5 : Int32)) (by decide) ?_
  refine mp_iload (i := 7) (x := l7) (dz dl_Mod_interest_3 2 206 (.iload 7) 2 rfl) rfl ?_
  refine mp_imul (dz dl_Mod_interest_3 3 208 (.imul) 1 rfl) ?_
  refine mp_iload_n (i := 2) (x := l2) (dz dl_Mod_interest_3 4 209 (.iload_n 2) 1 rfl) rfl rfl ?_
  refine mp_iadd (dz dl_Mod_interest_3 5 210 (.iadd) 1 rfl) ?_
  refine mp_iload (i := 5) (x := l5) (dz dl_Mod_interest_3 6 211 (.iload 5) 2 rfl) rfl ?_
  have h := h _ rfl
  refine mp_iast (dz dl_Mod_interest_3 7 213 (.iastore) 1 rfl) kd_97 rfl sm_97 i1 rfl ?_
  refine mp_aload_n (i := 0) (v := qr 1 (some 0)) (dz dl_Mod_interest_3 8 214 (.aload_n 0) 1 rfl) rfl rfl trivial ?_
  refine mp_getA (dz dl_Mod_interest_3 9 215 (.getfield 97) 3 rfl) lk_Mod_97 (q := 0) kd_98 rfl sm_98 ?_
  refine mp_iconst (dz dl_Mod_interest_3 10 218 (.iconst (5)) 1 rfl) (v := (5 : Int32)) (by decide) ?_
  refine mp_iload (i := 7) (x := l7) (dz dl_Mod_interest_3 11 219 (.iload 7) 2 rfl) rfl ?_
  refine mp_imul (dz dl_Mod_interest_3 12 221 (.imul) 1 rfl) ?_
  refine mp_iload_n (i := 2) (x := l2) (dz dl_Mod_interest_3 13 222 (.iload_n 2) 1 rfl) rfl rfl ?_
  refine mp_iadd (dz dl_Mod_interest_3 14 223 (.iadd) 1 rfl) ?_
  refine mp_aload_n (i := 0) (v := qr 1 (some 0)) (dz dl_Mod_interest_3 15 224 (.aload_n 0) 1 rfl) rfl rfl trivial ?_
  refine mp_getI (dz dl_Mod_interest_3 16 225 (.getfield 250) 3 rfl) lk_Mod_250 kd_67 rfl ?_
  refine mp_aload_n (i := 0) (v := qr 1 (some 0)) (dz dl_Mod_interest_3 17 228 (.aload_n 0) 1 rfl) rfl rfl trivial ?_
  refine mp_getI (dz dl_Mod_interest_3 18 229 (.getfield 158) 3 rfl) lk_Mod_158 kd_66 rfl ?_
  refine mp_iadd (dz dl_Mod_interest_3 19 232 (.iadd) 1 rfl) ?_
  have h := h _ rfl
  refine mp_iast (dz dl_Mod_interest_3 20 233 (.iastore) 1 rfl) kd_98 rfl sm_98 i1 rfl ?_
  refine mp_aload_n (i := 0) (v := qr 1 (some 0)) (dz dl_Mod_interest_3 21 234 (.aload_n 0) 1 rfl) rfl rfl trivial ?_
  refine mp_getA (dz dl_Mod_interest_3 22 235 (.getfield 88) 3 rfl) lk_Mod_88 (q := 0) kd_95 rfl sm_95 ?_
  refine mp_iload (i := 7) (x := l7) (dz dl_Mod_interest_3 23 238 (.iload 7) 2 rfl) rfl ?_
  refine mp_iload (i := 6) (x := l6) (dz dl_Mod_interest_3 24 240 (.iload 6) 2 rfl) rfl ?_
  obtain ⟨i2, h⟩ := h
  have h := h _ rfl
  refine mp_iast (dz dl_Mod_interest_3 25 242 (.iastore) 1 rfl) kd_95 rfl sm_95 i2 rfl ?_
  refine mp_iload (i := 9) (x := l9) (dz dl_Mod_interest_3 26 243 (.iload 9) 2 rfl) rfl ?_
  refine mp_if_eq (tgt := 260) (dz dl_Mod_interest_3 27 245 (.ifCond .eq (15)) 3 rfl) (by decide) (fun hc => ?_) (fun hc => ?_)
  · replace h := h.1 hc
    exact mp_rt none (rt_V rfl (dz dl_Mod_interest_3 35 260 (.return_) 1 rfl)) ⟨rfl, h⟩
  · replace h := h.2 hc
    refine mp_aload_n (i := 0) (v := qr 1 (some 0)) (dz dl_Mod_interest_3 28 248 (.aload_n 0) 1 rfl) rfl rfl trivial ?_
    refine mp_iload_n (i := 1) (x := l1) (dz dl_Mod_interest_3 29 249 (.iload_n 1) 1 rfl) rfl rfl ?_
    refine mp_iload_n (i := 3) (x := l3) (dz dl_Mod_interest_3 30 250 (.iload_n 3) 1 rfl) rfl rfl ?_
    refine mp_iload (i := 4) (x := l4) (dz dl_Mod_interest_3 31 251 (.iload 4) 2 rfl) rfl ?_
    refine mp_iload (i := 5) (x := l5) (dz dl_Mod_interest_3 32 253 (.iload 5) 2 rfl) rfl ?_
    refine mp_iload (i := 6) (x := l6) (dz dl_Mod_interest_3 33 255 (.iload 6) 2 rfl) rfl ?_
    refine mp_callV [qi l1, qi l3, qi l4, qi l5, qi l6] [] (dz dl_Mod_interest_3 34 257 (.invokevirtual 281) 3 rfl) ok_Mod_passOn lm_Mod_281 ws_Mod_passOn wv_Mod_passOn ⟨Nat.le_of_ble_eq_true rfl, Nat.le_of_ble_eq_true rfl⟩ pn_Mod_passOn (Nat.le_of_ble_eq_true rfl) (Nat.le_of_ble_eq_true rfl) (Or.inl rfl) (mmono h ?_)
    rintro _ u5 ⟨rfl, h⟩
    show mWP _ _ _ [] _ _
    exact mp_rt none (rt_V rfl (dz dl_Mod_interest_3 35 260 (.return_) 1 rfl)) ⟨rfl, h⟩

theorem mb_Mod_newEntry_0 {u : MS} {l1 : Int32} {l2 : Int32} {l3 : Int32} {Z : Int32 → MS → Prop} (h : vp_in l1 5 ∧ vp_in (((6 : Int32) * l1) + (u 92 l1.toNatClampNeg)) 30 ∧ ∀ u1, u1 = mu u 93 (((6 : Int32) * l1) + (u 92 l1.toNatClampNeg)).toNatClampNeg l2 → ∀ u2, u2 = mu u1 94 (((6 : Int32) * l1) + (u 92 l1.toNatClampNeg)).toNatClampNeg l3 → mWP M_Mod_newEntry 35 [qr 1 (some 0), qi l1, none, none, qi (((6 : Int32) * l1) + (u 92 l1.toNatClampNeg)), qi ((5 : Int32) * (((6 : Int32) * l1) + (u 92 l1.toNatClampNeg)))] [] u2 (mI Z)) : mWP M_Mod_newEntry 0 [qr 1 (some 0), qi l1, qi l2, qi l3, none, none] [] u (mI Z) := by
  refine mp_bipush (dz dl_Mod_newEntry_0 0 0 (.bipush (6)) 2 rfl) (v := (6 : Int32)) (by decide) ?_
  refine mp_iload_n (i := 1) (x := l1) (dz dl_Mod_newEntry_0 1 2 (.iload_n 1) 1 rfl) rfl rfl ?_
  refine mp_imul (dz dl_Mod_newEntry_0 2 3 (.imul) 1 rfl) ?_
  refine mp_aload_n (i := 0) (v := qr 1 (some 0)) (dz dl_Mod_newEntry_0 3 4 (.aload_n 0) 1 rfl) rfl rfl trivial ?_
  refine mp_getA (dz dl_Mod_newEntry_0 4 5 (.getfield 79) 3 rfl) lk_Mod_79 (q := 0) kd_92 rfl sm_92 ?_
  refine mp_iload_n (i := 1) (x := l1) (dz dl_Mod_newEntry_0 5 8 (.iload_n 1) 1 rfl) rfl rfl ?_
  obtain ⟨i1, h⟩ := h
  refine mp_iald (dz dl_Mod_newEntry_0 6 9 (.iaload) 1 rfl) kd_92 rfl sm_92 i1 ?_
  refine mp_iadd (dz dl_Mod_newEntry_0 7 10 (.iadd) 1 rfl) ?_
  refine mp_istore (i := 4) (dz dl_Mod_newEntry_0 8 11 (.istore 4) 2 rfl) [qr 1 (some 0), qi l1, qi l2, qi l3, qi (((6 : Int32) * l1) + (u 92 l1.toNatClampNeg)), none] (by decide) rfl ?_
  refine mp_aload_n (i := 0) (v := qr 1 (some 0)) (dz dl_Mod_newEntry_0 9 13 (.aload_n 0) 1 rfl) rfl rfl trivial ?_
  refine mp_getA (dz dl_Mod_newEntry_0 10 14 (.getfield 82) 3 rfl) lk_Mod_82 (q := 0) kd_93 rfl sm_93 ?_
  refine mp_iload (i := 4) (x := ((6 : Int32) * l1) + (u 92 l1.toNatClampNeg)) (dz dl_Mod_newEntry_0 11 17 (.iload 4) 2 rfl) rfl ?_
  refine mp_iload_n (i := 2) (x := l2) (dz dl_Mod_newEntry_0 12 19 (.iload_n 2) 1 rfl) rfl rfl ?_
  obtain ⟨i2, h⟩ := h
  have h := h _ rfl
  refine mp_iast (dz dl_Mod_newEntry_0 13 20 (.iastore) 1 rfl) kd_93 rfl sm_93 i2 rfl ?_
  refine mp_aload_n (i := 0) (v := qr 1 (some 0)) (dz dl_Mod_newEntry_0 14 21 (.aload_n 0) 1 rfl) rfl rfl trivial ?_
  refine mp_getA (dz dl_Mod_newEntry_0 15 22 (.getfield 85) 3 rfl) lk_Mod_85 (q := 0) kd_94 rfl sm_94 ?_
  refine mp_iload (i := 4) (x := ((6 : Int32) * l1) + (u 92 l1.toNatClampNeg)) (dz dl_Mod_newEntry_0 16 25 (.iload 4) 2 rfl) rfl ?_
  refine mp_iload_n (i := 3) (x := l3) (dz dl_Mod_newEntry_0 17 27 (.iload_n 3) 1 rfl) rfl rfl ?_
  have h := h _ rfl
  refine mp_iast (dz dl_Mod_newEntry_0 18 28 (.iastore) 1 rfl) kd_94 rfl sm_94 i2 rfl ?_
  refine mp_iconst (dz dl_Mod_newEntry_0 19 29 (.iconst (5)) 1 rfl) (v := (5 : Int32)) (by decide) ?_
  refine mp_iload (i := 4) (x := ((6 : Int32) * l1) + (u 92 l1.toNatClampNeg)) (dz dl_Mod_newEntry_0 20 30 (.iload 4) 2 rfl) rfl ?_
  refine mp_imul (dz dl_Mod_newEntry_0 21 32 (.imul) 1 rfl) ?_
  refine mp_istore (i := 5) (dz dl_Mod_newEntry_0 22 33 (.istore 5) 2 rfl) [qr 1 (some 0), qi l1, qi l2, qi l3, qi (((6 : Int32) * l1) + (u 92 l1.toNatClampNeg)), qi ((5 : Int32) * (((6 : Int32) * l1) + (u 92 l1.toNatClampNeg)))] (by decide) rfl ?_
  exact mp_cut h ⟨Or.inr rfl, Or.inr rfl, Or.inl rfl, Or.inl rfl, Or.inr rfl, Or.inr rfl, trivial⟩
theorem mt_Mod_newEntry {u : MS} {l1 : Int32} {l2 : Int32} {l3 : Int32} {Z : Int32 → MS → Prop} (h : vp_in l1 5 ∧ vp_in (((6 : Int32) * l1) + (u 92 l1.toNatClampNeg)) 30 ∧ ∀ u1, u1 = mu u 93 (((6 : Int32) * l1) + (u 92 l1.toNatClampNeg)).toNatClampNeg l2 → ∀ u2, u2 = mu u1 94 (((6 : Int32) * l1) + (u 92 l1.toNatClampNeg)).toNatClampNeg l3 → mWP M_Mod_newEntry 35 [qr 1 (some 0), qi l1, none, none, qi (((6 : Int32) * l1) + (u 92 l1.toNatClampNeg)), qi ((5 : Int32) * (((6 : Int32) * l1) + (u 92 l1.toNatClampNeg)))] [] u2 (mI Z)) : mMT M_Mod_newEntry [qr 1 (some 0), qi l1, qi l2, qi l3] u (mI Z) := mb_Mod_newEntry_0 h

theorem mb_Mod_newEntry_35 {u : MS} {l1 : Int32} {l4 : Int32} {l5 : Int32} {Z : Int32 → MS → Prop} (h : ((((5 : Int32) * l4) + (5 : Int32)) ≤ l5 → vp_in l1 5 ∧ ∀ u1, u1 = mu u 92 l1.toNatClampNeg ((u 92 l1.toNatClampNeg) + (1 : Int32)) → Z l4 u1) ∧ (¬ (((5 : Int32) * l4) + (5 : Int32)) ≤ l5 → vp_in l5 150 ∧ ∀ u2, u2 = mu u 96 l5.toNatClampNeg (0 : Int32) → ∀ u3, u3 = mu u2 99 l5.toNatClampNeg (0 : Int32) → mWP M_Mod_newEntry 35 [qr 1 (some 0), qi l1, none, none, qi l4, qi (l5 + 1)] [] u3 (mI Z))) : mWP M_Mod_newEntry 35 [qr 1 (some 0), qi l1, none, none, qi l4, qi l5] [] u (mI Z) := by
  refine mp_iload (i := 5) (x := l5) (dz dl_Mod_newEntry_0 23 35 (.iload 5) 2 rfl) rfl ?_
  refine mp_iconst (dz dl_Mod_newEntry_0 24 37 (.iconst (5)) 1 rfl) (v := (5 : Int32)) (by decide) ?_
  refine mp_iload (i := 4) (x := l4) (dz dl_Mod_newEntry_0 25 38 (.iload 4) 2 rfl) rfl ?_
  refine mp_imul (dz dl_Mod_newEntry_0 26 40 (.imul) 1 rfl) ?_
  refine mp_iconst (dz dl_Mod_newEntry_0 27 41 (.iconst (5)) 1 rfl) (v := (5 : Int32)) (by decide) ?_
  refine mp_iadd (dz dl_Mod_newEntry_0 28 42 (.iadd) 1 rfl) ?_
  refine mp_icmp_ge (tgt := 68) (dz dl_Mod_newEntry_0 29 43 (.if_icmp .ge (25)) 3 rfl) (by decide) (fun hc => ?_) (fun hc => ?_)
  · replace h := h.1 hc
    refine mp_aload_n (i := 0) (v := qr 1 (some 0)) (dz dl_Mod_newEntry_1 2 68 (.aload_n 0) 1 rfl) rfl rfl trivial ?_
    refine mp_getA (dz dl_Mod_newEntry_1 3 69 (.getfield 79) 3 rfl) lk_Mod_79 (q := 0) kd_92 rfl sm_92 ?_
    refine mp_iload_n (i := 1) (x := l1) (dz dl_Mod_newEntry_1 4 72 (.iload_n 1) 1 rfl) rfl rfl ?_
    refine mp_dup2 (dz dl_Mod_newEntry_1 5 73 (.dup2) 1 rfl) ?_
    obtain ⟨i1, h⟩ := h
    refine mp_iald (dz dl_Mod_newEntry_1 6 74 (.iaload) 1 rfl) kd_92 rfl sm_92 i1 ?_
    refine mp_iconst (dz dl_Mod_newEntry_1 7 75 (.iconst (1)) 1 rfl) (v := (1 : Int32)) (by decide) ?_
    refine mp_iadd (dz dl_Mod_newEntry_1 8 76 (.iadd) 1 rfl) ?_
    have h := h _ rfl
    refine mp_iast (dz dl_Mod_newEntry_1 9 77 (.iastore) 1 rfl) kd_92 rfl sm_92 i1 rfl ?_
    refine mp_iload (i := 4) (x := l4) (dz dl_Mod_newEntry_1 10 78 (.iload 4) 2 rfl) rfl ?_
    exact mp_rt (qi _) (rt_I rfl (dz dl_Mod_newEntry_1 11 80 (.ireturn) 1 rfl)) ⟨_, rfl, h⟩
  · replace h := h.2 hc
    refine mp_aload_n (i := 0) (v := qr 1 (some 0)) (dz dl_Mod_newEntry_0 30 46 (.aload_n 0) 1 rfl) rfl rfl trivial ?_
    refine mp_getA (dz dl_Mod_newEntry_0 31 47 (.getfield 91) 3 rfl) lk_Mod_91 (q := 0) kd_96 rfl sm_96 ?_
    refine mp_iload (i := 5) (x := l5) (dz dl_Mod_newEntry_0 32 50 (.iload 5) 2 rfl) rfl ?_
    refine mp_iconst (dz dl_Mod_newEntry_0 33 52 (.iconst (0)) 1 rfl) (v := (0 : Int32)) (by decide) ?_
    obtain ⟨i2, h⟩ := h
    have h := h _ rfl
    refine mp_iast (dz dl_Mod_newEntry_0 34 53 (.iastore) 1 rfl) kd_96 rfl sm_96 i2 rfl ?_
    refine mp_aload_n (i := 0) (v := qr 1 (some 0)) (dz dl_Mod_newEntry_0 35 54 (.aload_n 0) 1 rfl) rfl rfl trivial ?_
    refine mp_getA (dz dl_Mod_newEntry_0 36 55 (.getfield 100) 3 rfl) lk_Mod_100 (q := 0) kd_99 rfl sm_99 ?_
    refine mp_iload (i := 5) (x := l5) (dz dl_Mod_newEntry_0 37 58 (.iload 5) 2 rfl) rfl ?_
    refine mp_iconst (dz dl_Mod_newEntry_0 38 60 (.iconst (0)) 1 rfl) (v := (0 : Int32)) (by decide) ?_
    have h := h _ rfl
    refine mp_iast (dz dl_Mod_newEntry_0 39 61 (.iastore) 1 rfl) kd_99 rfl sm_99 i2 rfl ?_
    refine mp_iinc (i := 5) (v := l5 + 1) (dz dl_Mod_newEntry_1 0 62 (.iinc 5 (1)) 3 rfl) rfl (congrArg (fun z => l5 + z) (by decide)) [qr 1 (some 0), qi l1, none, none, qi l4, qi (l5 + 1)] (by decide) rfl ?_
    refine mp_goto (tgt := 35) (dz dl_Mod_newEntry_1 1 65 (.goto (-30)) 3 rfl) (by decide) ?_
    exact mp_cut h ⟨Or.inr rfl, Or.inr rfl, Or.inl rfl, Or.inl rfl, Or.inr rfl, Or.inr rfl, trivial⟩

theorem mb_Mod_next_0 {u : MS} {l1 : Int32} {l2 : Int32} {Z : Int32 → MS → Prop} (h : vp_in l2 30 ∧ mMT M_Mod_longest [qr 1 (some 0), qi l1, qi (u 93 l2.toNatClampNeg)] u (mI fun r1 u1 => mWP M_Mod_next 18 [qr 1 (some 0), qi l1, qi l2, qi r1, qi (-1 : Int32), qi (0 : Int32), none, none] [] u1 (mI Z))) : mWP M_Mod_next 0 [qr 1 (some 0), qi l1, qi l2, none, none, none, none, none] [] u (mI Z) := by
  refine mp_aload_n (i := 0) (v := qr 1 (some 0)) (dz dl_Mod_next_0 0 0 (.aload_n 0) 1 rfl) rfl rfl trivial ?_
  refine mp_iload_n (i := 1) (x := l1) (dz dl_Mod_next_0 1 1 (.iload_n 1) 1 rfl) rfl rfl ?_
  refine mp_aload_n (i := 0) (v := qr 1 (some 0)) (dz dl_Mod_next_0 2 2 (.aload_n 0) 1 rfl) rfl rfl trivial ?_
  refine mp_getA (dz dl_Mod_next_0 3 3 (.getfield 82) 3 rfl) lk_Mod_82 (q := 0) kd_93 rfl sm_93 ?_
  refine mp_iload_n (i := 2) (x := l2) (dz dl_Mod_next_0 4 6 (.iload_n 2) 1 rfl) rfl rfl ?_
  obtain ⟨i1, h⟩ := h
  refine mp_iald (dz dl_Mod_next_0 5 7 (.iaload) 1 rfl) kd_93 rfl sm_93 i1 ?_
  refine mp_callV [qi l1, qi (u 93 l2.toNatClampNeg)] [] (dz dl_Mod_next_0 6 8 (.invokevirtual 284) 3 rfl) ok_Mod_longest lm_Mod_284 ws_Mod_longest wv_Mod_longest ⟨Nat.le_of_ble_eq_true rfl, Nat.le_of_ble_eq_true rfl⟩ pn_Mod_longest (Nat.le_of_ble_eq_true rfl) (Nat.le_of_ble_eq_true rfl) (Or.inl rfl) (mmono h ?_)
  rintro _ u1 ⟨r1, rfl, h⟩
  show mWP _ _ _ [qi r1] _ _
  refine mp_istore_n (i := 3) (dz dl_Mod_next_0 7 11 (.istore_n 3) 1 rfl) rfl [qr 1 (some 0), qi l1, qi l2, qi r1, none, none, none, none] (by decide) rfl ?_
  refine mp_iconst (dz dl_Mod_next_0 8 12 (.iconst (-1)) 1 rfl) (v := (-1 : Int32)) (by decide) ?_
  refine mp_istore (i := 4) (dz dl_Mod_next_0 9 13 (.istore 4) 2 rfl) [qr 1 (some 0), qi l1, qi l2, qi r1, qi (-1 : Int32), none, none, none] (by decide) rfl ?_
  refine mp_iconst (dz dl_Mod_next_0 10 15 (.iconst (0)) 1 rfl) (v := (0 : Int32)) (by decide) ?_
  refine mp_istore (i := 5) (dz dl_Mod_next_0 11 16 (.istore 5) 2 rfl) [qr 1 (some 0), qi l1, qi l2, qi r1, qi (-1 : Int32), qi (0 : Int32), none, none] (by decide) rfl ?_
  exact mp_cut h ⟨Or.inr rfl, Or.inr rfl, Or.inr rfl, Or.inr rfl, Or.inr rfl, Or.inr rfl, Or.inl rfl, Or.inl rfl, trivial⟩
theorem mt_Mod_next {u : MS} {l1 : Int32} {l2 : Int32} {Z : Int32 → MS → Prop} (h : vp_in l2 30 ∧ mMT M_Mod_longest [qr 1 (some 0), qi l1, qi (u 93 l2.toNatClampNeg)] u (mI fun r1 u1 => mWP M_Mod_next 18 [qr 1 (some 0), qi l1, qi l2, qi r1, qi (-1 : Int32), qi (0 : Int32), none, none] [] u1 (mI Z))) : mMT M_Mod_next [qr 1 (some 0), qi l1, qi l2] u (mI Z) := mb_Mod_next_0 h

theorem mb_Mod_next_18 {u : MS} {l1 : Int32} {l2 : Int32} {l3 : Int32} {l4 : Int32} {l5 : Int32} {Z : Int32 → MS → Prop} (h : ((5 : Int32) ≤ l5 → Z l4 u) ∧ (¬ (5 : Int32) ≤ l5 → (l3 < 0 → Z l4 u) ∧ (¬ l3 < 0 → vp_in (((5 : Int32) * l2) + l5) 150 ∧ (¬ (u 99 (((5 : Int32) * l2) + l5).toNatClampNeg) = 0 → mMT M_Mod_priced [qr 1 (some 0), qi l1, qi l3, qi l5] u (mI fun r1 u1 => ((0 : Int32) = 0 → mWP M_Mod_next 18 [qr 1 (some 0), qi l1, qi l2, qi l3, qi l4, qi (l5 + 1), none, none] [] u1 (mI Z)) ∧ (¬ (0 : Int32) = 0 → (r1 ≤ 0 → mWP M_Mod_next 18 [qr 1 (some 0), qi l1, qi l2, qi l3, qi l4, qi (l5 + 1), none, none] [] u1 (mI Z)) ∧ (¬ r1 ≤ 0 → (l4 < 0 → mWP M_Mod_next 18 [qr 1 (some 0), qi l1, qi l2, qi l3, qi l5, qi (l5 + 1), none, none] [] u1 (mI Z)) ∧ (¬ l4 < 0 → mMT M_Mod_priced [qr 1 (some 0), qi l1, qi l3, qi l4] u1 (mI fun r2 u2 => (r2 ≤ r1 → mWP M_Mod_next 18 [qr 1 (some 0), qi l1, qi l2, qi l3, qi l4, qi (l5 + 1), none, none] [] u2 (mI Z)) ∧ (¬ r2 ≤ r1 → mWP M_Mod_next 18 [qr 1 (some 0), qi l1, qi l2, qi l3, qi l5, qi (l5 + 1), none, none] [] u2 (mI Z)))))))) ∧ ((u 99 (((5 : Int32) * l2) + l5).toNatClampNeg) = 0 → (l5 = (4 : Int32) → mMT M_Mod_priced [qr 1 (some 0), qi l1, qi l3, qi l5] u (mI fun r3 u3 => ((1 : Int32) = 0 → mWP M_Mod_next 18 [qr 1 (some 0), qi l1, qi l2, qi l3, qi l4, qi (l5 + 1), none, none] [] u3 (mI Z)) ∧ (¬ (1 : Int32) = 0 → (r3 ≤ 0 → mWP M_Mod_next 18 [qr 1 (some 0), qi l1, qi l2, qi l3, qi l4, qi (l5 + 1), none, none] [] u3 (mI Z)) ∧ (¬ r3 ≤ 0 → (l4 < 0 → mWP M_Mod_next 18 [qr 1 (some 0), qi l1, qi l2, qi l3, qi l5, qi (l5 + 1), none, none] [] u3 (mI Z)) ∧ (¬ l4 < 0 → mMT M_Mod_priced [qr 1 (some 0), qi l1, qi l3, qi l4] u3 (mI fun r4 u4 => (r4 ≤ r3 → mWP M_Mod_next 18 [qr 1 (some 0), qi l1, qi l2, qi l3, qi l4, qi (l5 + 1), none, none] [] u4 (mI Z)) ∧ (¬ r4 ≤ r3 → mWP M_Mod_next 18 [qr 1 (some 0), qi l1, qi l2, qi l3, qi l5, qi (l5 + 1), none, none] [] u4 (mI Z)))))))) ∧ (¬ l5 = (4 : Int32) → (¬ (u 96 (((5 : Int32) * l2) + l5).toNatClampNeg) = 0 → mMT M_Mod_priced [qr 1 (some 0), qi l1, qi l3, qi l5] u (mI fun r5 u5 => ((0 : Int32) = 0 → mWP M_Mod_next 18 [qr 1 (some 0), qi l1, qi l2, qi l3, qi l4, qi (l5 + 1), none, none] [] u5 (mI Z)) ∧ (¬ (0 : Int32) = 0 → (r5 ≤ 0 → mWP M_Mod_next 18 [qr 1 (some 0), qi l1, qi l2, qi l3, qi l4, qi (l5 + 1), none, none] [] u5 (mI Z)) ∧ (¬ r5 ≤ 0 → (l4 < 0 → mWP M_Mod_next 18 [qr 1 (some 0), qi l1, qi l2, qi l3, qi l5, qi (l5 + 1), none, none] [] u5 (mI Z)) ∧ (¬ l4 < 0 → mMT M_Mod_priced [qr 1 (some 0), qi l1, qi l3, qi l4] u5 (mI fun r6 u6 => (r6 ≤ r5 → mWP M_Mod_next 18 [qr 1 (some 0), qi l1, qi l2, qi l3, qi l4, qi (l5 + 1), none, none] [] u6 (mI Z)) ∧ (¬ r6 ≤ r5 → mWP M_Mod_next 18 [qr 1 (some 0), qi l1, qi l2, qi l3, qi l5, qi (l5 + 1), none, none] [] u6 (mI Z)))))))) ∧ ((u 96 (((5 : Int32) * l2) + l5).toNatClampNeg) = 0 → vp_in (((4 : Int32) * l1) + l5) 20 ∧ ((u 75 (((4 : Int32) * l1) + l5).toNatClampNeg) = 0 → mMT M_Mod_priced [qr 1 (some 0), qi l1, qi l3, qi l5] u (mI fun r7 u7 => ((0 : Int32) = 0 → mWP M_Mod_next 18 [qr 1 (some 0), qi l1, qi l2, qi l3, qi l4, qi (l5 + 1), none, none] [] u7 (mI Z)) ∧ (¬ (0 : Int32) = 0 → (r7 ≤ 0 → mWP M_Mod_next 18 [qr 1 (some 0), qi l1, qi l2, qi l3, qi l4, qi (l5 + 1), none, none] [] u7 (mI Z)) ∧ (¬ r7 ≤ 0 → (l4 < 0 → mWP M_Mod_next 18 [qr 1 (some 0), qi l1, qi l2, qi l3, qi l5, qi (l5 + 1), none, none] [] u7 (mI Z)) ∧ (¬ l4 < 0 → mMT M_Mod_priced [qr 1 (some 0), qi l1, qi l3, qi l4] u7 (mI fun r8 u8 => (r8 ≤ r7 → mWP M_Mod_next 18 [qr 1 (some 0), qi l1, qi l2, qi l3, qi l4, qi (l5 + 1), none, none] [] u8 (mI Z)) ∧ (¬ r8 ≤ r7 → mWP M_Mod_next 18 [qr 1 (some 0), qi l1, qi l2, qi l3, qi l5, qi (l5 + 1), none, none] [] u8 (mI Z)))))))) ∧ (¬ (u 75 (((4 : Int32) * l1) + l5).toNatClampNeg) = 0 → mMT M_Mod_priced [qr 1 (some 0), qi l1, qi l3, qi l5] u (mI fun r9 u9 => ((1 : Int32) = 0 → mWP M_Mod_next 18 [qr 1 (some 0), qi l1, qi l2, qi l3, qi l4, qi (l5 + 1), none, none] [] u9 (mI Z)) ∧ (¬ (1 : Int32) = 0 → (r9 ≤ 0 → mWP M_Mod_next 18 [qr 1 (some 0), qi l1, qi l2, qi l3, qi l4, qi (l5 + 1), none, none] [] u9 (mI Z)) ∧ (¬ r9 ≤ 0 → (l4 < 0 → mWP M_Mod_next 18 [qr 1 (some 0), qi l1, qi l2, qi l3, qi l5, qi (l5 + 1), none, none] [] u9 (mI Z)) ∧ (¬ l4 < 0 → mMT M_Mod_priced [qr 1 (some 0), qi l1, qi l3, qi l4] u9 (mI fun r10 u10 => (r10 ≤ r9 → mWP M_Mod_next 18 [qr 1 (some 0), qi l1, qi l2, qi l3, qi l4, qi (l5 + 1), none, none] [] u10 (mI Z)) ∧ (¬ r10 ≤ r9 → mWP M_Mod_next 18 [qr 1 (some 0), qi l1, qi l2, qi l3, qi l5, qi (l5 + 1), none, none] [] u10 (mI Z)))))))))))))) : mWP M_Mod_next 18 [qr 1 (some 0), qi l1, qi l2, qi l3, qi l4, qi l5, none, none] [] u (mI Z) := by
  refine mp_iload (i := 5) (x := l5) (dz dl_Mod_next_0 12 18 (.iload 5) 2 rfl) rfl ?_
  refine mp_iconst (dz dl_Mod_next_0 13 20 (.iconst (5)) 1 rfl) (v := (5 : Int32)) (by decide) ?_
  refine mp_icmp_ge (tgt := 136) (dz dl_Mod_next_0 14 21 (.if_icmp .ge (115)) 3 rfl) (by decide) (fun hc => ?_) (fun hc => ?_)
  · replace h := h.1 hc
    refine mp_iload (i := 4) (x := l4) (dz dl_Mod_next_1 36 136 (.iload 4) 2 rfl) rfl ?_
    exact mp_rt (qi _) (rt_I rfl (dz dl_Mod_next_1 37 138 (.ireturn) 1 rfl)) ⟨_, rfl, h⟩
  · replace h := h.2 hc
    refine mp_iload_n (i := 3) (x := l3) (dz dl_Mod_next_0 15 24 (.iload_n 3) 1 rfl) rfl rfl ?_
    refine mp_if_lt (tgt := 136) (dz dl_Mod_next_0 16 25 (.ifCond .lt (111)) 3 rfl) (by decide) (fun hc => ?_) (fun hc => ?_)
    · replace h := h.1 hc
      refine mp_iload (i := 4) (x := l4) (dz dl_Mod_next_1 36 136 (.iload 4) 2 rfl) rfl ?_
      exact mp_rt (qi _) (rt_I rfl (dz dl_Mod_next_1 37 138 (.ireturn) 1 rfl)) ⟨_, rfl, h⟩
    · replace h := h.2 hc
      refine mp_aload_n (i := 0) (v := qr 1 (some 0)) (dz dl_Mod_next_0 17 28 (.aload_n 0) 1 rfl) rfl rfl trivial ?_
      refine mp_getA (dz dl_Mod_next_0 18 29 (.getfield 100) 3 rfl) lk_Mod_100 (q := 0) kd_99 rfl sm_99 ?_
      refine mp_iconst (dz dl_Mod_next_0 19 32 (.iconst (5)) 1 rfl) (v := (5 : Int32)) (by decide) ?_
      refine mp_iload_n (i := 2) (x := l2) (dz dl_Mod_next_0 20 33 (.iload_n 2) 1 rfl) rfl rfl ?_
      refine mp_imul (dz dl_Mod_next_0 21 34 (.imul) 1 rfl) ?_
      refine mp_iload (i := 5) (x := l5) (dz dl_Mod_next_0 22 35 (.iload 5) 2 rfl) rfl ?_
      refine mp_iadd (dz dl_Mod_next_0 23 37 (.iadd) 1 rfl) ?_
      obtain ⟨i1, h⟩ := h
      refine mp_iald (dz dl_Mod_next_0 24 38 (.iaload) 1 rfl) kd_99 rfl sm_99 i1 ?_
      refine mp_if_ne (tgt := 80) (dz dl_Mod_next_0 25 39 (.ifCond .ne (41)) 3 rfl) (by decide) (fun hc => ?_) (fun hc => ?_)
      · replace h := h.1 hc
        refine mp_iconst (dz dl_Mod_next_1 9 80 (.iconst (0)) 1 rfl) (v := (0 : Int32)) (by decide) ?_
        refine mp_istore (i := 6) (dz dl_Mod_next_1 10 81 (.istore 6) 2 rfl) [qr 1 (some 0), qi l1, qi l2, qi l3, qi l4, qi l5, qi (0 : Int32), none] (by decide) rfl ?_
        refine mp_aload_n (i := 0) (v := qr 1 (some 0)) (dz dl_Mod_next_1 11 83 (.aload_n 0) 1 rfl) rfl rfl trivial ?_
        refine mp_iload_n (i := 1) (x := l1) (dz dl_Mod_next_1 12 84 (.iload_n 1) 1 rfl) rfl rfl ?_
        refine mp_iload_n (i := 3) (x := l3) (dz dl_Mod_next_1 13 85 (.iload_n 3) 1 rfl) rfl rfl ?_
        refine mp_iload (i := 5) (x := l5) (dz dl_Mod_next_1 14 86 (.iload 5) 2 rfl) rfl ?_
        refine mp_callV [qi l1, qi l3, qi l5] [] (dz dl_Mod_next_1 15 88 (.invokevirtual 240) 3 rfl) ok_Mod_priced lm_Mod_240 ws_Mod_priced wv_Mod_priced ⟨Nat.le_of_ble_eq_true rfl, Nat.le_of_ble_eq_true rfl⟩ pn_Mod_priced (Nat.le_of_ble_eq_true rfl) (Nat.le_of_ble_eq_true rfl) (Or.inl rfl) (mmono h ?_)
        rintro _ u1 ⟨r1, rfl, h⟩
        show mWP _ _ _ [qi r1] _ _
        refine mp_istore (i := 7) (dz dl_Mod_next_1 16 91 (.istore 7) 2 rfl) [qr 1 (some 0), qi l1, qi l2, qi l3, qi l4, qi l5, qi (0 : Int32), qi r1] (by decide) rfl ?_
        refine mp_iload (i := 6) (x := (0 : Int32)) (dz dl_Mod_next_1 17 93 (.iload 6) 2 rfl) rfl ?_
        refine mp_if_eq (tgt := 126) (dz dl_Mod_next_1 18 95 (.ifCond .eq (31)) 3 rfl) (by decide) (fun hc => ?_) (fun hc => ?_)
        · replace h := h.1 hc
          refine mp_iload (i := 4) (x := l4) (dz dl_Mod_next_1 32 126 (.iload 4) 2 rfl) rfl ?_
          refine mp_istore (i := 4) (dz dl_Mod_next_1 33 128 (.istore 4) 2 rfl) [qr 1 (some 0), qi l1, qi l2, qi l3, qi l4, qi l5, qi (0 : Int32), qi r1] (by decide) rfl ?_
          refine mp_iinc (i := 5) (v := l5 + 1) (dz dl_Mod_next_1 34 130 (.iinc 5 (1)) 3 rfl) rfl (congrArg (fun z => l5 + z) (by decide)) [qr 1 (some 0), qi l1, qi l2, qi l3, qi l4, qi (l5 + 1), qi (0 : Int32), qi r1] (by decide) rfl ?_
          refine mp_goto (tgt := 18) (dz dl_Mod_next_1 35 133 (.goto (-115)) 3 rfl) (by decide) ?_
          exact mp_cut h ⟨Or.inr rfl, Or.inr rfl, Or.inr rfl, Or.inr rfl, Or.inr rfl, Or.inr rfl, Or.inl rfl, Or.inl rfl, trivial⟩
        · replace h := h.2 hc
          refine mp_iload (i := 7) (x := r1) (dz dl_Mod_next_1 19 98 (.iload 7) 2 rfl) rfl ?_
          refine mp_if_le (tgt := 126) (dz dl_Mod_next_1 20 100 (.ifCond .le (26)) 3 rfl) (by decide) (fun hc => ?_) (fun hc => ?_)
          · replace h := h.1 hc
            refine mp_iload (i := 4) (x := l4) (dz dl_Mod_next_1 32 126 (.iload 4) 2 rfl) rfl ?_
            refine mp_istore (i := 4) (dz dl_Mod_next_1 33 128 (.istore 4) 2 rfl) [qr 1 (some 0), qi l1, qi l2, qi l3, qi l4, qi l5, qi (0 : Int32), qi r1] (by decide) rfl ?_
            refine mp_iinc (i := 5) (v := l5 + 1) (dz dl_Mod_next_1 34 130 (.iinc 5 (1)) 3 rfl) rfl (congrArg (fun z => l5 + z) (by decide)) [qr 1 (some 0), qi l1, qi l2, qi l3, qi l4, qi (l5 + 1), qi (0 : Int32), qi r1] (by decide) rfl ?_
            refine mp_goto (tgt := 18) (dz dl_Mod_next_1 35 133 (.goto (-115)) 3 rfl) (by decide) ?_
            exact mp_cut h ⟨Or.inr rfl, Or.inr rfl, Or.inr rfl, Or.inr rfl, Or.inr rfl, Or.inr rfl, Or.inl rfl, Or.inl rfl, trivial⟩
          · replace h := h.2 hc
            refine mp_iload (i := 4) (x := l4) (dz dl_Mod_next_1 21 103 (.iload 4) 2 rfl) rfl ?_
            refine mp_if_lt (tgt := 121) (dz dl_Mod_next_1 22 105 (.ifCond .lt (16)) 3 rfl) (by decide) (fun hc => ?_) (fun hc => ?_)
            · replace h := h.1 hc
              refine mp_iload (i := 5) (x := l5) (dz dl_Mod_next_1 30 121 (.iload 5) 2 rfl) rfl ?_
              refine mp_goto (tgt := 128) (dz dl_Mod_next_1 31 123 (.goto (5)) 3 rfl) (by decide) ?_
              refine mp_istore (i := 4) (dz dl_Mod_next_1 33 128 (.istore 4) 2 rfl) [qr 1 (some 0), qi l1, qi l2, qi l3, qi l5, qi l5, qi (0 : Int32), qi r1] (by decide) rfl ?_
              refine mp_iinc (i := 5) (v := l5 + 1) (dz dl_Mod_next_1 34 130 (.iinc 5 (1)) 3 rfl) rfl (congrArg (fun z => l5 + z) (by decide)) [qr 1 (some 0), qi l1, qi l2, qi l3, qi l5, qi (l5 + 1), qi (0 : Int32), qi r1] (by decide) rfl ?_
              refine mp_goto (tgt := 18) (dz dl_Mod_next_1 35 133 (.goto (-115)) 3 rfl) (by decide) ?_
              exact mp_cut h ⟨Or.inr rfl, Or.inr rfl, Or.inr rfl, Or.inr rfl, Or.inr rfl, Or.inr rfl, Or.inl rfl, Or.inl rfl, trivial⟩
            · replace h := h.2 hc
              refine mp_iload (i := 7) (x := r1) (dz dl_Mod_next_1 23 108 (.iload 7) 2 rfl) rfl ?_
              refine mp_aload_n (i := 0) (v := qr 1 (some 0)) (dz dl_Mod_next_1 24 110 (.aload_n 0) 1 rfl) rfl rfl trivial ?_
              refine mp_iload_n (i := 1) (x := l1) (dz dl_Mod_next_1 25 111 (.iload_n 1) 1 rfl) rfl rfl ?_
              refine mp_iload_n (i := 3) (x := l3) (dz dl_Mod_next_1 26 112 (.iload_n 3) 1 rfl) rfl rfl ?_
              refine mp_iload (i := 4) (x := l4) (dz dl_Mod_next_1 27 113 (.iload 4) 2 rfl) rfl ?_
              refine mp_callV [qi l1, qi l3, qi l4] [qi r1] (dz dl_Mod_next_1 28 115 (.invokevirtual 240) 3 rfl) ok_Mod_priced lm_Mod_240 ws_Mod_priced wv_Mod_priced ⟨Nat.le_of_ble_eq_true rfl, Nat.le_of_ble_eq_true rfl⟩ pn_Mod_priced (Nat.le_of_ble_eq_true rfl) (Nat.le_of_ble_eq_true rfl) (Or.inl rfl) (mmono h ?_)
              rintro _ u2 ⟨r2, rfl, h⟩
              show mWP _ _ _ [qi r2, qi r1] _ _
              refine mp_icmp_ge (tgt := 126) (dz dl_Mod_next_1 29 118 (.if_icmp .ge (8)) 3 rfl) (by decide) (fun hc => ?_) (fun hc => ?_)
              · replace h := h.1 hc
                refine mp_iload (i := 4) (x := l4) (dz dl_Mod_next_1 32 126 (.iload 4) 2 rfl) rfl ?_
                refine mp_istore (i := 4) (dz dl_Mod_next_1 33 128 (.istore 4) 2 rfl) [qr 1 (some 0), qi l1, qi l2, qi l3, qi l4, qi l5, qi (0 : Int32), qi r1] (by decide) rfl ?_
                refine mp_iinc (i := 5) (v := l5 + 1) (dz dl_Mod_next_1 34 130 (.iinc 5 (1)) 3 rfl) rfl (congrArg (fun z => l5 + z) (by decide)) [qr 1 (some 0), qi l1, qi l2, qi l3, qi l4, qi (l5 + 1), qi (0 : Int32), qi r1] (by decide) rfl ?_
                refine mp_goto (tgt := 18) (dz dl_Mod_next_1 35 133 (.goto (-115)) 3 rfl) (by decide) ?_
                exact mp_cut h ⟨Or.inr rfl, Or.inr rfl, Or.inr rfl, Or.inr rfl, Or.inr rfl, Or.inr rfl, Or.inl rfl, Or.inl rfl, trivial⟩
              · replace h := h.2 hc
                refine mp_iload (i := 5) (x := l5) (dz dl_Mod_next_1 30 121 (.iload 5) 2 rfl) rfl ?_
                refine mp_goto (tgt := 128) (dz dl_Mod_next_1 31 123 (.goto (5)) 3 rfl) (by decide) ?_
                refine mp_istore (i := 4) (dz dl_Mod_next_1 33 128 (.istore 4) 2 rfl) [qr 1 (some 0), qi l1, qi l2, qi l3, qi l5, qi l5, qi (0 : Int32), qi r1] (by decide) rfl ?_
                refine mp_iinc (i := 5) (v := l5 + 1) (dz dl_Mod_next_1 34 130 (.iinc 5 (1)) 3 rfl) rfl (congrArg (fun z => l5 + z) (by decide)) [qr 1 (some 0), qi l1, qi l2, qi l3, qi l5, qi (l5 + 1), qi (0 : Int32), qi r1] (by decide) rfl ?_
                refine mp_goto (tgt := 18) (dz dl_Mod_next_1 35 133 (.goto (-115)) 3 rfl) (by decide) ?_
                exact mp_cut h ⟨Or.inr rfl, Or.inr rfl, Or.inr rfl, Or.inr rfl, Or.inr rfl, Or.inr rfl, Or.inl rfl, Or.inl rfl, trivial⟩
      · replace h := h.2 hc
        refine mp_iload (i := 5) (x := l5) (dz dl_Mod_next_0 26 42 (.iload 5) 2 rfl) rfl ?_
        refine mp_iconst (dz dl_Mod_next_0 27 44 (.iconst (4)) 1 rfl) (v := (4 : Int32)) (by decide) ?_
        refine mp_icmp_eq (tgt := 76) (dz dl_Mod_next_0 28 45 (.if_icmp .eq (31)) 3 rfl) (by decide) (fun hc => ?_) (fun hc => ?_)
        · replace h := h.1 hc
          refine mp_iconst (dz dl_Mod_next_1 7 76 (.iconst (1)) 1 rfl) (v := (1 : Int32)) (by decide) ?_
          refine mp_goto (tgt := 81) (dz dl_Mod_next_1 8 77 (.goto (4)) 3 rfl) (by decide) ?_
          refine mp_istore (i := 6) (dz dl_Mod_next_1 10 81 (.istore 6) 2 rfl) [qr 1 (some 0), qi l1, qi l2, qi l3, qi l4, qi l5, qi (1 : Int32), none] (by decide) rfl ?_
          refine mp_aload_n (i := 0) (v := qr 1 (some 0)) (dz dl_Mod_next_1 11 83 (.aload_n 0) 1 rfl) rfl rfl trivial ?_
          refine mp_iload_n (i := 1) (x := l1) (dz dl_Mod_next_1 12 84 (.iload_n 1) 1 rfl) rfl rfl ?_
          refine mp_iload_n (i := 3) (x := l3) (dz dl_Mod_next_1 13 85 (.iload_n 3) 1 rfl) rfl rfl ?_
          refine mp_iload (i := 5) (x := l5) (dz dl_Mod_next_1 14 86 (.iload 5) 2 rfl) rfl ?_
          refine mp_callV [qi l1, qi l3, qi l5] [] (dz dl_Mod_next_1 15 88 (.invokevirtual 240) 3 rfl) ok_Mod_priced lm_Mod_240 ws_Mod_priced wv_Mod_priced ⟨Nat.le_of_ble_eq_true rfl, Nat.le_of_ble_eq_true rfl⟩ pn_Mod_priced (Nat.le_of_ble_eq_true rfl) (Nat.le_of_ble_eq_true rfl) (Or.inl rfl) (mmono h ?_)
          rintro _ u3 ⟨r3, rfl, h⟩
          show mWP _ _ _ [qi r3] _ _
          refine mp_istore (i := 7) (dz dl_Mod_next_1 16 91 (.istore 7) 2 rfl) [qr 1 (some 0), qi l1, qi l2, qi l3, qi l4, qi l5, qi (1 : Int32), qi r3] (by decide) rfl ?_
          refine mp_iload (i := 6) (x := (1 : Int32)) (dz dl_Mod_next_1 17 93 (.iload 6) 2 rfl) rfl ?_
          refine mp_if_eq (tgt := 126) (dz dl_Mod_next_1 18 95 (.ifCond .eq (31)) 3 rfl) (by decide) (fun hc => ?_) (fun hc => ?_)
          · replace h := h.1 hc
            refine mp_iload (i := 4) (x := l4) (dz dl_Mod_next_1 32 126 (.iload 4) 2 rfl) rfl ?_
            refine mp_istore (i := 4) (dz dl_Mod_next_1 33 128 (.istore 4) 2 rfl) [qr 1 (some 0), qi l1, qi l2, qi l3, qi l4, qi l5, qi (1 : Int32), qi r3] (by decide) rfl ?_
            refine mp_iinc (i := 5) (v := l5 + 1) (dz dl_Mod_next_1 34 130 (.iinc 5 (1)) 3 rfl) rfl (congrArg (fun z => l5 + z) (by decide)) [qr 1 (some 0), qi l1, qi l2, qi l3, qi l4, qi (l5 + 1), qi (1 : Int32), qi r3] (by decide) rfl ?_
            refine mp_goto (tgt := 18) (dz dl_Mod_next_1 35 133 (.goto (-115)) 3 rfl) (by decide) ?_
            exact mp_cut h ⟨Or.inr rfl, Or.inr rfl, Or.inr rfl, Or.inr rfl, Or.inr rfl, Or.inr rfl, Or.inl rfl, Or.inl rfl, trivial⟩
          · replace h := h.2 hc
            refine mp_iload (i := 7) (x := r3) (dz dl_Mod_next_1 19 98 (.iload 7) 2 rfl) rfl ?_
            refine mp_if_le (tgt := 126) (dz dl_Mod_next_1 20 100 (.ifCond .le (26)) 3 rfl) (by decide) (fun hc => ?_) (fun hc => ?_)
            · replace h := h.1 hc
              refine mp_iload (i := 4) (x := l4) (dz dl_Mod_next_1 32 126 (.iload 4) 2 rfl) rfl ?_
              refine mp_istore (i := 4) (dz dl_Mod_next_1 33 128 (.istore 4) 2 rfl) [qr 1 (some 0), qi l1, qi l2, qi l3, qi l4, qi l5, qi (1 : Int32), qi r3] (by decide) rfl ?_
              refine mp_iinc (i := 5) (v := l5 + 1) (dz dl_Mod_next_1 34 130 (.iinc 5 (1)) 3 rfl) rfl (congrArg (fun z => l5 + z) (by decide)) [qr 1 (some 0), qi l1, qi l2, qi l3, qi l4, qi (l5 + 1), qi (1 : Int32), qi r3] (by decide) rfl ?_
              refine mp_goto (tgt := 18) (dz dl_Mod_next_1 35 133 (.goto (-115)) 3 rfl) (by decide) ?_
              exact mp_cut h ⟨Or.inr rfl, Or.inr rfl, Or.inr rfl, Or.inr rfl, Or.inr rfl, Or.inr rfl, Or.inl rfl, Or.inl rfl, trivial⟩
            · replace h := h.2 hc
              refine mp_iload (i := 4) (x := l4) (dz dl_Mod_next_1 21 103 (.iload 4) 2 rfl) rfl ?_
              refine mp_if_lt (tgt := 121) (dz dl_Mod_next_1 22 105 (.ifCond .lt (16)) 3 rfl) (by decide) (fun hc => ?_) (fun hc => ?_)
              · replace h := h.1 hc
                refine mp_iload (i := 5) (x := l5) (dz dl_Mod_next_1 30 121 (.iload 5) 2 rfl) rfl ?_
                refine mp_goto (tgt := 128) (dz dl_Mod_next_1 31 123 (.goto (5)) 3 rfl) (by decide) ?_
                refine mp_istore (i := 4) (dz dl_Mod_next_1 33 128 (.istore 4) 2 rfl) [qr 1 (some 0), qi l1, qi l2, qi l3, qi l5, qi l5, qi (1 : Int32), qi r3] (by decide) rfl ?_
                refine mp_iinc (i := 5) (v := l5 + 1) (dz dl_Mod_next_1 34 130 (.iinc 5 (1)) 3 rfl) rfl (congrArg (fun z => l5 + z) (by decide)) [qr 1 (some 0), qi l1, qi l2, qi l3, qi l5, qi (l5 + 1), qi (1 : Int32), qi r3] (by decide) rfl ?_
                refine mp_goto (tgt := 18) (dz dl_Mod_next_1 35 133 (.goto (-115)) 3 rfl) (by decide) ?_
                exact mp_cut h ⟨Or.inr rfl, Or.inr rfl, Or.inr rfl, Or.inr rfl, Or.inr rfl, Or.inr rfl, Or.inl rfl, Or.inl rfl, trivial⟩
              · replace h := h.2 hc
                refine mp_iload (i := 7) (x := r3) (dz dl_Mod_next_1 23 108 (.iload 7) 2 rfl) rfl ?_
                refine mp_aload_n (i := 0) (v := qr 1 (some 0)) (dz dl_Mod_next_1 24 110 (.aload_n 0) 1 rfl) rfl rfl trivial ?_
                refine mp_iload_n (i := 1) (x := l1) (dz dl_Mod_next_1 25 111 (.iload_n 1) 1 rfl) rfl rfl ?_
                refine mp_iload_n (i := 3) (x := l3) (dz dl_Mod_next_1 26 112 (.iload_n 3) 1 rfl) rfl rfl ?_
                refine mp_iload (i := 4) (x := l4) (dz dl_Mod_next_1 27 113 (.iload 4) 2 rfl) rfl ?_
                refine mp_callV [qi l1, qi l3, qi l4] [qi r3] (dz dl_Mod_next_1 28 115 (.invokevirtual 240) 3 rfl) ok_Mod_priced lm_Mod_240 ws_Mod_priced wv_Mod_priced ⟨Nat.le_of_ble_eq_true rfl, Nat.le_of_ble_eq_true rfl⟩ pn_Mod_priced (Nat.le_of_ble_eq_true rfl) (Nat.le_of_ble_eq_true rfl) (Or.inl rfl) (mmono h ?_)
                rintro _ u4 ⟨r4, rfl, h⟩
                show mWP _ _ _ [qi r4, qi r3] _ _
                refine mp_icmp_ge (tgt := 126) (dz dl_Mod_next_1 29 118 (.if_icmp .ge (8)) 3 rfl) (by decide) (fun hc => ?_) (fun hc => ?_)
                · replace h := h.1 hc
                  refine mp_iload (i := 4) (x := l4) (dz dl_Mod_next_1 32 126 (.iload 4) 2 rfl) rfl ?_
                  refine mp_istore (i := 4) (dz dl_Mod_next_1 33 128 (.istore 4) 2 rfl) [qr 1 (some 0), qi l1, qi l2, qi l3, qi l4, qi l5, qi (1 : Int32), qi r3] (by decide) rfl ?_
                  refine mp_iinc (i := 5) (v := l5 + 1) (dz dl_Mod_next_1 34 130 (.iinc 5 (1)) 3 rfl) rfl (congrArg (fun z => l5 + z) (by decide)) [qr 1 (some 0), qi l1, qi l2, qi l3, qi l4, qi (l5 + 1), qi (1 : Int32), qi r3] (by decide) rfl ?_
                  refine mp_goto (tgt := 18) (dz dl_Mod_next_1 35 133 (.goto (-115)) 3 rfl) (by decide) ?_
                  exact mp_cut h ⟨Or.inr rfl, Or.inr rfl, Or.inr rfl, Or.inr rfl, Or.inr rfl, Or.inr rfl, Or.inl rfl, Or.inl rfl, trivial⟩
                · replace h := h.2 hc
                  refine mp_iload (i := 5) (x := l5) (dz dl_Mod_next_1 30 121 (.iload 5) 2 rfl) rfl ?_
                  refine mp_goto (tgt := 128) (dz dl_Mod_next_1 31 123 (.goto (5)) 3 rfl) (by decide) ?_
                  refine mp_istore (i := 4) (dz dl_Mod_next_1 33 128 (.istore 4) 2 rfl) [qr 1 (some 0), qi l1, qi l2, qi l3, qi l5, qi l5, qi (1 : Int32), qi r3] (by decide) rfl ?_
                  refine mp_iinc (i := 5) (v := l5 + 1) (dz dl_Mod_next_1 34 130 (.iinc 5 (1)) 3 rfl) rfl (congrArg (fun z => l5 + z) (by decide)) [qr 1 (some 0), qi l1, qi l2, qi l3, qi l5, qi (l5 + 1), qi (1 : Int32), qi r3] (by decide) rfl ?_
                  refine mp_goto (tgt := 18) (dz dl_Mod_next_1 35 133 (.goto (-115)) 3 rfl) (by decide) ?_
                  exact mp_cut h ⟨Or.inr rfl, Or.inr rfl, Or.inr rfl, Or.inr rfl, Or.inr rfl, Or.inr rfl, Or.inl rfl, Or.inl rfl, trivial⟩
        · replace h := h.2 hc
          refine mp_aload_n (i := 0) (v := qr 1 (some 0)) (dz dl_Mod_next_0 29 48 (.aload_n 0) 1 rfl) rfl rfl trivial ?_
          refine mp_getA (dz dl_Mod_next_0 30 49 (.getfield 91) 3 rfl) lk_Mod_91 (q := 0) kd_96 rfl sm_96 ?_
          refine mp_iconst (dz dl_Mod_next_0 31 52 (.iconst (5)) 1 rfl) (v := (5 : Int32)) (by decide) ?_
          refine mp_iload_n (i := 2) (x := l2) (dz dl_Mod_next_0 32 53 (.iload_n 2) 1 rfl) rfl rfl ?_
          refine mp_imul (dz dl_Mod_next_0 33 54 (.imul) 1 rfl) ?_
          refine mp_iload (i := 5) (x := l5) (dz dl_Mod_next_0 34 55 (.iload 5) 2 rfl) rfl ?_
          refine mp_iadd (dz dl_Mod_next_0 35 57 (.iadd) 1 rfl) ?_
          refine mp_iald (dz dl_Mod_next_0 36 58 (.iaload) 1 rfl) kd_96 rfl sm_96 i1 ?_
          refine mp_if_ne (tgt := 80) (dz dl_Mod_next_0 37 59 (.ifCond .ne (21)) 3 rfl) (by decide) (fun hc => ?_) (fun hc => ?_)
          · replace h := h.1 hc
            refine mp_iconst (dz dl_Mod_next_1 9 80 (.iconst (0)) 1 rfl) (v := (0 : Int32)) (by decide) ?_
            refine mp_istore (i := 6) (dz dl_Mod_next_1 10 81 (.istore 6) 2 rfl) [qr 1 (some 0), qi l1, qi l2, qi l3, qi l4, qi l5, qi (0 : Int32), none] (by decide) rfl ?_
            refine mp_aload_n (i := 0) (v := qr 1 (some 0)) (dz dl_Mod_next_1 11 83 (.aload_n 0) 1 rfl) rfl rfl trivial ?_
            refine mp_iload_n (i := 1) (x := l1) (dz dl_Mod_next_1 12 84 (.iload_n 1) 1 rfl) rfl rfl ?_
            refine mp_iload_n (i := 3) (x := l3) (dz dl_Mod_next_1 13 85 (.iload_n 3) 1 rfl) rfl rfl ?_
            refine mp_iload (i := 5) (x := l5) (dz dl_Mod_next_1 14 86 (.iload 5) 2 rfl) rfl ?_
            refine mp_callV [qi l1, qi l3, qi l5] [] (dz dl_Mod_next_1 15 88 (.invokevirtual 240) 3 rfl) ok_Mod_priced lm_Mod_240 ws_Mod_priced wv_Mod_priced ⟨Nat.le_of_ble_eq_true rfl, Nat.le_of_ble_eq_true rfl⟩ pn_Mod_priced (Nat.le_of_ble_eq_true rfl) (Nat.le_of_ble_eq_true rfl) (Or.inl rfl) (mmono h ?_)
            rintro _ u5 ⟨r5, rfl, h⟩
            show mWP _ _ _ [qi r5] _ _
            refine mp_istore (i := 7) (dz dl_Mod_next_1 16 91 (.istore 7) 2 rfl) [qr 1 (some 0), qi l1, qi l2, qi l3, qi l4, qi l5, qi (0 : Int32), qi r5] (by decide) rfl ?_
            refine mp_iload (i := 6) (x := (0 : Int32)) (dz dl_Mod_next_1 17 93 (.iload 6) 2 rfl) rfl ?_
            refine mp_if_eq (tgt := 126) (dz dl_Mod_next_1 18 95 (.ifCond .eq (31)) 3 rfl) (by decide) (fun hc => ?_) (fun hc => ?_)
            · replace h := h.1 hc
              refine mp_iload (i := 4) (x := l4) (dz dl_Mod_next_1 32 126 (.iload 4) 2 rfl) rfl ?_
              refine mp_istore (i := 4) (dz dl_Mod_next_1 33 128 (.istore 4) 2 rfl) [qr 1 (some 0), qi l1, qi l2, qi l3, qi l4, qi l5, qi (0 : Int32), qi r5] (by decide) rfl ?_
              refine mp_iinc (i := 5) (v := l5 + 1) (dz dl_Mod_next_1 34 130 (.iinc 5 (1)) 3 rfl) rfl (congrArg (fun z => l5 + z) (by decide)) [qr 1 (some 0), qi l1, qi l2, qi l3, qi l4, qi (l5 + 1), qi (0 : Int32), qi r5] (by decide) rfl ?_
              refine mp_goto (tgt := 18) (dz dl_Mod_next_1 35 133 (.goto (-115)) 3 rfl) (by decide) ?_
              exact mp_cut h ⟨Or.inr rfl, Or.inr rfl, Or.inr rfl, Or.inr rfl, Or.inr rfl, Or.inr rfl, Or.inl rfl, Or.inl rfl, trivial⟩
            · replace h := h.2 hc
              refine mp_iload (i := 7) (x := r5) (dz dl_Mod_next_1 19 98 (.iload 7) 2 rfl) rfl ?_
              refine mp_if_le (tgt := 126) (dz dl_Mod_next_1 20 100 (.ifCond .le (26)) 3 rfl) (by decide) (fun hc => ?_) (fun hc => ?_)
              · replace h := h.1 hc
                refine mp_iload (i := 4) (x := l4) (dz dl_Mod_next_1 32 126 (.iload 4) 2 rfl) rfl ?_
                refine mp_istore (i := 4) (dz dl_Mod_next_1 33 128 (.istore 4) 2 rfl) [qr 1 (some 0), qi l1, qi l2, qi l3, qi l4, qi l5, qi (0 : Int32), qi r5] (by decide) rfl ?_
                refine mp_iinc (i := 5) (v := l5 + 1) (dz dl_Mod_next_1 34 130 (.iinc 5 (1)) 3 rfl) rfl (congrArg (fun z => l5 + z) (by decide)) [qr 1 (some 0), qi l1, qi l2, qi l3, qi l4, qi (l5 + 1), qi (0 : Int32), qi r5] (by decide) rfl ?_
                refine mp_goto (tgt := 18) (dz dl_Mod_next_1 35 133 (.goto (-115)) 3 rfl) (by decide) ?_
                exact mp_cut h ⟨Or.inr rfl, Or.inr rfl, Or.inr rfl, Or.inr rfl, Or.inr rfl, Or.inr rfl, Or.inl rfl, Or.inl rfl, trivial⟩
              · replace h := h.2 hc
                refine mp_iload (i := 4) (x := l4) (dz dl_Mod_next_1 21 103 (.iload 4) 2 rfl) rfl ?_
                refine mp_if_lt (tgt := 121) (dz dl_Mod_next_1 22 105 (.ifCond .lt (16)) 3 rfl) (by decide) (fun hc => ?_) (fun hc => ?_)
                · replace h := h.1 hc
                  refine mp_iload (i := 5) (x := l5) (dz dl_Mod_next_1 30 121 (.iload 5) 2 rfl) rfl ?_
                  refine mp_goto (tgt := 128) (dz dl_Mod_next_1 31 123 (.goto (5)) 3 rfl) (by decide) ?_
                  refine mp_istore (i := 4) (dz dl_Mod_next_1 33 128 (.istore 4) 2 rfl) [qr 1 (some 0), qi l1, qi l2, qi l3, qi l5, qi l5, qi (0 : Int32), qi r5] (by decide) rfl ?_
                  refine mp_iinc (i := 5) (v := l5 + 1) (dz dl_Mod_next_1 34 130 (.iinc 5 (1)) 3 rfl) rfl (congrArg (fun z => l5 + z) (by decide)) [qr 1 (some 0), qi l1, qi l2, qi l3, qi l5, qi (l5 + 1), qi (0 : Int32), qi r5] (by decide) rfl ?_
                  refine mp_goto (tgt := 18) (dz dl_Mod_next_1 35 133 (.goto (-115)) 3 rfl) (by decide) ?_
                  exact mp_cut h ⟨Or.inr rfl, Or.inr rfl, Or.inr rfl, Or.inr rfl, Or.inr rfl, Or.inr rfl, Or.inl rfl, Or.inl rfl, trivial⟩
                · replace h := h.2 hc
                  refine mp_iload (i := 7) (x := r5) (dz dl_Mod_next_1 23 108 (.iload 7) 2 rfl) rfl ?_
                  refine mp_aload_n (i := 0) (v := qr 1 (some 0)) (dz dl_Mod_next_1 24 110 (.aload_n 0) 1 rfl) rfl rfl trivial ?_
                  refine mp_iload_n (i := 1) (x := l1) (dz dl_Mod_next_1 25 111 (.iload_n 1) 1 rfl) rfl rfl ?_
                  refine mp_iload_n (i := 3) (x := l3) (dz dl_Mod_next_1 26 112 (.iload_n 3) 1 rfl) rfl rfl ?_
                  refine mp_iload (i := 4) (x := l4) (dz dl_Mod_next_1 27 113 (.iload 4) 2 rfl) rfl ?_
                  refine mp_callV [qi l1, qi l3, qi l4] [qi r5] (dz dl_Mod_next_1 28 115 (.invokevirtual 240) 3 rfl) ok_Mod_priced lm_Mod_240 ws_Mod_priced wv_Mod_priced ⟨Nat.le_of_ble_eq_true rfl, Nat.le_of_ble_eq_true rfl⟩ pn_Mod_priced (Nat.le_of_ble_eq_true rfl) (Nat.le_of_ble_eq_true rfl) (Or.inl rfl) (mmono h ?_)
                  rintro _ u6 ⟨r6, rfl, h⟩
                  show mWP _ _ _ [qi r6, qi r5] _ _
                  refine mp_icmp_ge (tgt := 126) (dz dl_Mod_next_1 29 118 (.if_icmp .ge (8)) 3 rfl) (by decide) (fun hc => ?_) (fun hc => ?_)
                  · replace h := h.1 hc
                    refine mp_iload (i := 4) (x := l4) (dz dl_Mod_next_1 32 126 (.iload 4) 2 rfl) rfl ?_
                    refine mp_istore (i := 4) (dz dl_Mod_next_1 33 128 (.istore 4) 2 rfl) [qr 1 (some 0), qi l1, qi l2, qi l3, qi l4, qi l5, qi (0 : Int32), qi r5] (by decide) rfl ?_
                    refine mp_iinc (i := 5) (v := l5 + 1) (dz dl_Mod_next_1 34 130 (.iinc 5 (1)) 3 rfl) rfl (congrArg (fun z => l5 + z) (by decide)) [qr 1 (some 0), qi l1, qi l2, qi l3, qi l4, qi (l5 + 1), qi (0 : Int32), qi r5] (by decide) rfl ?_
                    refine mp_goto (tgt := 18) (dz dl_Mod_next_1 35 133 (.goto (-115)) 3 rfl) (by decide) ?_
                    exact mp_cut h ⟨Or.inr rfl, Or.inr rfl, Or.inr rfl, Or.inr rfl, Or.inr rfl, Or.inr rfl, Or.inl rfl, Or.inl rfl, trivial⟩
                  · replace h := h.2 hc
                    refine mp_iload (i := 5) (x := l5) (dz dl_Mod_next_1 30 121 (.iload 5) 2 rfl) rfl ?_
                    refine mp_goto (tgt := 128) (dz dl_Mod_next_1 31 123 (.goto (5)) 3 rfl) (by decide) ?_
                    refine mp_istore (i := 4) (dz dl_Mod_next_1 33 128 (.istore 4) 2 rfl) [qr 1 (some 0), qi l1, qi l2, qi l3, qi l5, qi l5, qi (0 : Int32), qi r5] (by decide) rfl ?_
                    refine mp_iinc (i := 5) (v := l5 + 1) (dz dl_Mod_next_1 34 130 (.iinc 5 (1)) 3 rfl) rfl (congrArg (fun z => l5 + z) (by decide)) [qr 1 (some 0), qi l1, qi l2, qi l3, qi l5, qi (l5 + 1), qi (0 : Int32), qi r5] (by decide) rfl ?_
                    refine mp_goto (tgt := 18) (dz dl_Mod_next_1 35 133 (.goto (-115)) 3 rfl) (by decide) ?_
                    exact mp_cut h ⟨Or.inr rfl, Or.inr rfl, Or.inr rfl, Or.inr rfl, Or.inr rfl, Or.inr rfl, Or.inl rfl, Or.inl rfl, trivial⟩
          · replace h := h.2 hc
            refine mp_aload_n (i := 0) (v := qr 1 (some 0)) (dz dl_Mod_next_0 38 62 (.aload_n 0) 1 rfl) rfl rfl trivial ?_
            refine mp_getA (dz dl_Mod_next_0 39 63 (.getfield 30) 3 rfl) lk_Mod_30 (q := 0) kd_75 rfl sm_75 ?_
            refine mp_iconst (dz dl_Mod_next_1 0 66 (.iconst (4)) 1 rfl) (v := (4 : Int32)) (by decide) ?_
            refine mp_iload_n (i := 1) (x := l1) (dz dl_Mod_next_1 1 67 (.iload_n 1) 1 rfl) rfl rfl ?_
            refine mp_imul (dz dl_Mod_next_1 2 68 (.imul) 1 rfl) ?_
            refine mp_iload (i := 5) (x := l5) (dz dl_Mod_next_1 3 69 (.iload 5) 2 rfl) rfl ?_
            refine mp_iadd (dz dl_Mod_next_1 4 71 (.iadd) 1 rfl) ?_
            obtain ⟨i2, h⟩ := h
            refine mp_zald (dz dl_Mod_next_1 5 72 (.baload) 1 rfl) kd_75 rfl sm_75 i2 ?_
            refine mp_if_eq (tgt := 80) (dz dl_Mod_next_1 6 73 (.ifCond .eq (7)) 3 rfl) (by decide) (fun hc => ?_) (fun hc => ?_)
            · replace h := h.1 hc
              refine mp_iconst (dz dl_Mod_next_1 9 80 (.iconst (0)) 1 rfl) (v := (0 : Int32)) (by decide) ?_
              refine mp_istore (i := 6) (dz dl_Mod_next_1 10 81 (.istore 6) 2 rfl) [qr 1 (some 0), qi l1, qi l2, qi l3, qi l4, qi l5, qi (0 : Int32), none] (by decide) rfl ?_
              refine mp_aload_n (i := 0) (v := qr 1 (some 0)) (dz dl_Mod_next_1 11 83 (.aload_n 0) 1 rfl) rfl rfl trivial ?_
              refine mp_iload_n (i := 1) (x := l1) (dz dl_Mod_next_1 12 84 (.iload_n 1) 1 rfl) rfl rfl ?_
              refine mp_iload_n (i := 3) (x := l3) (dz dl_Mod_next_1 13 85 (.iload_n 3) 1 rfl) rfl rfl ?_
              refine mp_iload (i := 5) (x := l5) (dz dl_Mod_next_1 14 86 (.iload 5) 2 rfl) rfl ?_
              refine mp_callV [qi l1, qi l3, qi l5] [] (dz dl_Mod_next_1 15 88 (.invokevirtual 240) 3 rfl) ok_Mod_priced lm_Mod_240 ws_Mod_priced wv_Mod_priced ⟨Nat.le_of_ble_eq_true rfl, Nat.le_of_ble_eq_true rfl⟩ pn_Mod_priced (Nat.le_of_ble_eq_true rfl) (Nat.le_of_ble_eq_true rfl) (Or.inl rfl) (mmono h ?_)
              rintro _ u7 ⟨r7, rfl, h⟩
              show mWP _ _ _ [qi r7] _ _
              refine mp_istore (i := 7) (dz dl_Mod_next_1 16 91 (.istore 7) 2 rfl) [qr 1 (some 0), qi l1, qi l2, qi l3, qi l4, qi l5, qi (0 : Int32), qi r7] (by decide) rfl ?_
              refine mp_iload (i := 6) (x := (0 : Int32)) (dz dl_Mod_next_1 17 93 (.iload 6) 2 rfl) rfl ?_
              refine mp_if_eq (tgt := 126) (dz dl_Mod_next_1 18 95 (.ifCond .eq (31)) 3 rfl) (by decide) (fun hc => ?_) (fun hc => ?_)
              · replace h := h.1 hc
                refine mp_iload (i := 4) (x := l4) (dz dl_Mod_next_1 32 126 (.iload 4) 2 rfl) rfl ?_
                refine mp_istore (i := 4) (dz dl_Mod_next_1 33 128 (.istore 4) 2 rfl) [qr 1 (some 0), qi l1, qi l2, qi l3, qi l4, qi l5, qi (0 : Int32), qi r7] (by decide) rfl ?_
                refine mp_iinc (i := 5) (v := l5 + 1) (dz dl_Mod_next_1 34 130 (.iinc 5 (1)) 3 rfl) rfl (congrArg (fun z => l5 + z) (by decide)) [qr 1 (some 0), qi l1, qi l2, qi l3, qi l4, qi (l5 + 1), qi (0 : Int32), qi r7] (by decide) rfl ?_
                refine mp_goto (tgt := 18) (dz dl_Mod_next_1 35 133 (.goto (-115)) 3 rfl) (by decide) ?_
                exact mp_cut h ⟨Or.inr rfl, Or.inr rfl, Or.inr rfl, Or.inr rfl, Or.inr rfl, Or.inr rfl, Or.inl rfl, Or.inl rfl, trivial⟩
              · replace h := h.2 hc
                refine mp_iload (i := 7) (x := r7) (dz dl_Mod_next_1 19 98 (.iload 7) 2 rfl) rfl ?_
                refine mp_if_le (tgt := 126) (dz dl_Mod_next_1 20 100 (.ifCond .le (26)) 3 rfl) (by decide) (fun hc => ?_) (fun hc => ?_)
                · replace h := h.1 hc
                  refine mp_iload (i := 4) (x := l4) (dz dl_Mod_next_1 32 126 (.iload 4) 2 rfl) rfl ?_
                  refine mp_istore (i := 4) (dz dl_Mod_next_1 33 128 (.istore 4) 2 rfl) [qr 1 (some 0), qi l1, qi l2, qi l3, qi l4, qi l5, qi (0 : Int32), qi r7] (by decide) rfl ?_
                  refine mp_iinc (i := 5) (v := l5 + 1) (dz dl_Mod_next_1 34 130 (.iinc 5 (1)) 3 rfl) rfl (congrArg (fun z => l5 + z) (by decide)) [qr 1 (some 0), qi l1, qi l2, qi l3, qi l4, qi (l5 + 1), qi (0 : Int32), qi r7] (by decide) rfl ?_
                  refine mp_goto (tgt := 18) (dz dl_Mod_next_1 35 133 (.goto (-115)) 3 rfl) (by decide) ?_
                  exact mp_cut h ⟨Or.inr rfl, Or.inr rfl, Or.inr rfl, Or.inr rfl, Or.inr rfl, Or.inr rfl, Or.inl rfl, Or.inl rfl, trivial⟩
                · replace h := h.2 hc
                  refine mp_iload (i := 4) (x := l4) (dz dl_Mod_next_1 21 103 (.iload 4) 2 rfl) rfl ?_
                  refine mp_if_lt (tgt := 121) (dz dl_Mod_next_1 22 105 (.ifCond .lt (16)) 3 rfl) (by decide) (fun hc => ?_) (fun hc => ?_)
                  · replace h := h.1 hc
                    refine mp_iload (i := 5) (x := l5) (dz dl_Mod_next_1 30 121 (.iload 5) 2 rfl) rfl ?_
                    refine mp_goto (tgt := 128) (dz dl_Mod_next_1 31 123 (.goto (5)) 3 rfl) (by decide) ?_
                    refine mp_istore (i := 4) (dz dl_Mod_next_1 33 128 (.istore 4) 2 rfl) [qr 1 (some 0), qi l1, qi l2, qi l3, qi l5, qi l5, qi (0 : Int32), qi r7] (by decide) rfl ?_
                    refine mp_iinc (i := 5) (v := l5 + 1) (dz dl_Mod_next_1 34 130 (.iinc 5 (1)) 3 rfl) rfl (congrArg (fun z => l5 + z) (by decide)) [qr 1 (some 0), qi l1, qi l2, qi l3, qi l5, qi (l5 + 1), qi (0 : Int32), qi r7] (by decide) rfl ?_
                    refine mp_goto (tgt := 18) (dz dl_Mod_next_1 35 133 (.goto (-115)) 3 rfl) (by decide) ?_
                    exact mp_cut h ⟨Or.inr rfl, Or.inr rfl, Or.inr rfl, Or.inr rfl, Or.inr rfl, Or.inr rfl, Or.inl rfl, Or.inl rfl, trivial⟩
                  · replace h := h.2 hc
                    refine mp_iload (i := 7) (x := r7) (dz dl_Mod_next_1 23 108 (.iload 7) 2 rfl) rfl ?_
                    refine mp_aload_n (i := 0) (v := qr 1 (some 0)) (dz dl_Mod_next_1 24 110 (.aload_n 0) 1 rfl) rfl rfl trivial ?_
                    refine mp_iload_n (i := 1) (x := l1) (dz dl_Mod_next_1 25 111 (.iload_n 1) 1 rfl) rfl rfl ?_
                    refine mp_iload_n (i := 3) (x := l3) (dz dl_Mod_next_1 26 112 (.iload_n 3) 1 rfl) rfl rfl ?_
                    refine mp_iload (i := 4) (x := l4) (dz dl_Mod_next_1 27 113 (.iload 4) 2 rfl) rfl ?_
                    refine mp_callV [qi l1, qi l3, qi l4] [qi r7] (dz dl_Mod_next_1 28 115 (.invokevirtual 240) 3 rfl) ok_Mod_priced lm_Mod_240 ws_Mod_priced wv_Mod_priced ⟨Nat.le_of_ble_eq_true rfl, Nat.le_of_ble_eq_true rfl⟩ pn_Mod_priced (Nat.le_of_ble_eq_true rfl) (Nat.le_of_ble_eq_true rfl) (Or.inl rfl) (mmono h ?_)
                    rintro _ u8 ⟨r8, rfl, h⟩
                    show mWP _ _ _ [qi r8, qi r7] _ _
                    refine mp_icmp_ge (tgt := 126) (dz dl_Mod_next_1 29 118 (.if_icmp .ge (8)) 3 rfl) (by decide) (fun hc => ?_) (fun hc => ?_)
                    · replace h := h.1 hc
                      refine mp_iload (i := 4) (x := l4) (dz dl_Mod_next_1 32 126 (.iload 4) 2 rfl) rfl ?_
                      refine mp_istore (i := 4) (dz dl_Mod_next_1 33 128 (.istore 4) 2 rfl) [qr 1 (some 0), qi l1, qi l2, qi l3, qi l4, qi l5, qi (0 : Int32), qi r7] (by decide) rfl ?_
                      refine mp_iinc (i := 5) (v := l5 + 1) (dz dl_Mod_next_1 34 130 (.iinc 5 (1)) 3 rfl) rfl (congrArg (fun z => l5 + z) (by decide)) [qr 1 (some 0), qi l1, qi l2, qi l3, qi l4, qi (l5 + 1), qi (0 : Int32), qi r7] (by decide) rfl ?_
                      refine mp_goto (tgt := 18) (dz dl_Mod_next_1 35 133 (.goto (-115)) 3 rfl) (by decide) ?_
                      exact mp_cut h ⟨Or.inr rfl, Or.inr rfl, Or.inr rfl, Or.inr rfl, Or.inr rfl, Or.inr rfl, Or.inl rfl, Or.inl rfl, trivial⟩
                    · replace h := h.2 hc
                      refine mp_iload (i := 5) (x := l5) (dz dl_Mod_next_1 30 121 (.iload 5) 2 rfl) rfl ?_
                      refine mp_goto (tgt := 128) (dz dl_Mod_next_1 31 123 (.goto (5)) 3 rfl) (by decide) ?_
                      refine mp_istore (i := 4) (dz dl_Mod_next_1 33 128 (.istore 4) 2 rfl) [qr 1 (some 0), qi l1, qi l2, qi l3, qi l5, qi l5, qi (0 : Int32), qi r7] (by decide) rfl ?_
                      refine mp_iinc (i := 5) (v := l5 + 1) (dz dl_Mod_next_1 34 130 (.iinc 5 (1)) 3 rfl) rfl (congrArg (fun z => l5 + z) (by decide)) [qr 1 (some 0), qi l1, qi l2, qi l3, qi l5, qi (l5 + 1), qi (0 : Int32), qi r7] (by decide) rfl ?_
                      refine mp_goto (tgt := 18) (dz dl_Mod_next_1 35 133 (.goto (-115)) 3 rfl) (by decide) ?_
                      exact mp_cut h ⟨Or.inr rfl, Or.inr rfl, Or.inr rfl, Or.inr rfl, Or.inr rfl, Or.inr rfl, Or.inl rfl, Or.inl rfl, trivial⟩
            · replace h := h.2 hc
              refine mp_iconst (dz dl_Mod_next_1 7 76 (.iconst (1)) 1 rfl) (v := (1 : Int32)) (by decide) ?_
              refine mp_goto (tgt := 81) (dz dl_Mod_next_1 8 77 (.goto (4)) 3 rfl) (by decide) ?_
              refine mp_istore (i := 6) (dz dl_Mod_next_1 10 81 (.istore 6) 2 rfl) [qr 1 (some 0), qi l1, qi l2, qi l3, qi l4, qi l5, qi (1 : Int32), none] (by decide) rfl ?_
              refine mp_aload_n (i := 0) (v := qr 1 (some 0)) (dz dl_Mod_next_1 11 83 (.aload_n 0) 1 rfl) rfl rfl trivial ?_
              refine mp_iload_n (i := 1) (x := l1) (dz dl_Mod_next_1 12 84 (.iload_n 1) 1 rfl) rfl rfl ?_
              refine mp_iload_n (i := 3) (x := l3) (dz dl_Mod_next_1 13 85 (.iload_n 3) 1 rfl) rfl rfl ?_
              refine mp_iload (i := 5) (x := l5) (dz dl_Mod_next_1 14 86 (.iload 5) 2 rfl) rfl ?_
              refine mp_callV [qi l1, qi l3, qi l5] [] (dz dl_Mod_next_1 15 88 (.invokevirtual 240) 3 rfl) ok_Mod_priced lm_Mod_240 ws_Mod_priced wv_Mod_priced ⟨Nat.le_of_ble_eq_true rfl, Nat.le_of_ble_eq_true rfl⟩ pn_Mod_priced (Nat.le_of_ble_eq_true rfl) (Nat.le_of_ble_eq_true rfl) (Or.inl rfl) (mmono h ?_)
              rintro _ u9 ⟨r9, rfl, h⟩
              show mWP _ _ _ [qi r9] _ _
              refine mp_istore (i := 7) (dz dl_Mod_next_1 16 91 (.istore 7) 2 rfl) [qr 1 (some 0), qi l1, qi l2, qi l3, qi l4, qi l5, qi (1 : Int32), qi r9] (by decide) rfl ?_
              refine mp_iload (i := 6) (x := (1 : Int32)) (dz dl_Mod_next_1 17 93 (.iload 6) 2 rfl) rfl ?_
              refine mp_if_eq (tgt := 126) (dz dl_Mod_next_1 18 95 (.ifCond .eq (31)) 3 rfl) (by decide) (fun hc => ?_) (fun hc => ?_)
              · replace h := h.1 hc
                refine mp_iload (i := 4) (x := l4) (dz dl_Mod_next_1 32 126 (.iload 4) 2 rfl) rfl ?_
                refine mp_istore (i := 4) (dz dl_Mod_next_1 33 128 (.istore 4) 2 rfl) [qr 1 (some 0), qi l1, qi l2, qi l3, qi l4, qi l5, qi (1 : Int32), qi r9] (by decide) rfl ?_
                refine mp_iinc (i := 5) (v := l5 + 1) (dz dl_Mod_next_1 34 130 (.iinc 5 (1)) 3 rfl) rfl (congrArg (fun z => l5 + z) (by decide)) [qr 1 (some 0), qi l1, qi l2, qi l3, qi l4, qi (l5 + 1), qi (1 : Int32), qi r9] (by decide) rfl ?_
                refine mp_goto (tgt := 18) (dz dl_Mod_next_1 35 133 (.goto (-115)) 3 rfl) (by decide) ?_
                exact mp_cut h ⟨Or.inr rfl, Or.inr rfl, Or.inr rfl, Or.inr rfl, Or.inr rfl, Or.inr rfl, Or.inl rfl, Or.inl rfl, trivial⟩
              · replace h := h.2 hc
                refine mp_iload (i := 7) (x := r9) (dz dl_Mod_next_1 19 98 (.iload 7) 2 rfl) rfl ?_
                refine mp_if_le (tgt := 126) (dz dl_Mod_next_1 20 100 (.ifCond .le (26)) 3 rfl) (by decide) (fun hc => ?_) (fun hc => ?_)
                · replace h := h.1 hc
                  refine mp_iload (i := 4) (x := l4) (dz dl_Mod_next_1 32 126 (.iload 4) 2 rfl) rfl ?_
                  refine mp_istore (i := 4) (dz dl_Mod_next_1 33 128 (.istore 4) 2 rfl) [qr 1 (some 0), qi l1, qi l2, qi l3, qi l4, qi l5, qi (1 : Int32), qi r9] (by decide) rfl ?_
                  refine mp_iinc (i := 5) (v := l5 + 1) (dz dl_Mod_next_1 34 130 (.iinc 5 (1)) 3 rfl) rfl (congrArg (fun z => l5 + z) (by decide)) [qr 1 (some 0), qi l1, qi l2, qi l3, qi l4, qi (l5 + 1), qi (1 : Int32), qi r9] (by decide) rfl ?_
                  refine mp_goto (tgt := 18) (dz dl_Mod_next_1 35 133 (.goto (-115)) 3 rfl) (by decide) ?_
                  exact mp_cut h ⟨Or.inr rfl, Or.inr rfl, Or.inr rfl, Or.inr rfl, Or.inr rfl, Or.inr rfl, Or.inl rfl, Or.inl rfl, trivial⟩
                · replace h := h.2 hc
                  refine mp_iload (i := 4) (x := l4) (dz dl_Mod_next_1 21 103 (.iload 4) 2 rfl) rfl ?_
                  refine mp_if_lt (tgt := 121) (dz dl_Mod_next_1 22 105 (.ifCond .lt (16)) 3 rfl) (by decide) (fun hc => ?_) (fun hc => ?_)
                  · replace h := h.1 hc
                    refine mp_iload (i := 5) (x := l5) (dz dl_Mod_next_1 30 121 (.iload 5) 2 rfl) rfl ?_
                    refine mp_goto (tgt := 128) (dz dl_Mod_next_1 31 123 (.goto (5)) 3 rfl) (by decide) ?_
                    refine mp_istore (i := 4) (dz dl_Mod_next_1 33 128 (.istore 4) 2 rfl) [qr 1 (some 0), qi l1, qi l2, qi l3, qi l5, qi l5, qi (1 : Int32), qi r9] (by decide) rfl ?_
                    refine mp_iinc (i := 5) (v := l5 + 1) (dz dl_Mod_next_1 34 130 (.iinc 5 (1)) 3 rfl) rfl (congrArg (fun z => l5 + z) (by decide)) [qr 1 (some 0), qi l1, qi l2, qi l3, qi l5, qi (l5 + 1), qi (1 : Int32), qi r9] (by decide) rfl ?_
                    refine mp_goto (tgt := 18) (dz dl_Mod_next_1 35 133 (.goto (-115)) 3 rfl) (by decide) ?_
                    exact mp_cut h ⟨Or.inr rfl, Or.inr rfl, Or.inr rfl, Or.inr rfl, Or.inr rfl, Or.inr rfl, Or.inl rfl, Or.inl rfl, trivial⟩
                  · replace h := h.2 hc
                    refine mp_iload (i := 7) (x := r9) (dz dl_Mod_next_1 23 108 (.iload 7) 2 rfl) rfl ?_
                    refine mp_aload_n (i := 0) (v := qr 1 (some 0)) (dz dl_Mod_next_1 24 110 (.aload_n 0) 1 rfl) rfl rfl trivial ?_
                    refine mp_iload_n (i := 1) (x := l1) (dz dl_Mod_next_1 25 111 (.iload_n 1) 1 rfl) rfl rfl ?_
                    refine mp_iload_n (i := 3) (x := l3) (dz dl_Mod_next_1 26 112 (.iload_n 3) 1 rfl) rfl rfl ?_
                    refine mp_iload (i := 4) (x := l4) (dz dl_Mod_next_1 27 113 (.iload 4) 2 rfl) rfl ?_
                    refine mp_callV [qi l1, qi l3, qi l4] [qi r9] (dz dl_Mod_next_1 28 115 (.invokevirtual 240) 3 rfl) ok_Mod_priced lm_Mod_240 ws_Mod_priced wv_Mod_priced ⟨Nat.le_of_ble_eq_true rfl, Nat.le_of_ble_eq_true rfl⟩ pn_Mod_priced (Nat.le_of_ble_eq_true rfl) (Nat.le_of_ble_eq_true rfl) (Or.inl rfl) (mmono h ?_)
                    rintro _ u10 ⟨r10, rfl, h⟩
                    show mWP _ _ _ [qi r10, qi r9] _ _
                    refine mp_icmp_ge (tgt := 126) (dz dl_Mod_next_1 29 118 (.if_icmp .ge (8)) 3 rfl) (by decide) (fun hc => ?_) (fun hc => ?_)
                    · replace h := h.1 hc
                      refine mp_iload (i := 4) (x := l4) (dz dl_Mod_next_1 32 126 (.iload 4) 2 rfl) rfl ?_
                      refine mp_istore (i := 4) (dz dl_Mod_next_1 33 128 (.istore 4) 2 rfl) [qr 1 (some 0), qi l1, qi l2, qi l3, qi l4, qi l5, qi (1 : Int32), qi r9] (by decide) rfl ?_
                      refine mp_iinc (i := 5) (v := l5 + 1) (dz dl_Mod_next_1 34 130 (.iinc 5 (1)) 3 rfl) rfl (congrArg (fun z => l5 + z) (by decide)) [qr 1 (some 0), qi l1, qi l2, qi l3, qi l4, qi (l5 + 1), qi (1 : Int32), qi r9] (by decide) rfl ?_
                      refine mp_goto (tgt := 18) (dz dl_Mod_next_1 35 133 (.goto (-115)) 3 rfl) (by decide) ?_
                      exact mp_cut h ⟨Or.inr rfl, Or.inr rfl, Or.inr rfl, Or.inr rfl, Or.inr rfl, Or.inr rfl, Or.inl rfl, Or.inl rfl, trivial⟩
                    · replace h := h.2 hc
                      refine mp_iload (i := 5) (x := l5) (dz dl_Mod_next_1 30 121 (.iload 5) 2 rfl) rfl ?_
                      refine mp_goto (tgt := 128) (dz dl_Mod_next_1 31 123 (.goto (5)) 3 rfl) (by decide) ?_
                      refine mp_istore (i := 4) (dz dl_Mod_next_1 33 128 (.istore 4) 2 rfl) [qr 1 (some 0), qi l1, qi l2, qi l3, qi l5, qi l5, qi (1 : Int32), qi r9] (by decide) rfl ?_
                      refine mp_iinc (i := 5) (v := l5 + 1) (dz dl_Mod_next_1 34 130 (.iinc 5 (1)) 3 rfl) rfl (congrArg (fun z => l5 + z) (by decide)) [qr 1 (some 0), qi l1, qi l2, qi l3, qi l5, qi (l5 + 1), qi (1 : Int32), qi r9] (by decide) rfl ?_
                      refine mp_goto (tgt := 18) (dz dl_Mod_next_1 35 133 (.goto (-115)) 3 rfl) (by decide) ?_
                      exact mp_cut h ⟨Or.inr rfl, Or.inr rfl, Or.inr rfl, Or.inr rfl, Or.inr rfl, Or.inr rfl, Or.inl rfl, Or.inl rfl, trivial⟩

theorem mb_Mod_producer_0 {u : MS} {l1 : Int32} {l2 : Int32} {l3 : Int32} {Z : Int32 → MS → Prop} (h : mWP M_Mod_producer 3 [qr 1 (some 0), qi l1, qi l2, qi l3, qi (0 : Int32)] [] u (mI Z)) : mWP M_Mod_producer 0 [qr 1 (some 0), qi l1, qi l2, qi l3, none] [] u (mI Z) := by
  refine mp_iconst (dz dl_Mod_producer_0 0 0 (.iconst (0)) 1 rfl) (v := (0 : Int32)) (by decide) ?_
  refine mp_istore (i := 4) (dz dl_Mod_producer_0 1 1 (.istore 4) 2 rfl) [qr 1 (some 0), qi l1, qi l2, qi l3, qi (0 : Int32)] (by decide) rfl ?_
  exact mp_cut h ⟨Or.inr rfl, Or.inr rfl, Or.inr rfl, Or.inr rfl, Or.inr rfl, trivial⟩
theorem mt_Mod_producer {u : MS} {l1 : Int32} {l2 : Int32} {l3 : Int32} {Z : Int32 → MS → Prop} (h : mWP M_Mod_producer 3 [qr 1 (some 0), qi l1, qi l2, qi l3, qi (0 : Int32)] [] u (mI Z)) : mMT M_Mod_producer [qr 1 (some 0), qi l1, qi l2, qi l3] u (mI Z) := mb_Mod_producer_0 h

theorem mb_Mod_producer_3 {u : MS} {l1 : Int32} {l2 : Int32} {l3 : Int32} {l4 : Int32} {Z : Int32 → MS → Prop} (h : ((u 70 0) ≤ l4 → Z (-1 : Int32) u) ∧ (¬ (u 70 0) ≤ l4 → vp_in l4 48 ∧ (¬ (u 89 l4.toNatClampNeg) = (l1 + (1 : Int32)) → mWP M_Mod_producer 3 [qr 1 (some 0), qi l1, qi l2, qi l3, qi (l4 + 1)] [] u (mI Z)) ∧ ((u 89 l4.toNatClampNeg) = (l1 + (1 : Int32)) → mMT M_Mod_answers [qr 1 (some 0), qi l4, qi l2, qi l3] u (mI fun r1 u1 => (r1 = 0 → mWP M_Mod_producer 3 [qr 1 (some 0), qi l1, qi l2, qi l3, qi (l4 + 1)] [] u1 (mI Z)) ∧ (¬ r1 = 0 → Z l4 u1))))) : mWP M_Mod_producer 3 [qr 1 (some 0), qi l1, qi l2, qi l3, qi l4] [] u (mI Z) := by
  refine mp_iload (i := 4) (x := l4) (dz dl_Mod_producer_0 2 3 (.iload 4) 2 rfl) rfl ?_
  refine mp_aload_n (i := 0) (v := qr 1 (some 0)) (dz dl_Mod_producer_0 3 5 (.aload_n 0) 1 rfl) rfl rfl trivial ?_
  refine mp_getI (dz dl_Mod_producer_0 4 6 (.getfield 13) 3 rfl) lk_Mod_13 kd_70 rfl ?_
  refine mp_icmp_ge (tgt := 45) (dz dl_Mod_producer_0 5 9 (.if_icmp .ge (36)) 3 rfl) (by decide) (fun hc => ?_) (fun hc => ?_)
  · replace h := h.1 hc
    refine mp_iconst (dz dl_Mod_producer_0 24 45 (.iconst (-1)) 1 rfl) (v := (-1 : Int32)) (by decide) ?_
    exact mp_rt (qi _) (rt_I rfl (dz dl_Mod_producer_0 25 46 (.ireturn) 1 rfl)) ⟨_, rfl, h⟩
  · replace h := h.2 hc
    refine mp_aload_n (i := 0) (v := qr 1 (some 0)) (dz dl_Mod_producer_0 6 12 (.aload_n 0) 1 rfl) rfl rfl trivial ?_
    refine mp_getA (dz dl_Mod_producer_0 7 13 (.getfield 70) 3 rfl) lk_Mod_70 (q := 0) kd_89 rfl sm_89 ?_
    refine mp_iload (i := 4) (x := l4) (dz dl_Mod_producer_0 8 16 (.iload 4) 2 rfl) rfl ?_
    obtain ⟨i1, h⟩ := h
    refine mp_iald (dz dl_Mod_producer_0 9 18 (.iaload) 1 rfl) kd_89 rfl sm_89 i1 ?_
    refine mp_iload_n (i := 1) (x := l1) (dz dl_Mod_producer_0 10 19 (.iload_n 1) 1 rfl) rfl rfl ?_
    refine mp_iconst (dz dl_Mod_producer_0 11 20 (.iconst (1)) 1 rfl) (v := (1 : Int32)) (by decide) ?_
    refine mp_iadd (dz dl_Mod_producer_0 12 21 (.iadd) 1 rfl) ?_
    refine mp_icmp_ne (tgt := 39) (dz dl_Mod_producer_0 13 22 (.if_icmp .ne (17)) 3 rfl) (by decide) (fun hc => ?_) (fun hc => ?_)
    · replace h := h.1 hc
      refine mp_iinc (i := 4) (v := l4 + 1) (dz dl_Mod_producer_0 22 39 (.iinc 4 (1)) 3 rfl) rfl (congrArg (fun z => l4 + z) (by decide)) [qr 1 (some 0), qi l1, qi l2, qi l3, qi (l4 + 1)] (by decide) rfl ?_
      refine mp_goto (tgt := 3) (dz dl_Mod_producer_0 23 42 (.goto (-39)) 3 rfl) (by decide) ?_
      exact mp_cut h ⟨Or.inr rfl, Or.inr rfl, Or.inr rfl, Or.inr rfl, Or.inr rfl, trivial⟩
    · replace h := h.2 hc
      refine mp_aload_n (i := 0) (v := qr 1 (some 0)) (dz dl_Mod_producer_0 14 25 (.aload_n 0) 1 rfl) rfl rfl trivial ?_
      refine mp_iload (i := 4) (x := l4) (dz dl_Mod_producer_0 15 26 (.iload 4) 2 rfl) rfl ?_
      refine mp_iload_n (i := 2) (x := l2) (dz dl_Mod_producer_0 16 28 (.iload_n 2) 1 rfl) rfl rfl ?_
      refine mp_iload_n (i := 3) (x := l3) (dz dl_Mod_producer_0 17 29 (.iload_n 3) 1 rfl) rfl rfl ?_
      refine mp_callV [qi l4, qi l2, qi l3] [] (dz dl_Mod_producer_0 18 30 (.invokevirtual 256) 3 rfl) ok_Mod_answers lm_Mod_256 ws_Mod_answers wv_Mod_answers ⟨Nat.le_of_ble_eq_true rfl, Nat.le_of_ble_eq_true rfl⟩ pn_Mod_answers (Nat.le_of_ble_eq_true rfl) (Nat.le_of_ble_eq_true rfl) (Or.inl rfl) (mmono h ?_)
      rintro _ u1 ⟨r1, rfl, h⟩
      show mWP _ _ _ [qi r1] _ _
      refine mp_if_eq (tgt := 39) (dz dl_Mod_producer_0 19 33 (.ifCond .eq (6)) 3 rfl) (by decide) (fun hc => ?_) (fun hc => ?_)
      · replace h := h.1 hc
        refine mp_iinc (i := 4) (v := l4 + 1) (dz dl_Mod_producer_0 22 39 (.iinc 4 (1)) 3 rfl) rfl (congrArg (fun z => l4 + z) (by decide)) [qr 1 (some 0), qi l1, qi l2, qi l3, qi (l4 + 1)] (by decide) rfl ?_
        refine mp_goto (tgt := 3) (dz dl_Mod_producer_0 23 42 (.goto (-39)) 3 rfl) (by decide) ?_
        exact mp_cut h ⟨Or.inr rfl, Or.inr rfl, Or.inr rfl, Or.inr rfl, Or.inr rfl, trivial⟩
      · replace h := h.2 hc
        refine mp_iload (i := 4) (x := l4) (dz dl_Mod_producer_0 20 36 (.iload 4) 2 rfl) rfl ?_
        exact mp_rt (qi _) (rt_I rfl (dz dl_Mod_producer_0 21 38 (.ireturn) 1 rfl)) ⟨_, rfl, h⟩

theorem mb_Mod_passOn_0 {u : MS} {l1 : Int32} {l2 : Int32} {l3 : Int32} {l4 : Int32} {l5 : Int32} {Z : MS → Prop} (h : mWP M_Mod_passOn 10 [qr 1 (some 0), qi l1, qi l2, qi l3, qi l4, none, qi l5, qi (1 : Int32), qi (0 : Int32), none, none, none] [] u (mV Z)) : mWP M_Mod_passOn 0 [qr 1 (some 0), qi l1, qi l2, qi l3, qi l4, qi l5, none, none, none, none, none, none] [] u (mV Z) := by
  refine mp_iload (i := 5) (x := l5) (dz dl_Mod_passOn_0 0 0 (.iload 5) 2 rfl) rfl ?_
  refine mp_istore (i := 6) (dz dl_Mod_passOn_0 1 2 (.istore 6) 2 rfl) [qr 1 (some 0), qi l1, qi l2, qi l3, qi l4, qi l5, qi l5, none, none, none, none, none] (by decide) rfl ?_
  refine mp_iconst (dz dl_Mod_passOn_0 2 4 (.iconst (1)) 1 rfl) (v := (1 : Int32)) (by decide) ?_
  refine mp_istore (i := 7) (dz dl_Mod_passOn_0 3 5 (.istore 7) 2 rfl) [qr 1 (some 0), qi l1, qi l2, qi l3, qi l4, qi l5, qi l5, qi (1 : Int32), none, none, none, none] (by decide) rfl ?_
  refine mp_iconst (dz dl_Mod_passOn_0 4 7 (.iconst (0)) 1 rfl) (v := (0 : Int32)) (by decide) ?_
  refine mp_istore (i := 8) (dz dl_Mod_passOn_0 5 8 (.istore 8) 2 rfl) [qr 1 (some 0), qi l1, qi l2, qi l3, qi l4, qi l5, qi l5, qi (1 : Int32), qi (0 : Int32), none, none, none] (by decide) rfl ?_
  exact mp_cut h ⟨Or.inr rfl, Or.inr rfl, Or.inr rfl, Or.inr rfl, Or.inr rfl, Or.inl rfl, Or.inr rfl, Or.inr rfl, Or.inr rfl, Or.inl rfl, Or.inl rfl, Or.inl rfl, trivial⟩
theorem mt_Mod_passOn {u : MS} {l1 : Int32} {l2 : Int32} {l3 : Int32} {l4 : Int32} {l5 : Int32} {Z : MS → Prop} (h : mWP M_Mod_passOn 10 [qr 1 (some 0), qi l1, qi l2, qi l3, qi l4, none, qi l5, qi (1 : Int32), qi (0 : Int32), none, none, none] [] u (mV Z)) : mMT M_Mod_passOn [qr 1 (some 0), qi l1, qi l2, qi l3, qi l4, qi l5] u (mV Z) := mb_Mod_passOn_0 h

theorem mb_Mod_passOn_10 {u : MS} {l1 : Int32} {l2 : Int32} {l3 : Int32} {l4 : Int32} {l6 : Int32} {l7 : Int32} {l8 : Int32} {Z : MS → Prop} (h : ((6 : Int32) ≤ l8 → Z u) ∧ (¬ (6 : Int32) ≤ l8 → (l7 = 0 → Z u) ∧ (¬ l7 = 0 → mMT M_Mod_entry [qr 1 (some 0), qi l1, qi l2, qi l3] u (mI fun r1 u1 => mMT M_Mod_next [qr 1 (some 0), qi l1, qi r1] u1 (mI fun r2 u2 => (r2 < 0 → mMT M_Mod_failIfDone [qr 1 (some 0), qi l1, qi r1] u2 (mV fun u3 => mWP M_Mod_passOn 10 [qr 1 (some 0), qi l1, qi l2, qi l3, qi l4, none, qi l6, qi (0 : Int32), qi (l8 + 1), none, none, none] [] u3 (mV Z))) ∧ (¬ r2 < 0 → ((4 : Int32) ≤ r2 → vp_in (((5 : Int32) * r1) + r2) 150 ∧ ∀ u4, u4 = mu u2 99 (((5 : Int32) * r1) + r2).toNatClampNeg (1 : Int32) → ∀ u5, u5 = mu u4 100 (((5 : Int32) * r1) + r2).toNatClampNeg l4 → (¬ r2 = (4 : Int32) → mWP M_Mod_passOn 113 [qr 1 (some 0), qi l1, qi l2, qi l3, qi l4, none, qi l6, qi (0 : Int32), qi l8, qi r1, qi r2, none] [qi (-1 : Int32)] u5 (mV Z)) ∧ (r2 = (4 : Int32) → mMT M_Mod_producer [qr 1 (some 0), qi l1, qi l2, qi l3] u5 (mI fun r3 u6 => mWP M_Mod_passOn 113 [qr 1 (some 0), qi l1, qi l2, qi l3, qi l4, none, qi l6, qi (0 : Int32), qi l8, qi r1, qi r2, none] [qi r3] u6 (mV Z)))) ∧ (¬ (4 : Int32) ≤ r2 → (¬ l6 = 0 → vp_in (((5 : Int32) * r1) + r2) 150 ∧ ∀ u7, u7 = mu u2 99 (((5 : Int32) * r1) + r2).toNatClampNeg (1 : Int32) → ∀ u8, u8 = mu u7 100 (((5 : Int32) * r1) + r2).toNatClampNeg l4 → (¬ r2 = (4 : Int32) → mWP M_Mod_passOn 113 [qr 1 (some 0), qi l1, qi l2, qi l3, qi l4, none, qi l6, qi (0 : Int32), qi l8, qi r1, qi r2, none] [qi (-1 : Int32)] u8 (mV Z)) ∧ (r2 = (4 : Int32) → mMT M_Mod_producer [qr 1 (some 0), qi l1, qi l2, qi l3] u8 (mI fun r4 u9 => mWP M_Mod_passOn 113 [qr 1 (some 0), qi l1, qi l2, qi l3, qi l4, none, qi l6, qi (0 : Int32), qi l8, qi r1, qi r2, none] [qi r4] u9 (mV Z)))) ∧ (l6 = 0 → mMT M_Mod_failIfDone [qr 1 (some 0), qi l1, qi r1] u2 (mV fun u10 => mWP M_Mod_passOn 10 [qr 1 (some 0), qi l1, qi l2, qi l3, qi l4, none, qi l6, qi (0 : Int32), qi (l8 + 1), none, none, none] [] u10 (mV Z)))))))))) : mWP M_Mod_passOn 10 [qr 1 (some 0), qi l1, qi l2, qi l3, qi l4, none, qi l6, qi l7, qi l8, none, none, none] [] u (mV Z) := by
  refine mp_iload (i := 8) (x := l8) (dz dl_Mod_passOn_0 6 10 (.iload 8) 2 rfl) rfl ?_
  refine mp_bipush (dz dl_Mod_passOn_0 7 12 (.bipush (6)) 2 rfl) (v := (6 : Int32)) (by decide) ?_
  refine mp_icmp_ge (tgt := 203) (dz dl_Mod_passOn_0 8 14 (.if_icmp .ge (189)) 3 rfl) (by decide) (fun hc => ?_) (fun hc => ?_)
  · replace h := h.1 hc
    exact mp_rt none (rt_V rfl (dz dl_Mod_passOn_2 37 203 (.return_) 1 rfl)) ⟨rfl, h⟩
  · replace h := h.2 hc
    refine mp_iload (i := 7) (x := l7) (dz dl_Mod_passOn_0 9 17 (.iload 7) 2 rfl) rfl ?_
    refine mp_if_eq (tgt := 203) (dz dl_Mod_passOn_0 10 19 (.ifCond .eq (184)) 3 rfl) (by decide) (fun hc => ?_) (fun hc => ?_)
    · replace h := h.1 hc
      exact mp_rt none (rt_V rfl (dz dl_Mod_passOn_2 37 203 (.return_) 1 rfl)) ⟨rfl, h⟩
    · replace h := h.2 hc
      refine mp_iconst (dz dl_Mod_passOn_0 11 22 (.iconst (0)) 1 rfl) (v := (0 : Int32)) (by decide) ?_
      refine mp_istore (i := 7) (dz dl_Mod_passOn_0 12 23 (.istore 7) 2 rfl) [qr 1 (some 0), qi l1, qi l2, qi l3, qi l4, none, qi l6, qi (0 : Int32), qi l8, none, none, none] (by decide) rfl ?_
      refine mp_aload_n (i := 0) (v := qr 1 (some 0)) (dz dl_Mod_passOn_0 13 25 (.aload_n 0) 1 rfl) rfl rfl trivial ?_
      refine mp_iload_n (i := 1) (x := l1) (dz dl_Mod_passOn_0 14 26 (.iload_n 1) 1 rfl) rfl rfl ?_
      refine mp_iload_n (i := 2) (x := l2) (dz dl_Mod_passOn_0 15 27 (.iload_n 2) 1 rfl) rfl rfl ?_
      refine mp_iload_n (i := 3) (x := l3) (dz dl_Mod_passOn_0 16 28 (.iload_n 3) 1 rfl) rfl rfl ?_
      refine mp_callV [qi l1, qi l2, qi l3] [] (dz dl_Mod_passOn_0 17 29 (.invokevirtual 266) 3 rfl) ok_Mod_entry lm_Mod_266 ws_Mod_entry wv_Mod_entry ⟨Nat.le_of_ble_eq_true rfl, Nat.le_of_ble_eq_true rfl⟩ pn_Mod_entry (Nat.le_of_ble_eq_true rfl) (Nat.le_of_ble_eq_true rfl) (Or.inl rfl) (mmono h ?_)
      rintro _ u1 ⟨r1, rfl, h⟩
      show mWP _ _ _ [qi r1] _ _
      refine mp_istore (i := 9) (dz dl_Mod_passOn_0 18 32 (.istore 9) 2 rfl) [qr 1 (some 0), qi l1, qi l2, qi l3, qi l4, none, qi l6, qi (0 : Int32), qi l8, qi r1, none, none] (by decide) rfl ?_
      refine mp_aload_n (i := 0) (v := qr 1 (some 0)) (dz dl_Mod_passOn_0 19 34 (.aload_n 0) 1 rfl) rfl rfl trivial ?_
      refine mp_iload_n (i := 1) (x := l1) (dz dl_Mod_passOn_0 20 35 (.iload_n 1) 1 rfl) rfl rfl ?_
      refine mp_iload (i := 9) (x := r1) (dz dl_Mod_passOn_0 21 36 (.iload 9) 2 rfl) rfl ?_
      refine mp_callV [qi l1, qi r1] [] (dz dl_Mod_passOn_0 22 38 (.invokevirtual 287) 3 rfl) ok_Mod_next lm_Mod_287 ws_Mod_next wv_Mod_next ⟨Nat.le_of_ble_eq_true rfl, Nat.le_of_ble_eq_true rfl⟩ pn_Mod_next (Nat.le_of_ble_eq_true rfl) (Nat.le_of_ble_eq_true rfl) (Or.inl rfl) (mmono h ?_)
      rintro _ u2 ⟨r2, rfl, h⟩
      show mWP _ _ _ [qi r2] _ _
      refine mp_istore (i := 10) (dz dl_Mod_passOn_0 23 41 (.istore 10) 2 rfl) [qr 1 (some 0), qi l1, qi l2, qi l3, qi l4, none, qi l6, qi (0 : Int32), qi l8, qi r1, qi r2, none] (by decide) rfl ?_
      refine mp_iload (i := 10) (x := r2) (dz dl_Mod_passOn_0 24 43 (.iload 10) 2 rfl) rfl ?_
      refine mp_if_lt (tgt := 59) (dz dl_Mod_passOn_0 25 45 (.ifCond .lt (14)) 3 rfl) (by decide) (fun hc => ?_) (fun hc => ?_)
      · replace h := h.1 hc
        refine mp_aload_n (i := 0) (v := qr 1 (some 0)) (dz dl_Mod_passOn_0 31 59 (.aload_n 0) 1 rfl) rfl rfl trivial ?_
        refine mp_iload_n (i := 1) (x := l1) (dz dl_Mod_passOn_0 32 60 (.iload_n 1) 1 rfl) rfl rfl ?_
        refine mp_iload (i := 9) (x := r1) (dz dl_Mod_passOn_0 33 61 (.iload 9) 2 rfl) rfl ?_
        refine mp_callV [qi l1, qi r1] [] (dz dl_Mod_passOn_0 34 63 (.invokevirtual 290) 3 rfl) ok_Mod_failIfDone lm_Mod_290 ws_Mod_failIfDone wv_Mod_failIfDone ⟨Nat.le_of_ble_eq_true rfl, Nat.le_of_ble_eq_true rfl⟩ pn_Mod_failIfDone (Nat.le_of_ble_eq_true rfl) (Nat.le_of_ble_eq_true rfl) (Or.inl rfl) (mmono h ?_)
        rintro _ u3 ⟨rfl, h⟩
        show mWP _ _ _ [] _ _
        refine mp_goto (tgt := 197) (dz dl_Mod_passOn_0 35 66 (.goto (131)) 3 rfl) (by decide) ?_
        refine mp_iinc (i := 8) (v := l8 + 1) (dz dl_Mod_passOn_2 35 197 (.iinc 8 (1)) 3 rfl) rfl (congrArg (fun z => l8 + z) (by decide)) [qr 1 (some 0), qi l1, qi l2, qi l3, qi l4, none, qi l6, qi (0 : Int32), qi (l8 + 1), qi r1, qi r2, none] (by decide) rfl ?_
        refine mp_goto (tgt := 10) (dz dl_Mod_passOn_2 36 200 (.goto (-190)) 3 rfl) (by decide) ?_
        exact mp_cut h ⟨Or.inr rfl, Or.inr rfl, Or.inr rfl, Or.inr rfl, Or.inr rfl, Or.inl rfl, Or.inr rfl, Or.inr rfl, Or.inr rfl, Or.inl rfl, Or.inl rfl, Or.inl rfl, trivial⟩
      · replace h := h.2 hc
        refine mp_iload (i := 10) (x := r2) (dz dl_Mod_passOn_0 26 48 (.iload 10) 2 rfl) rfl ?_
        refine mp_iconst (dz dl_Mod_passOn_0 27 50 (.iconst (4)) 1 rfl) (v := (4 : Int32)) (by decide) ?_
        refine mp_icmp_ge (tgt := 69) (dz dl_Mod_passOn_0 28 51 (.if_icmp .ge (18)) 3 rfl) (by decide) (fun hc => ?_) (fun hc => ?_)
        · replace h := h.1 hc
          refine mp_aload_n (i := 0) (v := qr 1 (some 0)) (dz dl_Mod_passOn_0 36 69 (.aload_n 0) 1 rfl) rfl rfl trivial ?_
          refine mp_getA (dz dl_Mod_passOn_0 37 70 (.getfield 100) 3 rfl) lk_Mod_100 (q := 0) kd_99 rfl sm_99 ?_
          refine mp_iconst (dz dl_Mod_passOn_0 38 73 (.iconst (5)) 1 rfl) (v := (5 : Int32)) (by decide) ?_
          refine mp_iload (i := 9) (x := r1) (dz dl_Mod_passOn_0 39 74 (.iload 9) 2 rfl) rfl ?_
          refine mp_imul (dz dl_Mod_passOn_1 0 76 (.imul) 1 rfl) ?_
          refine mp_iload (i := 10) (x := r2) (dz dl_Mod_passOn_1 1 77 (.iload 10) 2 rfl) rfl ?_
          refine mp_iadd (dz dl_Mod_passOn_1 2 79 (.iadd) 1 rfl) ?_
          refine mp_iconst (dz dl_Mod_passOn_1 3 80 (.iconst (1)) 1 rfl) (v := (1 : Int32)) (by decide) ?_
          obtain ⟨i1, h⟩ := h
          have h := h _ rfl
          refine mp_iast (dz dl_Mod_passOn_1 4 81 (.iastore) 1 rfl) kd_99 rfl sm_99 i1 rfl ?_
          refine mp_aload_n (i := 0) (v := qr 1 (some 0)) (dz dl_Mod_passOn_1 5 82 (.aload_n 0) 1 rfl) rfl rfl trivial ?_
          refine mp_getA (dz dl_Mod_passOn_1 6 83 (.getfield 103) 3 rfl) lk_Mod_103 (q := 0) kd_100 rfl sm_100 ?_
          refine mp_iconst (dz dl_Mod_passOn_1 7 86 (.iconst (5)) 1 rfl) (v := (5 : Int32)) (by decide) ?_
          refine mp_iload (i := 9) (x := r1) (dz dl_Mod_passOn_1 8 87 (.iload 9) 2 rfl) rfl ?_
          refine mp_imul (dz dl_Mod_passOn_1 9 89 (.imul) 1 rfl) ?_
          refine mp_iload (i := 10) (x := r2) (dz dl_Mod_passOn_1 10 90 (.iload 10) 2 rfl) rfl ?_
          refine mp_iadd (dz dl_Mod_passOn_1 11 92 (.iadd) 1 rfl) ?_
          refine mp_iload (i := 4) (x := l4) (dz dl_Mod_passOn_1 12 93 (.iload 4) 2 rfl) rfl ?_
          have h := h _ rfl
          refine mp_iast (dz dl_Mod_passOn_1 13 95 (.iastore) 1 rfl) kd_100 rfl sm_100 i1 rfl ?_
          refine mp_iload (i := 10) (x := r2) (dz dl_Mod_passOn_1 14 96 (.iload 10) 2 rfl) rfl ?_
          refine mp_iconst (dz dl_Mod_passOn_1 15 98 (.iconst (4)) 1 rfl) (v := (4 : Int32)) (by decide) ?_
          refine mp_icmp_ne (tgt := 112) (dz dl_Mod_passOn_1 16 99 (.if_icmp .ne (13)) 3 rfl) (by decide) (fun hc => ?_) (fun hc => ?_)
          · replace h := h.1 hc
            refine mp_iconst (dz dl_Mod_passOn_1 23 112 (.iconst (-1)) 1 rfl) (v := (-1 : Int32)) (by decide) ?_
            exact mp_cut h ⟨Or.inr rfl, Or.inr rfl, Or.inr rfl, Or.inr rfl, Or.inr rfl, Or.inl rfl, Or.inr rfl, Or.inr rfl, Or.inr rfl, Or.inr rfl, Or.inr rfl, Or.inl rfl, trivial⟩
          · replace h := h.2 hc
            refine mp_aload_n (i := 0) (v := qr 1 (some 0)) (dz dl_Mod_passOn_1 17 102 (.aload_n 0) 1 rfl) rfl rfl trivial ?_
            refine mp_iload_n (i := 1) (x := l1) (dz dl_Mod_passOn_1 18 103 (.iload_n 1) 1 rfl) rfl rfl ?_
            refine mp_iload_n (i := 2) (x := l2) (dz dl_Mod_passOn_1 19 104 (.iload_n 2) 1 rfl) rfl rfl ?_
            refine mp_iload_n (i := 3) (x := l3) (dz dl_Mod_passOn_1 20 105 (.iload_n 3) 1 rfl) rfl rfl ?_
            refine mp_callV [qi l1, qi l2, qi l3] [] (dz dl_Mod_passOn_1 21 106 (.invokevirtual 293) 3 rfl) ok_Mod_producer lm_Mod_293 ws_Mod_producer wv_Mod_producer ⟨Nat.le_of_ble_eq_true rfl, Nat.le_of_ble_eq_true rfl⟩ pn_Mod_producer (Nat.le_of_ble_eq_true rfl) (Nat.le_of_ble_eq_true rfl) (Or.inl rfl) (mmono h ?_)
            rintro _ u6 ⟨r3, rfl, h⟩
            show mWP _ _ _ [qi r3] _ _
            refine mp_goto (tgt := 113) (dz dl_Mod_passOn_1 22 109 (.goto (4)) 3 rfl) (by decide) ?_
            exact mp_cut h ⟨Or.inr rfl, Or.inr rfl, Or.inr rfl, Or.inr rfl, Or.inr rfl, Or.inl rfl, Or.inr rfl, Or.inr rfl, Or.inr rfl, Or.inr rfl, Or.inr rfl, Or.inl rfl, trivial⟩
        · replace h := h.2 hc
          refine mp_iload (i := 6) (x := l6) (dz dl_Mod_passOn_0 29 54 (.iload 6) 2 rfl) rfl ?_
          refine mp_if_ne (tgt := 69) (dz dl_Mod_passOn_0 30 56 (.ifCond .ne (13)) 3 rfl) (by decide) (fun hc => ?_) (fun hc => ?_)
          · replace h := h.1 hc
            refine mp_aload_n (i := 0) (v := qr 1 (some 0)) (dz dl_Mod_passOn_0 36 69 (.aload_n 0) 1 rfl) rfl rfl trivial ?_
            refine mp_getA (dz dl_Mod_passOn_0 37 70 (.getfield 100) 3 rfl) lk_Mod_100 (q := 0) kd_99 rfl sm_99 ?_
            refine mp_iconst (dz dl_Mod_passOn_0 38 73 (.iconst (5)) 1 rfl) (v := (5 : Int32)) (by decide) ?_
            refine mp_iload (i := 9) (x := r1) (dz dl_Mod_passOn_0 39 74 (.iload 9) 2 rfl) rfl ?_
            refine mp_imul (dz dl_Mod_passOn_1 0 76 (.imul) 1 rfl) ?_
            refine mp_iload (i := 10) (x := r2) (dz dl_Mod_passOn_1 1 77 (.iload 10) 2 rfl) rfl ?_
            refine mp_iadd (dz dl_Mod_passOn_1 2 79 (.iadd) 1 rfl) ?_
            refine mp_iconst (dz dl_Mod_passOn_1 3 80 (.iconst (1)) 1 rfl) (v := (1 : Int32)) (by decide) ?_
            obtain ⟨i2, h⟩ := h
            have h := h _ rfl
            refine mp_iast (dz dl_Mod_passOn_1 4 81 (.iastore) 1 rfl) kd_99 rfl sm_99 i2 rfl ?_
            refine mp_aload_n (i := 0) (v := qr 1 (some 0)) (dz dl_Mod_passOn_1 5 82 (.aload_n 0) 1 rfl) rfl rfl trivial ?_
            refine mp_getA (dz dl_Mod_passOn_1 6 83 (.getfield 103) 3 rfl) lk_Mod_103 (q := 0) kd_100 rfl sm_100 ?_
            refine mp_iconst (dz dl_Mod_passOn_1 7 86 (.iconst (5)) 1 rfl) (v := (5 : Int32)) (by decide) ?_
            refine mp_iload (i := 9) (x := r1) (dz dl_Mod_passOn_1 8 87 (.iload 9) 2 rfl) rfl ?_
            refine mp_imul (dz dl_Mod_passOn_1 9 89 (.imul) 1 rfl) ?_
            refine mp_iload (i := 10) (x := r2) (dz dl_Mod_passOn_1 10 90 (.iload 10) 2 rfl) rfl ?_
            refine mp_iadd (dz dl_Mod_passOn_1 11 92 (.iadd) 1 rfl) ?_
            refine mp_iload (i := 4) (x := l4) (dz dl_Mod_passOn_1 12 93 (.iload 4) 2 rfl) rfl ?_
            have h := h _ rfl
            refine mp_iast (dz dl_Mod_passOn_1 13 95 (.iastore) 1 rfl) kd_100 rfl sm_100 i2 rfl ?_
            refine mp_iload (i := 10) (x := r2) (dz dl_Mod_passOn_1 14 96 (.iload 10) 2 rfl) rfl ?_
            refine mp_iconst (dz dl_Mod_passOn_1 15 98 (.iconst (4)) 1 rfl) (v := (4 : Int32)) (by decide) ?_
            refine mp_icmp_ne (tgt := 112) (dz dl_Mod_passOn_1 16 99 (.if_icmp .ne (13)) 3 rfl) (by decide) (fun hc => ?_) (fun hc => ?_)
            · replace h := h.1 hc
              refine mp_iconst (dz dl_Mod_passOn_1 23 112 (.iconst (-1)) 1 rfl) (v := (-1 : Int32)) (by decide) ?_
              exact mp_cut h ⟨Or.inr rfl, Or.inr rfl, Or.inr rfl, Or.inr rfl, Or.inr rfl, Or.inl rfl, Or.inr rfl, Or.inr rfl, Or.inr rfl, Or.inr rfl, Or.inr rfl, Or.inl rfl, trivial⟩
            · replace h := h.2 hc
              refine mp_aload_n (i := 0) (v := qr 1 (some 0)) (dz dl_Mod_passOn_1 17 102 (.aload_n 0) 1 rfl) rfl rfl trivial ?_
              refine mp_iload_n (i := 1) (x := l1) (dz dl_Mod_passOn_1 18 103 (.iload_n 1) 1 rfl) rfl rfl ?_
              refine mp_iload_n (i := 2) (x := l2) (dz dl_Mod_passOn_1 19 104 (.iload_n 2) 1 rfl) rfl rfl ?_
              refine mp_iload_n (i := 3) (x := l3) (dz dl_Mod_passOn_1 20 105 (.iload_n 3) 1 rfl) rfl rfl ?_
              refine mp_callV [qi l1, qi l2, qi l3] [] (dz dl_Mod_passOn_1 21 106 (.invokevirtual 293) 3 rfl) ok_Mod_producer lm_Mod_293 ws_Mod_producer wv_Mod_producer ⟨Nat.le_of_ble_eq_true rfl, Nat.le_of_ble_eq_true rfl⟩ pn_Mod_producer (Nat.le_of_ble_eq_true rfl) (Nat.le_of_ble_eq_true rfl) (Or.inl rfl) (mmono h ?_)
              rintro _ u9 ⟨r4, rfl, h⟩
              show mWP _ _ _ [qi r4] _ _
              refine mp_goto (tgt := 113) (dz dl_Mod_passOn_1 22 109 (.goto (4)) 3 rfl) (by decide) ?_
              exact mp_cut h ⟨Or.inr rfl, Or.inr rfl, Or.inr rfl, Or.inr rfl, Or.inr rfl, Or.inl rfl, Or.inr rfl, Or.inr rfl, Or.inr rfl, Or.inr rfl, Or.inr rfl, Or.inl rfl, trivial⟩
          · replace h := h.2 hc
            refine mp_aload_n (i := 0) (v := qr 1 (some 0)) (dz dl_Mod_passOn_0 31 59 (.aload_n 0) 1 rfl) rfl rfl trivial ?_
            refine mp_iload_n (i := 1) (x := l1) (dz dl_Mod_passOn_0 32 60 (.iload_n 1) 1 rfl) rfl rfl ?_
            refine mp_iload (i := 9) (x := r1) (dz dl_Mod_passOn_0 33 61 (.iload 9) 2 rfl) rfl ?_
            refine mp_callV [qi l1, qi r1] [] (dz dl_Mod_passOn_0 34 63 (.invokevirtual 290) 3 rfl) ok_Mod_failIfDone lm_Mod_290 ws_Mod_failIfDone wv_Mod_failIfDone ⟨Nat.le_of_ble_eq_true rfl, Nat.le_of_ble_eq_true rfl⟩ pn_Mod_failIfDone (Nat.le_of_ble_eq_true rfl) (Nat.le_of_ble_eq_true rfl) (Or.inl rfl) (mmono h ?_)
            rintro _ u10 ⟨rfl, h⟩
            show mWP _ _ _ [] _ _
            refine mp_goto (tgt := 197) (dz dl_Mod_passOn_0 35 66 (.goto (131)) 3 rfl) (by decide) ?_
            refine mp_iinc (i := 8) (v := l8 + 1) (dz dl_Mod_passOn_2 35 197 (.iinc 8 (1)) 3 rfl) rfl (congrArg (fun z => l8 + z) (by decide)) [qr 1 (some 0), qi l1, qi l2, qi l3, qi l4, none, qi l6, qi (0 : Int32), qi (l8 + 1), qi r1, qi r2, none] (by decide) rfl ?_
            refine mp_goto (tgt := 10) (dz dl_Mod_passOn_2 36 200 (.goto (-190)) 3 rfl) (by decide) ?_
            exact mp_cut h ⟨Or.inr rfl, Or.inr rfl, Or.inr rfl, Or.inr rfl, Or.inr rfl, Or.inl rfl, Or.inr rfl, Or.inr rfl, Or.inr rfl, Or.inl rfl, Or.inl rfl, Or.inl rfl, trivial⟩

theorem mb_Mod_passOn_113 {u : MS} {l1 : Int32} {l2 : Int32} {l3 : Int32} {l4 : Int32} {l6 : Int32} {l7 : Int32} {l8 : Int32} {l9 : Int32} {l10 : Int32} {s0 : Int32} {Z : MS → Prop} (h : ((4 : Int32) ≤ l10 → (s0 < 0 → vp_in (((5 : Int32) * l9) + (4 : Int32)) 150 ∧ ∀ u1, u1 = mu u 99 (((5 : Int32) * l9) + (4 : Int32)).toNatClampNeg (2 : Int32) → vp_in l9 30 ∧ mWP M_Mod_passOn 10 [qr 1 (some 0), qi l1, qi l2, qi l3, qi l4, none, qi (u1 95 l9.toNatClampNeg), qi (1 : Int32), qi (l8 + 1), none, none, none] [] u1 (mV Z)) ∧ (¬ s0 < 0 → vp_in s0 48 ∧ mMT M_Mod_data [qr 1 (some 0), qi l1, qi (4 : Int32), qi s0, qi (u 90 s0.toNatClampNeg), qi (u 91 s0.toNatClampNeg)] u (mV fun u2 => mWP M_Mod_passOn 10 [qr 1 (some 0), qi l1, qi l2, qi l3, qi l4, none, qi l6, qi l7, qi (l8 + 1), none, none, none] [] u2 (mV Z)))) ∧ (¬ (4 : Int32) ≤ l10 → mMT M_Mod_put [qr 1 (some 0), qi (((4 : Int32) * l1) + l10), qi (0 : Int32), qi l2, qi l3, qi l4, qi (l6 - (1 : Int32))] u (mV fun u3 => mWP M_Mod_passOn 10 [qr 1 (some 0), qi l1, qi l2, qi l3, qi l4, none, qi l6, qi l7, qi (l8 + 1), none, none, none] [] u3 (mV Z)))) : mWP M_Mod_passOn 113 [qr 1 (some 0), qi l1, qi l2, qi l3, qi l4, none, qi l6, qi l7, qi l8, qi l9, qi l10, none] [qi s0] u (mV Z) := by
  refine mp_istore (i := 11) (dz dl_Mod_passOn_1 24 113 (.istore 11) 2 rfl) [qr 1 (some 0), qi l1, qi l2, qi l3, qi l4, none, qi l6, qi l7, qi l8, qi l9, qi l10, qi s0] (by decide) rfl ?_
  refine mp_iload (i := 10) (x := l10) (dz dl_Mod_passOn_1 25 115 (.iload 10) 2 rfl) rfl ?_
  refine mp_iconst (dz dl_Mod_passOn_1 26 117 (.iconst (4)) 1 rfl) (v := (4 : Int32)) (by decide) ?_
  refine mp_icmp_ge (tgt := 143) (dz dl_Mod_passOn_1 27 118 (.if_icmp .ge (25)) 3 rfl) (by decide) (fun hc => ?_) (fun hc => ?_)
  · replace h := h.1 hc
    refine mp_iload (i := 11) (x := s0) (dz dl_Mod_passOn_2 3 143 (.iload 11) 2 rfl) rfl ?_
    refine mp_if_lt (tgt := 173) (dz dl_Mod_passOn_2 4 145 (.ifCond .lt (28)) 3 rfl) (by decide) (fun hc => ?_) (fun hc => ?_)
    · replace h := h.1 hc
      refine mp_aload_n (i := 0) (v := qr 1 (some 0)) (dz dl_Mod_passOn_2 19 173 (.aload_n 0) 1 rfl) rfl rfl trivial ?_
      refine mp_getA (dz dl_Mod_passOn_2 20 174 (.getfield 100) 3 rfl) lk_Mod_100 (q := 0) kd_99 rfl sm_99 ?_
      refine mp_iconst (dz dl_Mod_passOn_2 21 177 (.iconst (5)) 1 rfl) (v := (5 : Int32)) (by decide) ?_
      refine mp_iload (i := 9) (x := l9) (dz dl_Mod_passOn_2 22 178 (.iload 9) 2 rfl) rfl ?_
      refine mp_imul (dz dl_Mod_passOn_2 23 180 (.imul) 1 rfl) ?_
      refine mp_iconst (dz dl_Mod_passOn_2 24 181 (.iconst (4)) 1 rfl) (v := (4 : Int32)) (by decide) ?_
      refine mp_iadd (dz dl_Mod_passOn_2 25 182 (.iadd) 1 rfl) ?_
      refine mp_iconst (dz dl_Mod_passOn_2 26 183 (.iconst (2)) 1 rfl) (v := (2 : Int32)) (by decide) ?_
      obtain ⟨i1, h⟩ := h
      have h := h _ rfl
      refine mp_iast (dz dl_Mod_passOn_2 27 184 (.iastore) 1 rfl) kd_99 rfl sm_99 i1 rfl ?_
      refine mp_aload_n (i := 0) (v := qr 1 (some 0)) (dz dl_Mod_passOn_2 28 185 (.aload_n 0) 1 rfl) rfl rfl trivial ?_
      refine mp_getA (dz dl_Mod_passOn_2 29 186 (.getfield 88) 3 rfl) lk_Mod_88 (q := 0) kd_95 rfl sm_95 ?_
      refine mp_iload (i := 9) (x := l9) (dz dl_Mod_passOn_2 30 189 (.iload 9) 2 rfl) rfl ?_
      obtain ⟨i2, h⟩ := h
      refine mp_iald (dz dl_Mod_passOn_2 31 191 (.iaload) 1 rfl) kd_95 rfl sm_95 i2 ?_
      refine mp_istore (i := 6) (dz dl_Mod_passOn_2 32 192 (.istore 6) 2 rfl) [qr 1 (some 0), qi l1, qi l2, qi l3, qi l4, none, qi ((mu u 99 (((5 : Int32) * l9) + (4 : Int32)).toNatClampNeg (2 : Int32)) 95 l9.toNatClampNeg), qi l7, qi l8, qi l9, qi l10, qi s0] (by decide) rfl ?_
      refine mp_iconst (dz dl_Mod_passOn_2 33 194 (.iconst (1)) 1 rfl) (v := (1 : Int32)) (by decide) ?_
      refine mp_istore (i := 7) (dz dl_Mod_passOn_2 34 195 (.istore 7) 2 rfl) [qr 1 (some 0), qi l1, qi l2, qi l3, qi l4, none, qi ((mu u 99 (((5 : Int32) * l9) + (4 : Int32)).toNatClampNeg (2 : Int32)) 95 l9.toNatClampNeg), qi (1 : Int32), qi l8, qi l9, qi l10, qi s0] (by decide) rfl ?_
      refine mp_iinc (i := 8) (v := l8 + 1) (dz dl_Mod_passOn_2 35 197 (.iinc 8 (1)) 3 rfl) rfl (congrArg (fun z => l8 + z) (by decide)) [qr 1 (some 0), qi l1, qi l2, qi l3, qi l4, none, qi ((mu u 99 (((5 : Int32) * l9) + (4 : Int32)).toNatClampNeg (2 : Int32)) 95 l9.toNatClampNeg), qi (1 : Int32), qi (l8 + 1), qi l9, qi l10, qi s0] (by decide) rfl ?_
      refine mp_goto (tgt := 10) (dz dl_Mod_passOn_2 36 200 (.goto (-190)) 3 rfl) (by decide) ?_
      exact mp_cut h ⟨Or.inr rfl, Or.inr rfl, Or.inr rfl, Or.inr rfl, Or.inr rfl, Or.inl rfl, Or.inr rfl, Or.inr rfl, Or.inr rfl, Or.inl rfl, Or.inl rfl, Or.inl rfl, trivial⟩
    · replace h := h.2 hc
      refine mp_aload_n (i := 0) (v := qr 1 (some 0)) (dz dl_Mod_passOn_2 5 148 (.aload_n 0) 1 rfl) rfl rfl trivial ?_
      refine mp_iload_n (i := 1) (x := l1) (dz dl_Mod_passOn_2 6 149 (.iload_n 1) 1 rfl) rfl rfl ?_
      refine mp_iconst (dz dl_Mod_passOn_2 7 150 (.iconst (4)) 1 rfl) (v := (4 : Int32)) (by decide) ?_
      refine mp_iload (i := 11) (x := s0) (dz dl_Mod_passOn_2 8 151 (.iload 11) 2 rfl) rfl ?_
      refine mp_aload_n (i := 0) (v := qr 1 (some 0)) (dz dl_Mod_passOn_2 9 153 (.aload_n 0) 1 rfl) rfl rfl trivial ?_
      refine mp_getA (dz dl_Mod_passOn_2 10 154 (.getfield 73) 3 rfl) lk_Mod_73 (q := 0) kd_90 rfl sm_90 ?_
      refine mp_iload (i := 11) (x := s0) (dz dl_Mod_passOn_2 11 157 (.iload 11) 2 rfl) rfl ?_
      obtain ⟨i3, h⟩ := h
      refine mp_iald (dz dl_Mod_passOn_2 12 159 (.iaload) 1 rfl) kd_90 rfl sm_90 i3 ?_
      refine mp_aload_n (i := 0) (v := qr 1 (some 0)) (dz dl_Mod_passOn_2 13 160 (.aload_n 0) 1 rfl) rfl rfl trivial ?_
      refine mp_getA (dz dl_Mod_passOn_2 14 161 (.getfield 76) 3 rfl) lk_Mod_76 (q := 0) kd_91 rfl sm_91 ?_
      refine mp_iload (i := 11) (x := s0) (dz dl_Mod_passOn_2 15 164 (.iload 11) 2 rfl) rfl ?_
      refine mp_iald (dz dl_Mod_passOn_2 16 166 (.iaload) 1 rfl) kd_91 rfl sm_91 i3 ?_
      refine mp_callV [qi l1, qi (4 : Int32), qi s0, qi (u 90 s0.toNatClampNeg), qi (u 91 s0.toNatClampNeg)] [] (dz dl_Mod_passOn_2 17 167 (.invokevirtual 206) 3 rfl) ok_Mod_data lm_Mod_206 ws_Mod_data wv_Mod_data ⟨Nat.le_of_ble_eq_true rfl, Nat.le_of_ble_eq_true rfl⟩ pn_Mod_data (Nat.le_of_ble_eq_true rfl) (Nat.le_of_ble_eq_true rfl) (Or.inl rfl) (mmono h ?_)
      rintro _ u2 ⟨rfl, h⟩
      show mWP _ _ _ [] _ _
      refine mp_goto (tgt := 197) (dz dl_Mod_passOn_2 18 170 (.goto (27)) 3 rfl) (by decide) ?_
      refine mp_iinc (i := 8) (v := l8 + 1) (dz dl_Mod_passOn_2 35 197 (.iinc 8 (1)) 3 rfl) rfl (congrArg (fun z => l8 + z) (by decide)) [qr 1 (some 0), qi l1, qi l2, qi l3, qi l4, none, qi l6, qi l7, qi (l8 + 1), qi l9, qi l10, qi s0] (by decide) rfl ?_
      refine mp_goto (tgt := 10) (dz dl_Mod_passOn_2 36 200 (.goto (-190)) 3 rfl) (by decide) ?_
      exact mp_cut h ⟨Or.inr rfl, Or.inr rfl, Or.inr rfl, Or.inr rfl, Or.inr rfl, Or.inl rfl, Or.inr rfl, Or.inr rfl, Or.inr rfl, Or.inl rfl, Or.inl rfl, Or.inl rfl, trivial⟩
  · replace h := h.2 hc
    refine mp_aload_n (i := 0) (v := qr 1 (some 0)) (dz dl_Mod_passOn_1 28 121 (.aload_n 0) 1 rfl) rfl rfl trivial ?_
    refine mp_iconst (dz dl_Mod_passOn_1 29 122 (.iconst (4)) 1 rfl) (v := (4 : Int32)) (by decide) ?_
    refine mp_iload_n (i := 1) (x := l1) (dz dl_Mod_passOn_1 30 123 (.iload_n 1) 1 rfl) rfl rfl ?_
    refine mp_imul (dz dl_Mod_passOn_1 31 124 (.imul) 1 rfl) ?_
    refine mp_iload (i := 10) (x := l10) (dz dl_Mod_passOn_1 32 125 (.iload 10) 2 rfl) rfl ?_
    refine mp_iadd (dz dl_Mod_passOn_1 33 127 (.iadd) 1 rfl) ?_
    refine mp_iconst (dz dl_Mod_passOn_1 34 128 (.iconst (0)) 1 rfl) (v := (0 : Int32)) (by decide) ?_
    refine mp_iload_n (i := 2) (x := l2) (dz dl_Mod_passOn_1 35 129 (.iload_n 2) 1 rfl) rfl rfl ?_
    refine mp_iload_n (i := 3) (x := l3) (dz dl_Mod_passOn_1 36 130 (.iload_n 3) 1 rfl) rfl rfl ?_
    refine mp_iload (i := 4) (x := l4) (dz dl_Mod_passOn_1 37 131 (.iload 4) 2 rfl) rfl ?_
    refine mp_iload (i := 6) (x := l6) (dz dl_Mod_passOn_1 38 133 (.iload 6) 2 rfl) rfl ?_
    refine mp_iconst (dz dl_Mod_passOn_1 39 135 (.iconst (1)) 1 rfl) (v := (1 : Int32)) (by decide) ?_
    refine mp_isub (dz dl_Mod_passOn_2 0 136 (.isub) 1 rfl) ?_
    refine mp_callV [qi (((4 : Int32) * l1) + l10), qi (0 : Int32), qi l2, qi l3, qi l4, qi (l6 - (1 : Int32))] [] (dz dl_Mod_passOn_2 1 137 (.invokevirtual 216) 3 rfl) ok_Mod_put lm_Mod_216 ws_Mod_put wv_Mod_put ⟨Nat.le_of_ble_eq_true rfl, Nat.le_of_ble_eq_true rfl⟩ pn_Mod_put (Nat.le_of_ble_eq_true rfl) (Nat.le_of_ble_eq_true rfl) (Or.inl rfl) (mmono h ?_)
    rintro _ u3 ⟨rfl, h⟩
    show mWP _ _ _ [] _ _
    refine mp_goto (tgt := 197) (dz dl_Mod_passOn_2 2 140 (.goto (57)) 3 rfl) (by decide) ?_
    refine mp_iinc (i := 8) (v := l8 + 1) (dz dl_Mod_passOn_2 35 197 (.iinc 8 (1)) 3 rfl) rfl (congrArg (fun z => l8 + z) (by decide)) [qr 1 (some 0), qi l1, qi l2, qi l3, qi l4, none, qi l6, qi l7, qi (l8 + 1), qi l9, qi l10, qi s0] (by decide) rfl ?_
    refine mp_goto (tgt := 10) (dz dl_Mod_passOn_2 36 200 (.goto (-190)) 3 rfl) (by decide) ?_
    exact mp_cut h ⟨Or.inr rfl, Or.inr rfl, Or.inr rfl, Or.inr rfl, Or.inr rfl, Or.inl rfl, Or.inr rfl, Or.inr rfl, Or.inr rfl, Or.inl rfl, Or.inl rfl, Or.inl rfl, trivial⟩

theorem mb_Mod_failIfDone_0 {u : MS} {l1 : Int32} {l2 : Int32} {Z : MS → Prop} (h : mWP M_Mod_failIfDone 2 [qr 1 (some 0), qi l1, qi l2, qi (0 : Int32), none, none, none] [] u (mV Z)) : mWP M_Mod_failIfDone 0 [qr 1 (some 0), qi l1, qi l2, none, none, none, none] [] u (mV Z) := by
  refine mp_iconst (dz dl_Mod_failIfDone_0 0 0 (.iconst (0)) 1 rfl) (v := (0 : Int32)) (by decide) ?_
  refine mp_istore_n (i := 3) (dz dl_Mod_failIfDone_0 1 1 (.istore_n 3) 1 rfl) rfl [qr 1 (some 0), qi l1, qi l2, qi (0 : Int32), none, none, none] (by decide) rfl ?_
  exact mp_cut h ⟨Or.inr rfl, Or.inr rfl, Or.inr rfl, Or.inr rfl, Or.inl rfl, Or.inl rfl, Or.inl rfl, trivial⟩
theorem mt_Mod_failIfDone {u : MS} {l1 : Int32} {l2 : Int32} {Z : MS → Prop} (h : mWP M_Mod_failIfDone 2 [qr 1 (some 0), qi l1, qi l2, qi (0 : Int32), none, none, none] [] u (mV Z)) : mMT M_Mod_failIfDone [qr 1 (some 0), qi l1, qi l2] u (mV Z) := mb_Mod_failIfDone_0 h

theorem mb_Mod_failIfDone_2 {u : MS} {l1 : Int32} {l2 : Int32} {l3 : Int32} {Z : MS → Prop} (h : ((5 : Int32) ≤ l3 → vp_in l2 30 ∧ mWP M_Mod_failIfDone 49 [qr 1 (some 0), qi l1, qi l2, qi (u 93 l2.toNatClampNeg), qi (u 94 l2.toNatClampNeg), qi (0 : Int32), qi (0 : Int32)] [] u (mV Z)) ∧ (¬ (5 : Int32) ≤ l3 → vp_in (((5 : Int32) * l2) + l3) 150 ∧ (¬ (u 99 (((5 : Int32) * l2) + l3).toNatClampNeg) = (1 : Int32) → mWP M_Mod_failIfDone 2 [qr 1 (some 0), qi l1, qi l2, qi (l3 + 1), none, none, none] [] u (mV Z)) ∧ ((u 99 (((5 : Int32) * l2) + l3).toNatClampNeg) = (1 : Int32) → Z u))) : mWP M_Mod_failIfDone 2 [qr 1 (some 0), qi l1, qi l2, qi l3, none, none, none] [] u (mV Z) := by
  refine mp_iload_n (i := 3) (x := l3) (dz dl_Mod_failIfDone_0 2 2 (.iload_n 3) 1 rfl) rfl rfl ?_
  refine mp_iconst (dz dl_Mod_failIfDone_0 3 3 (.iconst (5)) 1 rfl) (v := (5 : Int32)) (by decide) ?_
  refine mp_icmp_ge (tgt := 28) (dz dl_Mod_failIfDone_0 4 4 (.if_icmp .ge (24)) 3 rfl) (by decide) (fun hc => ?_) (fun hc => ?_)
  · replace h := h.1 hc
    refine mp_aload_n (i := 0) (v := qr 1 (some 0)) (dz dl_Mod_failIfDone_0 18 28 (.aload_n 0) 1 rfl) rfl rfl trivial ?_
    refine mp_getA (dz dl_Mod_failIfDone_0 19 29 (.getfield 82) 3 rfl) lk_Mod_82 (q := 0) kd_93 rfl sm_93 ?_
    refine mp_iload_n (i := 2) (x := l2) (dz dl_Mod_failIfDone_0 20 32 (.iload_n 2) 1 rfl) rfl rfl ?_
    obtain ⟨i1, h⟩ := h
    refine mp_iald (dz dl_Mod_failIfDone_0 21 33 (.iaload) 1 rfl) kd_93 rfl sm_93 i1 ?_
    refine mp_istore_n (i := 3) (dz dl_Mod_failIfDone_0 22 34 (.istore_n 3) 1 rfl) rfl [qr 1 (some 0), qi l1, qi l2, qi (u 93 l2.toNatClampNeg), none, none, none] (by decide) rfl ?_
    refine mp_aload_n (i := 0) (v := qr 1 (some 0)) (dz dl_Mod_failIfDone_0 23 35 (.aload_n 0) 1 rfl) rfl rfl trivial ?_
    refine mp_getA (dz dl_Mod_failIfDone_0 24 36 (.getfield 85) 3 rfl) lk_Mod_85 (q := 0) kd_94 rfl sm_94 ?_
    refine mp_iload_n (i := 2) (x := l2) (dz dl_Mod_failIfDone_0 25 39 (.iload_n 2) 1 rfl) rfl rfl ?_
    refine mp_iald (dz dl_Mod_failIfDone_0 26 40 (.iaload) 1 rfl) kd_94 rfl sm_94 i1 ?_
    refine mp_istore (i := 4) (dz dl_Mod_failIfDone_0 27 41 (.istore 4) 2 rfl) [qr 1 (some 0), qi l1, qi l2, qi (u 93 l2.toNatClampNeg), qi (u 94 l2.toNatClampNeg), none, none] (by decide) rfl ?_
    refine mp_iconst (dz dl_Mod_failIfDone_0 28 43 (.iconst (0)) 1 rfl) (v := (0 : Int32)) (by decide) ?_
    refine mp_istore (i := 5) (dz dl_Mod_failIfDone_0 29 44 (.istore 5) 2 rfl) [qr 1 (some 0), qi l1, qi l2, qi (u 93 l2.toNatClampNeg), qi (u 94 l2.toNatClampNeg), qi (0 : Int32), none] (by decide) rfl ?_
    refine mp_iconst (dz dl_Mod_failIfDone_0 30 46 (.iconst (0)) 1 rfl) (v := (0 : Int32)) (by decide) ?_
    refine mp_istore (i := 6) (dz dl_Mod_failIfDone_0 31 47 (.istore 6) 2 rfl) [qr 1 (some 0), qi l1, qi l2, qi (u 93 l2.toNatClampNeg), qi (u 94 l2.toNatClampNeg), qi (0 : Int32), qi (0 : Int32)] (by decide) rfl ?_
    exact mp_cut h ⟨Or.inr rfl, Or.inr rfl, Or.inr rfl, Or.inr rfl, Or.inr rfl, Or.inr rfl, Or.inr rfl, trivial⟩
  · replace h := h.2 hc
    refine mp_aload_n (i := 0) (v := qr 1 (some 0)) (dz dl_Mod_failIfDone_0 5 7 (.aload_n 0) 1 rfl) rfl rfl trivial ?_
    refine mp_getA (dz dl_Mod_failIfDone_0 6 8 (.getfield 100) 3 rfl) lk_Mod_100 (q := 0) kd_99 rfl sm_99 ?_
    refine mp_iconst (dz dl_Mod_failIfDone_0 7 11 (.iconst (5)) 1 rfl) (v := (5 : Int32)) (by decide) ?_
    refine mp_iload_n (i := 2) (x := l2) (dz dl_Mod_failIfDone_0 8 12 (.iload_n 2) 1 rfl) rfl rfl ?_
    refine mp_imul (dz dl_Mod_failIfDone_0 9 13 (.imul) 1 rfl) ?_
    refine mp_iload_n (i := 3) (x := l3) (dz dl_Mod_failIfDone_0 10 14 (.iload_n 3) 1 rfl) rfl rfl ?_
    refine mp_iadd (dz dl_Mod_failIfDone_0 11 15 (.iadd) 1 rfl) ?_
    obtain ⟨i2, h⟩ := h
    refine mp_iald (dz dl_Mod_failIfDone_0 12 16 (.iaload) 1 rfl) kd_99 rfl sm_99 i2 ?_
    refine mp_iconst (dz dl_Mod_failIfDone_0 13 17 (.iconst (1)) 1 rfl) (v := (1 : Int32)) (by decide) ?_
    refine mp_icmp_ne (tgt := 22) (dz dl_Mod_failIfDone_0 14 18 (.if_icmp .ne (4)) 3 rfl) (by decide) (fun hc => ?_) (fun hc => ?_)
    · replace h := h.1 hc
      refine mp_iinc (i := 3) (v := l3 + 1) (dz dl_Mod_failIfDone_0 16 22 (.iinc 3 (1)) 3 rfl) rfl (congrArg (fun z => l3 + z) (by decide)) [qr 1 (some 0), qi l1, qi l2, qi (l3 + 1), none, none, none] (by decide) rfl ?_
      refine mp_goto (tgt := 2) (dz dl_Mod_failIfDone_0 17 25 (.goto (-23)) 3 rfl) (by decide) ?_
      exact mp_cut h ⟨Or.inr rfl, Or.inr rfl, Or.inr rfl, Or.inr rfl, Or.inl rfl, Or.inl rfl, Or.inl rfl, trivial⟩
    · replace h := h.2 hc
      exact mp_rt none (rt_V rfl (dz dl_Mod_failIfDone_0 15 21 (.return_) 1 rfl)) ⟨rfl, h⟩

theorem mb_Mod_failIfDone_49 {u : MS} {l1 : Int32} {l2 : Int32} {l3 : Int32} {l4 : Int32} {l5 : Int32} {l6 : Int32} {Z : MS → Prop} (h : ((5 : Int32) ≤ l6 → mMT M_Mod_removeEntry [qr 1 (some 0), qi l1, qi l2] u (mV fun u1 => mWP M_Mod_failIfDone 116 [qr 1 (some 0), qi l1, none, qi l3, qi l4, qi l5, qi (0 : Int32)] [] u1 (mV Z))) ∧ (¬ (5 : Int32) ≤ l6 → vp_in (((5 : Int32) * l2) + l6) 150 ∧ ((u 96 (((5 : Int32) * l2) + l6).toNatClampNeg) ≤ 0 → vp_in l6 5 ∧ ∀ u2, u2 = mu u 78 l6.toNatClampNeg (u 97 (((5 : Int32) * l2) + l6).toNatClampNeg) → mWP M_Mod_failIfDone 49 [qr 1 (some 0), qi l1, qi l2, qi l3, qi l4, qi l5, qi (l6 + 1)] [] u2 (mV Z)) ∧ (¬ (u 96 (((5 : Int32) * l2) + l6).toNatClampNeg) ≤ 0 → vp_in l6 5 ∧ ∀ u3, u3 = mu u 78 l6.toNatClampNeg (u 97 (((5 : Int32) * l2) + l6).toNatClampNeg) → mWP M_Mod_failIfDone 49 [qr 1 (some 0), qi l1, qi l2, qi l3, qi l4, qi (l5 ||| ((1 : Int32) <<< (l6 &&& 31))), qi (l6 + 1)] [] u3 (mV Z)))) : mWP M_Mod_failIfDone 49 [qr 1 (some 0), qi l1, qi l2, qi l3, qi l4, qi l5, qi l6] [] u (mV Z) := by
  refine mp_iload (i := 6) (x := l6) (dz dl_Mod_failIfDone_0 32 49 (.iload 6) 2 rfl) rfl ?_
  refine mp_iconst (dz dl_Mod_failIfDone_0 33 51 (.iconst (5)) 1 rfl) (v := (5 : Int32)) (by decide) ?_
  refine mp_icmp_ge (tgt := 107) (dz dl_Mod_failIfDone_0 34 52 (.if_icmp .ge (55)) 3 rfl) (by decide) (fun hc => ?_) (fun hc => ?_)
  · replace h := h.1 hc
    refine mp_aload_n (i := 0) (v := qr 1 (some 0)) (dz dl_Mod_failIfDone_1 26 107 (.aload_n 0) 1 rfl) rfl rfl trivial ?_
    refine mp_iload_n (i := 1) (x := l1) (dz dl_Mod_failIfDone_1 27 108 (.iload_n 1) 1 rfl) rfl rfl ?_
    refine mp_iload_n (i := 2) (x := l2) (dz dl_Mod_failIfDone_1 28 109 (.iload_n 2) 1 rfl) rfl rfl ?_
    refine mp_callV [qi l1, qi l2] [] (dz dl_Mod_failIfDone_1 29 110 (.invokevirtual 296) 3 rfl) ok_Mod_removeEntry lm_Mod_296 ws_Mod_removeEntry wv_Mod_removeEntry ⟨Nat.le_of_ble_eq_true rfl, Nat.le_of_ble_eq_true rfl⟩ pn_Mod_removeEntry (Nat.le_of_ble_eq_true rfl) (Nat.le_of_ble_eq_true rfl) (Or.inl rfl) (mmono h ?_)
    rintro _ u1 ⟨rfl, h⟩
    show mWP _ _ _ [] _ _
    refine mp_iconst (dz dl_Mod_failIfDone_1 30 113 (.iconst (0)) 1 rfl) (v := (0 : Int32)) (by decide) ?_
    refine mp_istore (i := 6) (dz dl_Mod_failIfDone_1 31 114 (.istore 6) 2 rfl) [qr 1 (some 0), qi l1, qi l2, qi l3, qi l4, qi l5, qi (0 : Int32)] (by decide) rfl ?_
    exact mp_cut h ⟨Or.inr rfl, Or.inr rfl, Or.inl rfl, Or.inr rfl, Or.inr rfl, Or.inr rfl, Or.inr rfl, trivial⟩
  · replace h := h.2 hc
    refine mp_aload_n (i := 0) (v := qr 1 (some 0)) (dz dl_Mod_failIfDone_0 35 55 (.aload_n 0) 1 rfl) rfl rfl trivial ?_
    refine mp_getA (dz dl_Mod_failIfDone_0 36 56 (.getfield 91) 3 rfl) lk_Mod_91 (q := 0) kd_96 rfl sm_96 ?_
    refine mp_iconst (dz dl_Mod_failIfDone_0 37 59 (.iconst (5)) 1 rfl) (v := (5 : Int32)) (by decide) ?_
    refine mp_iload_n (i := 2) (x := l2) (dz dl_Mod_failIfDone_0 38 60 (.iload_n 2) 1 rfl) rfl rfl ?_
    refine mp_imul (dz dl_Mod_failIfDone_0 39 61 (.imul) 1 rfl) ?_
    refine mp_iload (i := 6) (x := l6) (dz dl_Mod_failIfDone_1 0 62 (.iload 6) 2 rfl) rfl ?_
    refine mp_iadd (dz dl_Mod_failIfDone_1 1 64 (.iadd) 1 rfl) ?_
    obtain ⟨i1, h⟩ := h
    refine mp_iald (dz dl_Mod_failIfDone_1 2 65 (.iaload) 1 rfl) kd_96 rfl sm_96 i1 ?_
    refine mp_if_le (tgt := 79) (dz dl_Mod_failIfDone_1 3 66 (.ifCond .le (13)) 3 rfl) (by decide) (fun hc => ?_) (fun hc => ?_)
    · replace h := h.1 hc
      refine mp_iload (i := 5) (x := l5) (dz dl_Mod_failIfDone_1 10 79 (.iload 5) 2 rfl) rfl ?_
      refine mp_istore (i := 5) (dz dl_Mod_failIfDone_1 11 81 (.istore 5) 2 rfl) [qr 1 (some 0), qi l1, qi l2, qi l3, qi l4, qi l5, qi l6] (by decide) rfl ?_
      refine mp_aload_n (i := 0) (v := qr 1 (some 0)) (dz dl_Mod_failIfDone_1 12 83 (.aload_n 0) 1 rfl) rfl rfl trivial ?_
      refine mp_getA (dz dl_Mod_failIfDone_1 13 84 (.getfield 40) 3 rfl) lk_Mod_40 (q := 0) kd_78 rfl sm_78 ?_
      refine mp_iload (i := 6) (x := l6) (dz dl_Mod_failIfDone_1 14 87 (.iload 6) 2 rfl) rfl ?_
      refine mp_aload_n (i := 0) (v := qr 1 (some 0)) (dz dl_Mod_failIfDone_1 15 89 (.aload_n 0) 1 rfl) rfl rfl trivial ?_
      refine mp_getA (dz dl_Mod_failIfDone_1 16 90 (.getfield 94) 3 rfl) lk_Mod_94 (q := 0) kd_97 rfl sm_97 ?_
      refine mp_iconst (dz dl_Mod_failIfDone_1 17 93 (.iconst (5)) 1 rfl) (v := (5 : Int32)) (by decide) ?_
      refine mp_iload_n (i := 2) (x := l2) (dz dl_Mod_failIfDone_1 18 94 (.iload_n 2) 1 rfl) rfl rfl ?_
      refine mp_imul (dz dl_Mod_failIfDone_1 19 95 (.imul) 1 rfl) ?_
      refine mp_iload (i := 6) (x := l6) (dz dl_Mod_failIfDone_1 20 96 (.iload 6) 2 rfl) rfl ?_
      refine mp_iadd (dz dl_Mod_failIfDone_1 21 98 (.iadd) 1 rfl) ?_
      refine mp_iald (dz dl_Mod_failIfDone_1 22 99 (.iaload) 1 rfl) kd_97 rfl sm_97 i1 ?_
      obtain ⟨i2, h⟩ := h
      have h := h _ rfl
      refine mp_iast (dz dl_Mod_failIfDone_1 23 100 (.iastore) 1 rfl) kd_78 rfl sm_78 i2 rfl ?_
      refine mp_iinc (i := 6) (v := l6 + 1) (dz dl_Mod_failIfDone_1 24 101 (.iinc 6 (1)) 3 rfl) rfl (congrArg (fun z => l6 + z) (by decide)) [qr 1 (some 0), qi l1, qi l2, qi l3, qi l4, qi l5, qi (l6 + 1)] (by decide) rfl ?_
      refine mp_goto (tgt := 49) (dz dl_Mod_failIfDone_1 25 104 (.goto (-55)) 3 rfl) (by decide) ?_
      exact mp_cut h ⟨Or.inr rfl, Or.inr rfl, Or.inr rfl, Or.inr rfl, Or.inr rfl, Or.inr rfl, Or.inr rfl, trivial⟩
    · replace h := h.2 hc
      refine mp_iload (i := 5) (x := l5) (dz dl_Mod_failIfDone_1 4 69 (.iload 5) 2 rfl) rfl ?_
      refine mp_iconst (dz dl_Mod_failIfDone_1 5 71 (.iconst (1)) 1 rfl) (v := (1 : Int32)) (by decide) ?_
      refine mp_iload (i := 6) (x := l6) (dz dl_Mod_failIfDone_1 6 72 (.iload 6) 2 rfl) rfl ?_
      refine mp_ishl (dz dl_Mod_failIfDone_1 7 74 (.ishl) 1 rfl) ?_
      refine mp_ior (dz dl_Mod_failIfDone_1 8 75 (.ior) 1 rfl) ?_
      refine mp_goto (tgt := 81) (dz dl_Mod_failIfDone_1 9 76 (.goto (5)) 3 rfl) (by decide) ?_
      refine mp_istore (i := 5) (dz dl_Mod_failIfDone_1 11 81 (.istore 5) 2 rfl) [qr 1 (some 0), qi l1, qi l2, qi l3, qi l4, qi (l5 ||| ((1 : Int32) <<< (l6 &&& 31))), qi l6] (by decide) rfl ?_
      refine mp_aload_n (i := 0) (v := qr 1 (some 0)) (dz dl_Mod_failIfDone_1 12 83 (.aload_n 0) 1 rfl) rfl rfl trivial ?_
      refine mp_getA (dz dl_Mod_failIfDone_1 13 84 (.getfield 40) 3 rfl) lk_Mod_40 (q := 0) kd_78 rfl sm_78 ?_
      refine mp_iload (i := 6) (x := l6) (dz dl_Mod_failIfDone_1 14 87 (.iload 6) 2 rfl) rfl ?_
      refine mp_aload_n (i := 0) (v := qr 1 (some 0)) (dz dl_Mod_failIfDone_1 15 89 (.aload_n 0) 1 rfl) rfl rfl trivial ?_
      refine mp_getA (dz dl_Mod_failIfDone_1 16 90 (.getfield 94) 3 rfl) lk_Mod_94 (q := 0) kd_97 rfl sm_97 ?_
      refine mp_iconst (dz dl_Mod_failIfDone_1 17 93 (.iconst (5)) 1 rfl) (v := (5 : Int32)) (by decide) ?_
      refine mp_iload_n (i := 2) (x := l2) (dz dl_Mod_failIfDone_1 18 94 (.iload_n 2) 1 rfl) rfl rfl ?_
      refine mp_imul (dz dl_Mod_failIfDone_1 19 95 (.imul) 1 rfl) ?_
      refine mp_iload (i := 6) (x := l6) (dz dl_Mod_failIfDone_1 20 96 (.iload 6) 2 rfl) rfl ?_
      refine mp_iadd (dz dl_Mod_failIfDone_1 21 98 (.iadd) 1 rfl) ?_
      refine mp_iald (dz dl_Mod_failIfDone_1 22 99 (.iaload) 1 rfl) kd_97 rfl sm_97 i1 ?_
      obtain ⟨i3, h⟩ := h
      have h := h _ rfl
      refine mp_iast (dz dl_Mod_failIfDone_1 23 100 (.iastore) 1 rfl) kd_78 rfl sm_78 i3 rfl ?_
      refine mp_iinc (i := 6) (v := l6 + 1) (dz dl_Mod_failIfDone_1 24 101 (.iinc 6 (1)) 3 rfl) rfl (congrArg (fun z => l6 + z) (by decide)) [qr 1 (some 0), qi l1, qi l2, qi l3, qi l4, qi (l5 ||| ((1 : Int32) <<< (l6 &&& 31))), qi (l6 + 1)] (by decide) rfl ?_
      refine mp_goto (tgt := 49) (dz dl_Mod_failIfDone_1 25 104 (.goto (-55)) 3 rfl) (by decide) ?_
      exact mp_cut h ⟨Or.inr rfl, Or.inr rfl, Or.inr rfl, Or.inr rfl, Or.inr rfl, Or.inr rfl, Or.inr rfl, trivial⟩

theorem mb_Mod_failIfDone_116 {u : MS} {l1 : Int32} {l3 : Int32} {l4 : Int32} {l5 : Int32} {l6 : Int32} {Z : MS → Prop} (h : ((5 : Int32) ≤ l6 → Z u) ∧ (¬ (5 : Int32) ≤ l6 → (¬ ((l5 >>> (l6 &&& 31)) &&& (1 : Int32)) = (1 : Int32) → mWP M_Mod_failIfDone 116 [qr 1 (some 0), qi l1, none, qi l3, qi l4, qi l5, qi (l6 + 1)] [] u (mV Z)) ∧ (((l5 >>> (l6 &&& 31)) &&& (1 : Int32)) = (1 : Int32) → vp_in l6 5 ∧ mMT M_Mod_nackOut [qr 1 (some 0), qi l1, qi l6, qi l3, qi l4, qi (u 78 l6.toNatClampNeg)] u (mV fun u1 => mWP M_Mod_failIfDone 116 [qr 1 (some 0), qi l1, none, qi l3, qi l4, qi l5, qi (l6 + 1)] [] u1 (mV Z))))) : mWP M_Mod_failIfDone 116 [qr 1 (some 0), qi l1, none, qi l3, qi l4, qi l5, qi l6] [] u (mV Z) := by
  refine mp_iload (i := 6) (x := l6) (dz dl_Mod_failIfDone_1 32 116 (.iload 6) 2 rfl) rfl ?_
  refine mp_iconst (dz dl_Mod_failIfDone_1 33 118 (.iconst (5)) 1 rfl) (v := (5 : Int32)) (by decide) ?_
  refine mp_icmp_ge (tgt := 156) (dz dl_Mod_failIfDone_1 34 119 (.if_icmp .ge (37)) 3 rfl) (by decide) (fun hc => ?_) (fun hc => ?_)
  · replace h := h.1 hc
    exact mp_rt none (rt_V rfl (dz dl_Mod_failIfDone_2 14 156 (.return_) 1 rfl)) ⟨rfl, h⟩
  · replace h := h.2 hc
    refine mp_iload (i := 5) (x := l5) (dz dl_Mod_failIfDone_1 35 122 (.iload 5) 2 rfl) rfl ?_
    refine mp_iload (i := 6) (x := l6) (dz dl_Mod_failIfDone_1 36 124 (.iload 6) 2 rfl) rfl ?_
    refine mp_ishr (dz dl_Mod_failIfDone_1 37 126 (.ishr) 1 rfl) ?_
    refine mp_iconst (dz dl_Mod_failIfDone_1 38 127 (.iconst (1)) 1 rfl) (v := (1 : Int32)) (by decide) ?_
    refine mp_iand (dz dl_Mod_failIfDone_1 39 128 (.iand) 1 rfl) ?_
    refine mp_iconst (dz dl_Mod_failIfDone_2 0 129 (.iconst (1)) 1 rfl) (v := (1 : Int32)) (by decide) ?_
    refine mp_icmp_ne (tgt := 150) (dz dl_Mod_failIfDone_2 1 130 (.if_icmp .ne (20)) 3 rfl) (by decide) (fun hc => ?_) (fun hc => ?_)
    · replace h := h.1 hc
      refine mp_iinc (i := 6) (v := l6 + 1) (dz dl_Mod_failIfDone_2 12 150 (.iinc 6 (1)) 3 rfl) rfl (congrArg (fun z => l6 + z) (by decide)) [qr 1 (some 0), qi l1, none, qi l3, qi l4, qi l5, qi (l6 + 1)] (by decide) rfl ?_
      refine mp_goto (tgt := 116) (dz dl_Mod_failIfDone_2 13 153 (.goto (-37)) 3 rfl) (by decide) ?_
      exact mp_cut h ⟨Or.inr rfl, Or.inr rfl, Or.inl rfl, Or.inr rfl, Or.inr rfl, Or.inr rfl, Or.inr rfl, trivial⟩
    · replace h := h.2 hc
      refine mp_aload_n (i := 0) (v := qr 1 (some 0)) (dz dl_Mod_failIfDone_2 2 133 (.aload_n 0) 1 rfl) rfl rfl trivial ?_
      refine mp_iload_n (i := 1) (x := l1) (dz dl_Mod_failIfDone_2 3 134 (.iload_n 1) 1 rfl) rfl rfl ?_
      refine mp_iload (i := 6) (x := l6) (dz dl_Mod_failIfDone_2 4 135 (.iload 6) 2 rfl) rfl ?_
      refine mp_iload_n (i := 3) (x := l3) (dz dl_Mod_failIfDone_2 5 137 (.iload_n 3) 1 rfl) rfl rfl ?_
      refine mp_iload (i := 4) (x := l4) (dz dl_Mod_failIfDone_2 6 138 (.iload 4) 2 rfl) rfl ?_
      refine mp_aload_n (i := 0) (v := qr 1 (some 0)) (dz dl_Mod_failIfDone_2 7 140 (.aload_n 0) 1 rfl) rfl rfl trivial ?_
      refine mp_getA (dz dl_Mod_failIfDone_2 8 141 (.getfield 40) 3 rfl) lk_Mod_40 (q := 0) kd_78 rfl sm_78 ?_
      refine mp_iload (i := 6) (x := l6) (dz dl_Mod_failIfDone_2 9 144 (.iload 6) 2 rfl) rfl ?_
      obtain ⟨i1, h⟩ := h
      refine mp_iald (dz dl_Mod_failIfDone_2 10 146 (.iaload) 1 rfl) kd_78 rfl sm_78 i1 ?_
      refine mp_callV [qi l1, qi l6, qi l3, qi l4, qi (u 78 l6.toNatClampNeg)] [] (dz dl_Mod_failIfDone_2 11 147 (.invokevirtual 272) 3 rfl) ok_Mod_nackOut lm_Mod_272 ws_Mod_nackOut wv_Mod_nackOut ⟨Nat.le_of_ble_eq_true rfl, Nat.le_of_ble_eq_true rfl⟩ pn_Mod_nackOut (Nat.le_of_ble_eq_true rfl) (Nat.le_of_ble_eq_true rfl) (Or.inl rfl) (mmono h ?_)
      rintro _ u1 ⟨rfl, h⟩
      show mWP _ _ _ [] _ _
      refine mp_iinc (i := 6) (v := l6 + 1) (dz dl_Mod_failIfDone_2 12 150 (.iinc 6 (1)) 3 rfl) rfl (congrArg (fun z => l6 + z) (by decide)) [qr 1 (some 0), qi l1, none, qi l3, qi l4, qi l5, qi (l6 + 1)] (by decide) rfl ?_
      refine mp_goto (tgt := 116) (dz dl_Mod_failIfDone_2 13 153 (.goto (-37)) 3 rfl) (by decide) ?_
      exact mp_cut h ⟨Or.inr rfl, Or.inr rfl, Or.inl rfl, Or.inr rfl, Or.inr rfl, Or.inr rfl, Or.inr rfl, trivial⟩

theorem mb_Mod_data_0 {u : MS} {l1 : Int32} {l2 : Int32} {l3 : Int32} {l4 : Int32} {l5 : Int32} {Z : MS → Prop} (h : mWP M_Mod_data 9 [qr 1 (some 0), qi l1, qi l2, qi l3, qi l4, qi l5, qi (0 : Int32), qi ((6 : Int32) * l1)] [] u (mV Z)) : mWP M_Mod_data 0 [qr 1 (some 0), qi l1, qi l2, qi l3, qi l4, qi l5, none, none] [] u (mV Z) := by
  refine mp_iconst (dz dl_Mod_data_0 0 0 (.iconst (0)) 1 rfl) (v := (0 : Int32)) (by decide) ?_
  refine mp_istore (i := 6) (dz dl_Mod_data_0 1 1 (.istore 6) 2 rfl) [qr 1 (some 0), qi l1, qi l2, qi l3, qi l4, qi l5, qi (0 : Int32), none] (by decide) rfl ?_
  refine mp_bipush (dz dl_Mod_data_0 2 3 (.bipush (6)) 2 rfl) (v := (6 : Int32)) (by decide) ?_
  refine mp_iload_n (i := 1) (x := l1) (dz dl_Mod_data_0 3 5 (.iload_n 1) 1 rfl) rfl rfl ?_
  refine mp_imul (dz dl_Mod_data_0 4 6 (.imul) 1 rfl) ?_
  refine mp_istore (i := 7) (dz dl_Mod_data_0 5 7 (.istore 7) 2 rfl) [qr 1 (some 0), qi l1, qi l2, qi l3, qi l4, qi l5, qi (0 : Int32), qi ((6 : Int32) * l1)] (by decide) rfl ?_
  exact mp_cut h ⟨Or.inr rfl, Or.inr rfl, Or.inr rfl, Or.inr rfl, Or.inr rfl, Or.inr rfl, Or.inr rfl, Or.inr rfl, trivial⟩
theorem mt_Mod_data {u : MS} {l1 : Int32} {l2 : Int32} {l3 : Int32} {l4 : Int32} {l5 : Int32} {Z : MS → Prop} (h : mWP M_Mod_data 9 [qr 1 (some 0), qi l1, qi l2, qi l3, qi l4, qi l5, qi (0 : Int32), qi ((6 : Int32) * l1)] [] u (mV Z)) : mMT M_Mod_data [qr 1 (some 0), qi l1, qi l2, qi l3, qi l4, qi l5] u (mV Z) := mb_Mod_data_0 h

theorem mb_Mod_data_9 {u : MS} {l1 : Int32} {l2 : Int32} {l3 : Int32} {l4 : Int32} {l5 : Int32} {l6 : Int32} {l7 : Int32} {Z : MS → Prop} (h : vp_in l1 5 ∧ ((((6 : Int32) * l1) + (u 92 l1.toNatClampNeg)) ≤ l7 → Z u) ∧ (¬ (((6 : Int32) * l1) + (u 92 l1.toNatClampNeg)) ≤ l7 → vp_in l7 30 ∧ mMT M_Mod_answers [qr 1 (some 0), qi l3, qi (u 93 l7.toNatClampNeg), qi (u 94 l7.toNatClampNeg)] u (mI fun r1 u1 => (r1 = 0 → mWP M_Mod_data 9 [qr 1 (some 0), qi l1, qi l2, qi l3, qi l4, qi l5, qi l6, qi (l7 + 1)] [] u1 (mV Z)) ∧ (¬ r1 = 0 → vp_in (((5 : Int32) * l7) + l2) 150 ∧ ((u1 99 (((5 : Int32) * l7) + l2).toNatClampNeg) ≤ 0 → mWP M_Mod_data 9 [qr 1 (some 0), qi l1, qi l2, qi l3, qi l4, qi l5, qi l6, qi (l7 + 1)] [] u1 (mV Z)) ∧ (¬ (u1 99 (((5 : Int32) * l7) + l2).toNatClampNeg) ≤ 0 → (¬ l6 = 0 → mMT M_Mod_answerEntry [qr 1 (some 0), qi l1, qi l7, qi l3, qi l4, qi l5] u1 (mV fun u2 => mWP M_Mod_data 9 [qr 1 (some 0), qi l1, qi l2, qi l3, qi l4, qi l5, qi l6, qi l7] [] u2 (mV Z))) ∧ (l6 = 0 → mMT M_Mod_keep [qr 1 (some 0), qi l1, qi l3, qi l4, qi l5] u1 (mV fun u3 => mMT M_Mod_answerEntry [qr 1 (some 0), qi l1, qi l7, qi l3, qi l4, qi l5] u3 (mV fun u4 => mWP M_Mod_data 9 [qr 1 (some 0), qi l1, qi l2, qi l3, qi l4, qi l5, qi (1 : Int32), qi l7] [] u4 (mV Z))))))))) : mWP M_Mod_data 9 [qr 1 (some 0), qi l1, qi l2, qi l3, qi l4, qi l5, qi l6, qi l7] [] u (mV Z) := by
  refine mp_iload (i := 7) (x := l7) (dz dl_Mod_data_0 6 9 (.iload 7) 2 rfl) rfl ?_
  refine mp_bipush (dz dl_Mod_data_0 7 11 (.bipush (6)) 2 rfl) (v := (6 : Int32)) (by decide) ?_
  refine mp_iload_n (i := 1) (x := l1) (dz dl_Mod_data_0 8 13 (.iload_n 1) 1 rfl) rfl rfl ?_
  refine mp_imul (dz dl_Mod_data_0 9 14 (.imul) 1 rfl) ?_
  refine mp_aload_n (i := 0) (v := qr 1 (some 0)) (dz dl_Mod_data_0 10 15 (.aload_n 0) 1 rfl) rfl rfl trivial ?_
  refine mp_getA (dz dl_Mod_data_0 11 16 (.getfield 79) 3 rfl) lk_Mod_79 (q := 0) kd_92 rfl sm_92 ?_
  refine mp_iload_n (i := 1) (x := l1) (dz dl_Mod_data_0 12 19 (.iload_n 1) 1 rfl) rfl rfl ?_
  obtain ⟨i1, h⟩ := h
  refine mp_iald (dz dl_Mod_data_0 13 20 (.iaload) 1 rfl) kd_92 rfl sm_92 i1 ?_
  refine mp_iadd (dz dl_Mod_data_0 14 21 (.iadd) 1 rfl) ?_
  refine mp_icmp_ge (tgt := 100) (dz dl_Mod_data_0 15 22 (.if_icmp .ge (78)) 3 rfl) (by decide) (fun hc => ?_) (fun hc => ?_)
  · replace h := h.1 hc
    exact mp_rt none (rt_V rfl (dz dl_Mod_data_1 17 100 (.return_) 1 rfl)) ⟨rfl, h⟩
  · replace h := h.2 hc
    refine mp_aload_n (i := 0) (v := qr 1 (some 0)) (dz dl_Mod_data_0 16 25 (.aload_n 0) 1 rfl) rfl rfl trivial ?_
    refine mp_iload_n (i := 3) (x := l3) (dz dl_Mod_data_0 17 26 (.iload_n 3) 1 rfl) rfl rfl ?_
    refine mp_aload_n (i := 0) (v := qr 1 (some 0)) (dz dl_Mod_data_0 18 27 (.aload_n 0) 1 rfl) rfl rfl trivial ?_
    refine mp_getA (dz dl_Mod_data_0 19 28 (.getfield 82) 3 rfl) lk_Mod_82 (q := 0) kd_93 rfl sm_93 ?_
    refine mp_iload (i := 7) (x := l7) (dz dl_Mod_data_0 20 31 (.iload 7) 2 rfl) rfl ?_
    obtain ⟨i2, h⟩ := h
    refine mp_iald (dz dl_Mod_data_0 21 33 (.iaload) 1 rfl) kd_93 rfl sm_93 i2 ?_
    refine mp_aload_n (i := 0) (v := qr 1 (some 0)) (dz dl_Mod_data_0 22 34 (.aload_n 0) 1 rfl) rfl rfl trivial ?_
    refine mp_getA (dz dl_Mod_data_0 23 35 (.getfield 85) 3 rfl) lk_Mod_85 (q := 0) kd_94 rfl sm_94 ?_
    refine mp_iload (i := 7) (x := l7) (dz dl_Mod_data_0 24 38 (.iload 7) 2 rfl) rfl ?_
    refine mp_iald (dz dl_Mod_data_0 25 40 (.iaload) 1 rfl) kd_94 rfl sm_94 i2 ?_
    refine mp_callV [qi l3, qi (u 93 l7.toNatClampNeg), qi (u 94 l7.toNatClampNeg)] [] (dz dl_Mod_data_0 26 41 (.invokevirtual 256) 3 rfl) ok_Mod_answers lm_Mod_256 ws_Mod_answers wv_Mod_answers ⟨Nat.le_of_ble_eq_true rfl, Nat.le_of_ble_eq_true rfl⟩ pn_Mod_answers (Nat.le_of_ble_eq_true rfl) (Nat.le_of_ble_eq_true rfl) (Or.inl rfl) (mmono h ?_)
    rintro _ u1 ⟨r1, rfl, h⟩
    show mWP _ _ _ [qi r1] _ _
    refine mp_if_eq (tgt := 94) (dz dl_Mod_data_0 27 44 (.ifCond .eq (50)) 3 rfl) (by decide) (fun hc => ?_) (fun hc => ?_)
    · replace h := h.1 hc
      refine mp_iinc (i := 7) (v := l7 + 1) (dz dl_Mod_data_1 15 94 (.iinc 7 (1)) 3 rfl) rfl (congrArg (fun z => l7 + z) (by decide)) [qr 1 (some 0), qi l1, qi l2, qi l3, qi l4, qi l5, qi l6, qi (l7 + 1)] (by decide) rfl ?_
      refine mp_goto (tgt := 9) (dz dl_Mod_data_1 16 97 (.goto (-88)) 3 rfl) (by decide) ?_
      exact mp_cut h ⟨Or.inr rfl, Or.inr rfl, Or.inr rfl, Or.inr rfl, Or.inr rfl, Or.inr rfl, Or.inr rfl, Or.inr rfl, trivial⟩
    · replace h := h.2 hc
      refine mp_aload_n (i := 0) (v := qr 1 (some 0)) (dz dl_Mod_data_0 28 47 (.aload_n 0) 1 rfl) rfl rfl trivial ?_
      refine mp_getA (dz dl_Mod_data_0 29 48 (.getfield 100) 3 rfl) lk_Mod_100 (q := 0) kd_99 rfl sm_99 ?_
      refine mp_iconst (dz dl_Mod_data_0 30 51 (.iconst (5)) 1 rfl) (v := (5 : Int32)) (by decide) ?_
      refine mp_iload (i := 7) (x := l7) (dz dl_Mod_data_0 31 52 (.iload 7) 2 rfl) rfl ?_
      refine mp_imul (dz dl_Mod_data_0 32 54 (.imul) 1 rfl) ?_
      refine mp_iload_n (i := 2) (x := l2) (dz dl_Mod_data_0 33 55 (.iload_n 2) 1 rfl) rfl rfl ?_
      refine mp_iadd (dz dl_Mod_data_0 34 56 (.iadd) 1 rfl) ?_
      obtain ⟨i3, h⟩ := h
      refine mp_iald (dz dl_Mod_data_0 35 57 (.iaload) 1 rfl) kd_99 rfl sm_99 i3 ?_
      refine mp_if_le (tgt := 94) (dz dl_Mod_data_0 36 58 (.ifCond .le (36)) 3 rfl) (by decide) (fun hc => ?_) (fun hc => ?_)
      · replace h := h.1 hc
        refine mp_iinc (i := 7) (v := l7 + 1) (dz dl_Mod_data_1 15 94 (.iinc 7 (1)) 3 rfl) rfl (congrArg (fun z => l7 + z) (by decide)) [qr 1 (some 0), qi l1, qi l2, qi l3, qi l4, qi l5, qi l6, qi (l7 + 1)] (by decide) rfl ?_
        refine mp_goto (tgt := 9) (dz dl_Mod_data_1 16 97 (.goto (-88)) 3 rfl) (by decide) ?_
        exact mp_cut h ⟨Or.inr rfl, Or.inr rfl, Or.inr rfl, Or.inr rfl, Or.inr rfl, Or.inr rfl, Or.inr rfl, Or.inr rfl, trivial⟩
      · replace h := h.2 hc
        refine mp_iload (i := 6) (x := l6) (dz dl_Mod_data_0 37 61 (.iload 6) 2 rfl) rfl ?_
        refine mp_if_ne (tgt := 79) (dz dl_Mod_data_0 38 63 (.ifCond .ne (16)) 3 rfl) (by decide) (fun hc => ?_) (fun hc => ?_)
        · replace h := h.1 hc
          refine mp_aload_n (i := 0) (v := qr 1 (some 0)) (dz dl_Mod_data_1 7 79 (.aload_n 0) 1 rfl) rfl rfl trivial ?_
          refine mp_iload_n (i := 1) (x := l1) (dz dl_Mod_data_1 8 80 (.iload_n 1) 1 rfl) rfl rfl ?_
          refine mp_iload (i := 7) (x := l7) (dz dl_Mod_data_1 9 81 (.iload 7) 2 rfl) rfl ?_
          refine mp_iload_n (i := 3) (x := l3) (dz dl_Mod_data_1 10 83 (.iload_n 3) 1 rfl) rfl rfl ?_
          refine mp_iload (i := 4) (x := l4) (dz dl_Mod_data_1 11 84 (.iload 4) 2 rfl) rfl ?_
          refine mp_iload (i := 5) (x := l5) (dz dl_Mod_data_1 12 86 (.iload 5) 2 rfl) rfl ?_
          refine mp_callV [qi l1, qi l7, qi l3, qi l4, qi l5] [] (dz dl_Mod_data_1 13 88 (.invokevirtual 302) 3 rfl) ok_Mod_answerEntry lm_Mod_302 ws_Mod_answerEntry wv_Mod_answerEntry ⟨Nat.le_of_ble_eq_true rfl, Nat.le_of_ble_eq_true rfl⟩ pn_Mod_answerEntry (Nat.le_of_ble_eq_true rfl) (Nat.le_of_ble_eq_true rfl) (Or.inl rfl) (mmono h ?_)
          rintro _ u2 ⟨rfl, h⟩
          show mWP _ _ _ [] _ _
          refine mp_goto (tgt := 9) (dz dl_Mod_data_1 14 91 (.goto (-82)) 3 rfl) (by decide) ?_
          exact mp_cut h ⟨Or.inr rfl, Or.inr rfl, Or.inr rfl, Or.inr rfl, Or.inr rfl, Or.inr rfl, Or.inr rfl, Or.inr rfl, trivial⟩
        · replace h := h.2 hc
          refine mp_aload_n (i := 0) (v := qr 1 (some 0)) (dz dl_Mod_data_0 39 66 (.aload_n 0) 1 rfl) rfl rfl trivial ?_
          refine mp_iload_n (i := 1) (x := l1) (dz dl_Mod_data_1 0 67 (.iload_n 1) 1 rfl) rfl rfl ?_
          refine mp_iload_n (i := 3) (x := l3) (dz dl_Mod_data_1 1 68 (.iload_n 3) 1 rfl) rfl rfl ?_
          refine mp_iload (i := 4) (x := l4) (dz dl_Mod_data_1 2 69 (.iload 4) 2 rfl) rfl ?_
          refine mp_iload (i := 5) (x := l5) (dz dl_Mod_data_1 3 71 (.iload 5) 2 rfl) rfl ?_
          refine mp_callV [qi l1, qi l3, qi l4, qi l5] [] (dz dl_Mod_data_1 4 73 (.invokevirtual 299) 3 rfl) ok_Mod_keep lm_Mod_299 ws_Mod_keep wv_Mod_keep ⟨Nat.le_of_ble_eq_true rfl, Nat.le_of_ble_eq_true rfl⟩ pn_Mod_keep (Nat.le_of_ble_eq_true rfl) (Nat.le_of_ble_eq_true rfl) (Or.inl rfl) (mmono h ?_)
          rintro _ u3 ⟨rfl, h⟩
          show mWP _ _ _ [] _ _
          refine mp_iconst (dz dl_Mod_data_1 5 76 (.iconst (1)) 1 rfl) (v := (1 : Int32)) (by decide) ?_
          refine mp_istore (i := 6) (dz dl_Mod_data_1 6 77 (.istore 6) 2 rfl) [qr 1 (some 0), qi l1, qi l2, qi l3, qi l4, qi l5, qi (1 : Int32), qi l7] (by decide) rfl ?_
          refine mp_aload_n (i := 0) (v := qr 1 (some 0)) (dz dl_Mod_data_1 7 79 (.aload_n 0) 1 rfl) rfl rfl trivial ?_
          refine mp_iload_n (i := 1) (x := l1) (dz dl_Mod_data_1 8 80 (.iload_n 1) 1 rfl) rfl rfl ?_
          refine mp_iload (i := 7) (x := l7) (dz dl_Mod_data_1 9 81 (.iload 7) 2 rfl) rfl ?_
          refine mp_iload_n (i := 3) (x := l3) (dz dl_Mod_data_1 10 83 (.iload_n 3) 1 rfl) rfl rfl ?_
          refine mp_iload (i := 4) (x := l4) (dz dl_Mod_data_1 11 84 (.iload 4) 2 rfl) rfl ?_
          refine mp_iload (i := 5) (x := l5) (dz dl_Mod_data_1 12 86 (.iload 5) 2 rfl) rfl ?_
          refine mp_callV [qi l1, qi l7, qi l3, qi l4, qi l5] [] (dz dl_Mod_data_1 13 88 (.invokevirtual 302) 3 rfl) ok_Mod_answerEntry lm_Mod_302 ws_Mod_answerEntry wv_Mod_answerEntry ⟨Nat.le_of_ble_eq_true rfl, Nat.le_of_ble_eq_true rfl⟩ pn_Mod_answerEntry (Nat.le_of_ble_eq_true rfl) (Nat.le_of_ble_eq_true rfl) (Or.inl rfl) (mmono h ?_)
          rintro _ u4 ⟨rfl, h⟩
          show mWP _ _ _ [] _ _
          refine mp_goto (tgt := 9) (dz dl_Mod_data_1 14 91 (.goto (-82)) 3 rfl) (by decide) ?_
          exact mp_cut h ⟨Or.inr rfl, Or.inr rfl, Or.inr rfl, Or.inr rfl, Or.inr rfl, Or.inr rfl, Or.inr rfl, Or.inr rfl, trivial⟩

theorem mb_Mod_answerEntry_0 {u : MS} {l1 : Int32} {l2 : Int32} {l3 : Int32} {l4 : Int32} {l5 : Int32} {Z : MS → Prop} (h : mWP M_Mod_answerEntry 3 [qr 1 (some 0), qi l1, qi l2, qi l3, qi l4, qi l5, qi (0 : Int32)] [] u (mV Z)) : mWP M_Mod_answerEntry 0 [qr 1 (some 0), qi l1, qi l2, qi l3, qi l4, qi l5, none] [] u (mV Z) := by
  refine mp_iconst (dz dl_Mod_answerEntry_0 0 0 (.iconst (0)) 1 rfl) (v := (0 : Int32)) (by decide) ?_
  refine mp_istore (i := 6) (dz dl_Mod_answerEntry_0 1 1 (.istore 6) 2 rfl) [qr 1 (some 0), qi l1, qi l2, qi l3, qi l4, qi l5, qi (0 : Int32)] (by decide) rfl ?_
  exact mp_cut h ⟨Or.inr rfl, Or.inr rfl, Or.inr rfl, Or.inr rfl, Or.inr rfl, Or.inr rfl, Or.inr rfl, trivial⟩
theorem mt_Mod_answerEntry {u : MS} {l1 : Int32} {l2 : Int32} {l3 : Int32} {l4 : Int32} {l5 : Int32} {Z : MS → Prop} (h : mWP M_Mod_answerEntry 3 [qr 1 (some 0), qi l1, qi l2, qi l3, qi l4, qi l5, qi (0 : Int32)] [] u (mV Z)) : mMT M_Mod_answerEntry [qr 1 (some 0), qi l1, qi l2, qi l3, qi l4, qi l5] u (mV Z) := mb_Mod_answerEntry_0 h

theorem mb_Mod_answerEntry_3 {u : MS} {l1 : Int32} {l2 : Int32} {l3 : Int32} {l4 : Int32} {l5 : Int32} {l6 : Int32} {Z : MS → Prop} (h : ((4 : Int32) ≤ l6 → vp_in (((5 : Int32) * l2) + (4 : Int32)) 150 ∧ ((u 96 (((5 : Int32) * l2) + (4 : Int32)).toNatClampNeg) ≤ 0 → mMT M_Mod_removeEntry [qr 1 (some 0), qi l1, qi l2] u (mV fun u1 => Z u1)) ∧ (¬ (u 96 (((5 : Int32) * l2) + (4 : Int32)).toNatClampNeg) ≤ 0 → vp_in l2 30 ∧ mMT M_Mod_settle [qr 1 (some 0), qi l1, qi (u 93 l2.toNatClampNeg), qi (u 94 l2.toNatClampNeg), qi (1 : Int32), qi l3, qi l4] u (mV fun u2 => mMT M_Mod_removeEntry [qr 1 (some 0), qi l1, qi l2] u2 (mV fun u3 => Z u3)))) ∧ (¬ (4 : Int32) ≤ l6 → vp_in (((5 : Int32) * l2) + l6) 150 ∧ ((u 96 (((5 : Int32) * l2) + l6).toNatClampNeg) ≤ 0 → mWP M_Mod_answerEntry 3 [qr 1 (some 0), qi l1, qi l2, qi l3, qi l4, qi l5, qi (l6 + 1)] [] u (mV Z)) ∧ (¬ (u 96 (((5 : Int32) * l2) + l6).toNatClampNeg) ≤ 0 → mMT M_Mod_put [qr 1 (some 0), qi (((4 : Int32) * l1) + l6), qi (1 : Int32), qi l3, qi l4, qi l5, qi (0 : Int32)] u (mV fun u4 => mWP M_Mod_answerEntry 3 [qr 1 (some 0), qi l1, qi l2, qi l3, qi l4, qi l5, qi (l6 + 1)] [] u4 (mV Z))))) : mWP M_Mod_answerEntry 3 [qr 1 (some 0), qi l1, qi l2, qi l3, qi l4, qi l5, qi l6] [] u (mV Z) := by
  refine mp_iload (i := 6) (x := l6) (dz dl_Mod_answerEntry_0 2 3 (.iload 6) 2 rfl) rfl ?_
  refine mp_iconst (dz dl_Mod_answerEntry_0 3 5 (.iconst (4)) 1 rfl) (v := (4 : Int32)) (by decide) ?_
  refine mp_icmp_ge (tgt := 46) (dz dl_Mod_answerEntry_0 4 6 (.if_icmp .ge (40)) 3 rfl) (by decide) (fun hc => ?_) (fun hc => ?_)
  · replace h := h.1 hc
    refine mp_aload_n (i := 0) (v := qr 1 (some 0)) (dz dl_Mod_answerEntry_0 28 46 (.aload_n 0) 1 rfl) rfl rfl trivial ?_
    refine mp_getA (dz dl_Mod_answerEntry_0 29 47 (.getfield 91) 3 rfl) lk_Mod_91 (q := 0) kd_96 rfl sm_96 ?_
    refine mp_iconst (dz dl_Mod_answerEntry_0 30 50 (.iconst (5)) 1 rfl) (v := (5 : Int32)) (by decide) ?_
    refine mp_iload_n (i := 2) (x := l2) (dz dl_Mod_answerEntry_0 31 51 (.iload_n 2) 1 rfl) rfl rfl ?_
    refine mp_imul (dz dl_Mod_answerEntry_0 32 52 (.imul) 1 rfl) ?_
    refine mp_iconst (dz dl_Mod_answerEntry_0 33 53 (.iconst (4)) 1 rfl) (v := (4 : Int32)) (by decide) ?_
    refine mp_iadd (dz dl_Mod_answerEntry_0 34 54 (.iadd) 1 rfl) ?_
    obtain ⟨i1, h⟩ := h
    refine mp_iald (dz dl_Mod_answerEntry_0 35 55 (.iaload) 1 rfl) kd_96 rfl sm_96 i1 ?_
    refine mp_if_le (tgt := 80) (dz dl_Mod_answerEntry_0 36 56 (.ifCond .le (24)) 3 rfl) (by decide) (fun hc => ?_) (fun hc => ?_)
    · replace h := h.1 hc
      refine mp_aload_n (i := 0) (v := qr 1 (some 0)) (dz dl_Mod_answerEntry_1 11 80 (.aload_n 0) 1 rfl) rfl rfl trivial ?_
      refine mp_iload_n (i := 1) (x := l1) (dz dl_Mod_answerEntry_1 12 81 (.iload_n 1) 1 rfl) rfl rfl ?_
      refine mp_iload_n (i := 2) (x := l2) (dz dl_Mod_answerEntry_1 13 82 (.iload_n 2) 1 rfl) rfl rfl ?_
      refine mp_callV [qi l1, qi l2] [] (dz dl_Mod_answerEntry_1 14 83 (.invokevirtual 296) 3 rfl) ok_Mod_removeEntry lm_Mod_296 ws_Mod_removeEntry wv_Mod_removeEntry ⟨Nat.le_of_ble_eq_true rfl, Nat.le_of_ble_eq_true rfl⟩ pn_Mod_removeEntry (Nat.le_of_ble_eq_true rfl) (Nat.le_of_ble_eq_true rfl) (Or.inl rfl) (mmono h ?_)
      rintro _ u1 ⟨rfl, h⟩
      show mWP _ _ _ [] _ _
      exact mp_rt none (rt_V rfl (dz dl_Mod_answerEntry_1 15 86 (.return_) 1 rfl)) ⟨rfl, h⟩
    · replace h := h.2 hc
      refine mp_aload_n (i := 0) (v := qr 1 (some 0)) (dz dl_Mod_answerEntry_0 37 59 (.aload_n 0) 1 rfl) rfl rfl trivial ?_
      refine mp_iload_n (i := 1) (x := l1) (dz dl_Mod_answerEntry_0 38 60 (.iload_n 1) 1 rfl) rfl rfl ?_
      refine mp_aload_n (i := 0) (v := qr 1 (some 0)) (dz dl_Mod_answerEntry_0 39 61 (.aload_n 0) 1 rfl) rfl rfl trivial ?_
      refine mp_getA (dz dl_Mod_answerEntry_1 0 62 (.getfield 82) 3 rfl) lk_Mod_82 (q := 0) kd_93 rfl sm_93 ?_
      refine mp_iload_n (i := 2) (x := l2) (dz dl_Mod_answerEntry_1 1 65 (.iload_n 2) 1 rfl) rfl rfl ?_
      obtain ⟨i2, h⟩ := h
      refine mp_iald (dz dl_Mod_answerEntry_1 2 66 (.iaload) 1 rfl) kd_93 rfl sm_93 i2 ?_
      refine mp_aload_n (i := 0) (v := qr 1 (some 0)) (dz dl_Mod_answerEntry_1 3 67 (.aload_n 0) 1 rfl) rfl rfl trivial ?_
      refine mp_getA (dz dl_Mod_answerEntry_1 4 68 (.getfield 85) 3 rfl) lk_Mod_85 (q := 0) kd_94 rfl sm_94 ?_
      refine mp_iload_n (i := 2) (x := l2) (dz dl_Mod_answerEntry_1 5 71 (.iload_n 2) 1 rfl) rfl rfl ?_
      refine mp_iald (dz dl_Mod_answerEntry_1 6 72 (.iaload) 1 rfl) kd_94 rfl sm_94 i2 ?_
      refine mp_iconst (dz dl_Mod_answerEntry_1 7 73 (.iconst (1)) 1 rfl) (v := (1 : Int32)) (by decide) ?_
      refine mp_iload_n (i := 3) (x := l3) (dz dl_Mod_answerEntry_1 8 74 (.iload_n 3) 1 rfl) rfl rfl ?_
      refine mp_iload (i := 4) (x := l4) (dz dl_Mod_answerEntry_1 9 75 (.iload 4) 2 rfl) rfl ?_
      refine mp_callV [qi l1, qi (u 93 l2.toNatClampNeg), qi (u 94 l2.toNatClampNeg), qi (1 : Int32), qi l3, qi l4] [] (dz dl_Mod_answerEntry_1 10 77 (.invokevirtual 263) 3 rfl) ok_Mod_settle lm_Mod_263 ws_Mod_settle wv_Mod_settle ⟨Nat.le_of_ble_eq_true rfl, Nat.le_of_ble_eq_true rfl⟩ pn_Mod_settle (Nat.le_of_ble_eq_true rfl) (Nat.le_of_ble_eq_true rfl) (Or.inl rfl) (mmono h ?_)
      rintro _ u2 ⟨rfl, h⟩
      show mWP _ _ _ [] _ _
      refine mp_aload_n (i := 0) (v := qr 1 (some 0)) (dz dl_Mod_answerEntry_1 11 80 (.aload_n 0) 1 rfl) rfl rfl trivial ?_
      refine mp_iload_n (i := 1) (x := l1) (dz dl_Mod_answerEntry_1 12 81 (.iload_n 1) 1 rfl) rfl rfl ?_
      refine mp_iload_n (i := 2) (x := l2) (dz dl_Mod_answerEntry_1 13 82 (.iload_n 2) 1 rfl) rfl rfl ?_
      refine mp_callV [qi l1, qi l2] [] (dz dl_Mod_answerEntry_1 14 83 (.invokevirtual 296) 3 rfl) ok_Mod_removeEntry lm_Mod_296 ws_Mod_removeEntry wv_Mod_removeEntry ⟨Nat.le_of_ble_eq_true rfl, Nat.le_of_ble_eq_true rfl⟩ pn_Mod_removeEntry (Nat.le_of_ble_eq_true rfl) (Nat.le_of_ble_eq_true rfl) (Or.inl rfl) (mmono h ?_)
      rintro _ u3 ⟨rfl, h⟩
      show mWP _ _ _ [] _ _
      exact mp_rt none (rt_V rfl (dz dl_Mod_answerEntry_1 15 86 (.return_) 1 rfl)) ⟨rfl, h⟩
  · replace h := h.2 hc
    refine mp_aload_n (i := 0) (v := qr 1 (some 0)) (dz dl_Mod_answerEntry_0 5 9 (.aload_n 0) 1 rfl) rfl rfl trivial ?_
    refine mp_getA (dz dl_Mod_answerEntry_0 6 10 (.getfield 91) 3 rfl) lk_Mod_91 (q := 0) kd_96 rfl sm_96 ?_
    refine mp_iconst (dz dl_Mod_answerEntry_0 7 13 (.iconst (5)) 1 rfl) (v := (5 : Int32)) (by decide) ?_
    refine mp_iload_n (i := 2) (x := l2) (dz dl_Mod_answerEntry_0 8 14 (.iload_n 2) 1 rfl) rfl rfl ?_
    refine mp_imul (dz dl_Mod_answerEntry_0 9 15 (.imul) 1 rfl) ?_
    refine mp_iload (i := 6) (x := l6) (dz dl_Mod_answerEntry_0 10 16 (.iload 6) 2 rfl) rfl ?_
    refine mp_iadd (dz dl_Mod_answerEntry_0 11 18 (.iadd) 1 rfl) ?_
    obtain ⟨i3, h⟩ := h
    refine mp_iald (dz dl_Mod_answerEntry_0 12 19 (.iaload) 1 rfl) kd_96 rfl sm_96 i3 ?_
    refine mp_if_le (tgt := 40) (dz dl_Mod_answerEntry_0 13 20 (.ifCond .le (20)) 3 rfl) (by decide) (fun hc => ?_) (fun hc => ?_)
    · replace h := h.1 hc
      refine mp_iinc (i := 6) (v := l6 + 1) (dz dl_Mod_answerEntry_0 26 40 (.iinc 6 (1)) 3 rfl) rfl (congrArg (fun z => l6 + z) (by decide)) [qr 1 (some 0), qi l1, qi l2, qi l3, qi l4, qi l5, qi (l6 + 1)] (by decide) rfl ?_
      refine mp_goto (tgt := 3) (dz dl_Mod_answerEntry_0 27 43 (.goto (-40)) 3 rfl) (by decide) ?_
      exact mp_cut h ⟨Or.inr rfl, Or.inr rfl, Or.inr rfl, Or.inr rfl, Or.inr rfl, Or.inr rfl, Or.inr rfl, trivial⟩
    · replace h := h.2 hc
      refine mp_aload_n (i := 0) (v := qr 1 (some 0)) (dz dl_Mod_answerEntry_0 14 23 (.aload_n 0) 1 rfl) rfl rfl trivial ?_
      refine mp_iconst (dz dl_Mod_answerEntry_0 15 24 (.iconst (4)) 1 rfl) (v := (4 : Int32)) (by decide) ?_
      refine mp_iload_n (i := 1) (x := l1) (dz dl_Mod_answerEntry_0 16 25 (.iload_n 1) 1 rfl) rfl rfl ?_
      refine mp_imul (dz dl_Mod_answerEntry_0 17 26 (.imul) 1 rfl) ?_
      refine mp_iload (i := 6) (x := l6) (dz dl_Mod_answerEntry_0 18 27 (.iload 6) 2 rfl) rfl ?_
      refine mp_iadd (dz dl_Mod_answerEntry_0 19 29 (.iadd) 1 rfl) ?_
      refine mp_iconst (dz dl_Mod_answerEntry_0 20 30 (.iconst (1)) 1 rfl) (v := (1 : Int32)) (by decide) ?_
      refine mp_iload_n (i := 3) (x := l3) (dz dl_Mod_answerEntry_0 21 31 (.iload_n 3) 1 rfl) rfl rfl ?_
      refine mp_iload (i := 4) (x := l4) (dz dl_Mod_answerEntry_0 22 32 (.iload 4) 2 rfl) rfl ?_
      refine mp_iload (i := 5) (x := l5) (dz dl_Mod_answerEntry_0 23 34 (.iload 5) 2 rfl) rfl ?_
      refine mp_iconst (dz dl_Mod_answerEntry_0 24 36 (.iconst (0)) 1 rfl) (v := (0 : Int32)) (by decide) ?_
      refine mp_callV [qi (((4 : Int32) * l1) + l6), qi (1 : Int32), qi l3, qi l4, qi l5, qi (0 : Int32)] [] (dz dl_Mod_answerEntry_0 25 37 (.invokevirtual 216) 3 rfl) ok_Mod_put lm_Mod_216 ws_Mod_put wv_Mod_put ⟨Nat.le_of_ble_eq_true rfl, Nat.le_of_ble_eq_true rfl⟩ pn_Mod_put (Nat.le_of_ble_eq_true rfl) (Nat.le_of_ble_eq_true rfl) (Or.inl rfl) (mmono h ?_)
      rintro _ u4 ⟨rfl, h⟩
      show mWP _ _ _ [] _ _
      refine mp_iinc (i := 6) (v := l6 + 1) (dz dl_Mod_answerEntry_0 26 40 (.iinc 6 (1)) 3 rfl) rfl (congrArg (fun z => l6 + z) (by decide)) [qr 1 (some 0), qi l1, qi l2, qi l3, qi l4, qi l5, qi (l6 + 1)] (by decide) rfl ?_
      refine mp_goto (tgt := 3) (dz dl_Mod_answerEntry_0 27 43 (.goto (-40)) 3 rfl) (by decide) ?_
      exact mp_cut h ⟨Or.inr rfl, Or.inr rfl, Or.inr rfl, Or.inr rfl, Or.inr rfl, Or.inr rfl, Or.inr rfl, trivial⟩

theorem mb_Mod_nack_0 {u : MS} {l1 : Int32} {l2 : Int32} {l3 : Int32} {l4 : Int32} {l5 : Int32} {Z : MS → Prop} (h : mMT M_Mod_entry [qr 1 (some 0), qi l1, qi l3, qi l4] u (mI fun r1 u1 => (r1 < 0 → Z u1) ∧ (¬ r1 < 0 → vp_in (((5 : Int32) * r1) + l2) 150 ∧ (¬ (u1 99 (((5 : Int32) * r1) + l2).toNatClampNeg) = (1 : Int32) → Z u1) ∧ ((u1 99 (((5 : Int32) * r1) + l2).toNatClampNeg) = (1 : Int32) → ((u1 100 (((5 : Int32) * r1) + l2).toNatClampNeg) = l5 → ∀ u2, u2 = mu u1 99 (((5 : Int32) * r1) + l2).toNatClampNeg (2 : Int32) → vp_in r1 30 ∧ mMT M_Mod_passOn [qr 1 (some 0), qi l1, qi l3, qi l4, qi l5, qi (u2 95 r1.toNatClampNeg)] u2 (mV fun u3 => Z u3)) ∧ (¬ (u1 100 (((5 : Int32) * r1) + l2).toNatClampNeg) = l5 → Z u1))))) : mWP M_Mod_nack 0 [qr 1 (some 0), qi l1, qi l2, qi l3, qi l4, qi l5, none] [] u (mV Z) := by
  refine mp_aload_n (i := 0) (v := qr 1 (some 0)) (dz dl_Mod_nack_0 0 0 (.aload_n 0) 1 rfl) rfl rfl trivial ?_
  refine mp_iload_n (i := 1) (x := l1) (dz dl_Mod_nack_0 1 1 (.iload_n 1) 1 rfl) rfl rfl ?_
  refine mp_iload_n (i := 3) (x := l3) (dz dl_Mod_nack_0 2 2 (.iload_n 3) 1 rfl) rfl rfl ?_
  refine mp_iload (i := 4) (x := l4) (dz dl_Mod_nack_0 3 3 (.iload 4) 2 rfl) rfl ?_
  refine mp_callV [qi l1, qi l3, qi l4] [] (dz dl_Mod_nack_0 4 5 (.invokevirtual 266) 3 rfl) ok_Mod_entry lm_Mod_266 ws_Mod_entry wv_Mod_entry ⟨Nat.le_of_ble_eq_true rfl, Nat.le_of_ble_eq_true rfl⟩ pn_Mod_entry (Nat.le_of_ble_eq_true rfl) (Nat.le_of_ble_eq_true rfl) (Or.inl rfl) (mmono h ?_)
  rintro _ u1 ⟨r1, rfl, h⟩
  show mWP _ _ _ [qi r1] _ _
  refine mp_istore (i := 6) (dz dl_Mod_nack_0 5 8 (.istore 6) 2 rfl) [qr 1 (some 0), qi l1, qi l2, qi l3, qi l4, qi l5, qi r1] (by decide) rfl ?_
  refine mp_iload (i := 6) (x := r1) (dz dl_Mod_nack_0 6 10 (.iload 6) 2 rfl) rfl ?_
  refine mp_if_lt (tgt := 46) (dz dl_Mod_nack_0 7 12 (.ifCond .lt (34)) 3 rfl) (by decide) (fun hc => ?_) (fun hc => ?_)
  · replace h := h.1 hc
    exact mp_rt none (rt_V rfl (dz dl_Mod_nack_0 28 46 (.return_) 1 rfl)) ⟨rfl, h⟩
  · replace h := h.2 hc
    refine mp_aload_n (i := 0) (v := qr 1 (some 0)) (dz dl_Mod_nack_0 8 15 (.aload_n 0) 1 rfl) rfl rfl trivial ?_
    refine mp_getA (dz dl_Mod_nack_0 9 16 (.getfield 100) 3 rfl) lk_Mod_100 (q := 0) kd_99 rfl sm_99 ?_
    refine mp_iconst (dz dl_Mod_nack_0 10 19 (.iconst (5)) 1 rfl) (v := (5 : Int32)) (by decide) ?_
    refine mp_iload (i := 6) (x := r1) (dz dl_Mod_nack_0 11 20 (.iload 6) 2 rfl) rfl ?_
    refine mp_imul (dz dl_Mod_nack_0 12 22 (.imul) 1 rfl) ?_
    refine mp_iload_n (i := 2) (x := l2) (dz dl_Mod_nack_0 13 23 (.iload_n 2) 1 rfl) rfl rfl ?_
    refine mp_iadd (dz dl_Mod_nack_0 14 24 (.iadd) 1 rfl) ?_
    obtain ⟨i1, h⟩ := h
    refine mp_iald (dz dl_Mod_nack_0 15 25 (.iaload) 1 rfl) kd_99 rfl sm_99 i1 ?_
    refine mp_iconst (dz dl_Mod_nack_0 16 26 (.iconst (1)) 1 rfl) (v := (1 : Int32)) (by decide) ?_
    refine mp_icmp_ne (tgt := 46) (dz dl_Mod_nack_0 17 27 (.if_icmp .ne (19)) 3 rfl) (by decide) (fun hc => ?_) (fun hc => ?_)
    · replace h := h.1 hc
      exact mp_rt none (rt_V rfl (dz dl_Mod_nack_0 28 46 (.return_) 1 rfl)) ⟨rfl, h⟩
    · replace h := h.2 hc
      refine mp_aload_n (i := 0) (v := qr 1 (some 0)) (dz dl_Mod_nack_0 18 30 (.aload_n 0) 1 rfl) rfl rfl trivial ?_
      refine mp_getA (dz dl_Mod_nack_0 19 31 (.getfield 103) 3 rfl) lk_Mod_103 (q := 0) kd_100 rfl sm_100 ?_
      refine mp_iconst (dz dl_Mod_nack_0 20 34 (.iconst (5)) 1 rfl) (v := (5 : Int32)) (by decide) ?_
      refine mp_iload (i := 6) (x := r1) (dz dl_Mod_nack_0 21 35 (.iload 6) 2 rfl) rfl ?_
      refine mp_imul (dz dl_Mod_nack_0 22 37 (.imul) 1 rfl) ?_
      refine mp_iload_n (i := 2) (x := l2) (dz dl_Mod_nack_0 23 38 (.iload_n 2) 1 rfl) rfl rfl ?_
      refine mp_iadd (dz dl_Mod_nack_0 24 39 (.iadd) 1 rfl) ?_
      refine mp_iald (dz dl_Mod_nack_0 25 40 (.iaload) 1 rfl) kd_100 rfl sm_100 i1 ?_
      refine mp_iload (i := 5) (x := l5) (dz dl_Mod_nack_0 26 41 (.iload 5) 2 rfl) rfl ?_
      refine mp_icmp_eq (tgt := 47) (dz dl_Mod_nack_0 27 43 (.if_icmp .eq (4)) 3 rfl) (by decide) (fun hc => ?_) (fun hc => ?_)
      · replace h := h.1 hc
        refine mp_aload_n (i := 0) (v := qr 1 (some 0)) (dz dl_Mod_nack_0 29 47 (.aload_n 0) 1 rfl) rfl rfl trivial ?_
        refine mp_getA (dz dl_Mod_nack_0 30 48 (.getfield 100) 3 rfl) lk_Mod_100 (q := 0) kd_99 rfl sm_99 ?_
        refine mp_iconst (dz dl_Mod_nack_0 31 51 (.iconst (5)) 1 rfl) (v := (5 : Int32)) (by decide) ?_
        refine mp_iload (i := 6) (x := r1) (dz dl_Mod_nack_0 32 52 (.iload 6) 2 rfl) rfl ?_
        refine mp_imul (dz dl_Mod_nack_0 33 54 (.imul) 1 rfl) ?_
        refine mp_iload_n (i := 2) (x := l2) (dz dl_Mod_nack_0 34 55 (.iload_n 2) 1 rfl) rfl rfl ?_
        refine mp_iadd (dz dl_Mod_nack_0 35 56 (.iadd) 1 rfl) ?_
        refine mp_iconst (dz dl_Mod_nack_0 36 57 (.iconst (2)) 1 rfl) (v := (2 : Int32)) (by decide) ?_
        have h := h _ rfl
        refine mp_iast (dz dl_Mod_nack_0 37 58 (.iastore) 1 rfl) kd_99 rfl sm_99 i1 rfl ?_
        refine mp_aload_n (i := 0) (v := qr 1 (some 0)) (dz dl_Mod_nack_0 38 59 (.aload_n 0) 1 rfl) rfl rfl trivial ?_
        refine mp_iload_n (i := 1) (x := l1) (dz dl_Mod_nack_0 39 60 (.iload_n 1) 1 rfl) rfl rfl ?_
        refine mp_iload_n (i := 3) (x := l3) (dz dl_Mod_nack_1 0 61 (.iload_n 3) 1 rfl) rfl rfl ?_
        refine mp_iload (i := 4) (x := l4) (dz dl_Mod_nack_1 1 62 (.iload 4) 2 rfl) rfl ?_
        refine mp_iload (i := 5) (x := l5) (dz dl_Mod_nack_1 2 64 (.iload 5) 2 rfl) rfl ?_
        refine mp_aload_n (i := 0) (v := qr 1 (some 0)) (dz dl_Mod_nack_1 3 66 (.aload_n 0) 1 rfl) rfl rfl trivial ?_
        refine mp_getA (dz dl_Mod_nack_1 4 67 (.getfield 88) 3 rfl) lk_Mod_88 (q := 0) kd_95 rfl sm_95 ?_
        refine mp_iload (i := 6) (x := r1) (dz dl_Mod_nack_1 5 70 (.iload 6) 2 rfl) rfl ?_
        obtain ⟨i2, h⟩ := h
        refine mp_iald (dz dl_Mod_nack_1 6 72 (.iaload) 1 rfl) kd_95 rfl sm_95 i2 ?_
        refine mp_callV [qi l1, qi l3, qi l4, qi l5, qi ((mu u1 99 (((5 : Int32) * r1) + l2).toNatClampNeg (2 : Int32)) 95 r1.toNatClampNeg)] [] (dz dl_Mod_nack_1 7 73 (.invokevirtual 281) 3 rfl) ok_Mod_passOn lm_Mod_281 ws_Mod_passOn wv_Mod_passOn ⟨Nat.le_of_ble_eq_true rfl, Nat.le_of_ble_eq_true rfl⟩ pn_Mod_passOn (Nat.le_of_ble_eq_true rfl) (Nat.le_of_ble_eq_true rfl) (Or.inl rfl) (mmono h ?_)
        rintro _ u3 ⟨rfl, h⟩
        show mWP _ _ _ [] _ _
        exact mp_rt none (rt_V rfl (dz dl_Mod_nack_1 8 76 (.return_) 1 rfl)) ⟨rfl, h⟩
      · replace h := h.2 hc
        exact mp_rt none (rt_V rfl (dz dl_Mod_nack_0 28 46 (.return_) 1 rfl)) ⟨rfl, h⟩
theorem mt_Mod_nack {u : MS} {l1 : Int32} {l2 : Int32} {l3 : Int32} {l4 : Int32} {l5 : Int32} {Z : MS → Prop} (h : mMT M_Mod_entry [qr 1 (some 0), qi l1, qi l3, qi l4] u (mI fun r1 u1 => (r1 < 0 → Z u1) ∧ (¬ r1 < 0 → vp_in (((5 : Int32) * r1) + l2) 150 ∧ (¬ (u1 99 (((5 : Int32) * r1) + l2).toNatClampNeg) = (1 : Int32) → Z u1) ∧ ((u1 99 (((5 : Int32) * r1) + l2).toNatClampNeg) = (1 : Int32) → ((u1 100 (((5 : Int32) * r1) + l2).toNatClampNeg) = l5 → ∀ u2, u2 = mu u1 99 (((5 : Int32) * r1) + l2).toNatClampNeg (2 : Int32) → vp_in r1 30 ∧ mMT M_Mod_passOn [qr 1 (some 0), qi l1, qi l3, qi l4, qi l5, qi (u2 95 r1.toNatClampNeg)] u2 (mV fun u3 => Z u3)) ∧ (¬ (u1 100 (((5 : Int32) * r1) + l2).toNatClampNeg) = l5 → Z u1))))) : mMT M_Mod_nack [qr 1 (some 0), qi l1, qi l2, qi l3, qi l4, qi l5] u (mV Z) := mb_Mod_nack_0 h

theorem mb_Mod_newRequest_0 {u : MS} {l1 : Int32} {l2 : Int32} {l3 : Int32} {l4 : Int32} {Z : Int32 → MS → Prop} (h : (¬ (u 101 0) = (120 : Int32) → ∀ u1, u1 = mu u 101 0 ((u 101 0) + (1 : Int32)) → vp_in (u 101 0) 120 ∧ ∀ u2, u2 = mu u1 102 (u 101 0).toNatClampNeg l1 → ∀ u3, u3 = mu u2 103 (u 101 0).toNatClampNeg l2 → ∀ u4, u4 = mu u3 104 (u 101 0).toNatClampNeg l3 → ∀ u5, u5 = mu u4 105 (u 101 0).toNatClampNeg (0 : Int32) → ∀ u6, u6 = mu u5 106 (u 101 0).toNatClampNeg (u5 67 0) → ∀ u7, u7 = mu u6 107 (u 101 0).toNatClampNeg (-1 : Int32) → mMT M_Mod_interest [qr 1 (some 0), qi l1, qi (4 : Int32), qi l2, qi l3, qi ((1000 : Int32) + (u 101 0)), qi l4] u7 (mV fun u8 => Z (u 101 0) u8)) ∧ ((u 101 0) = (120 : Int32) → Z (-2 : Int32) u)) : mWP M_Mod_newRequest 0 [qr 1 (some 0), qi l1, qi l2, qi l3, qi l4, none] [] u (mI Z) := by
  refine mp_aload_n (i := 0) (v := qr 1 (some 0)) (dz dl_Mod_newRequest_0 0 0 (.aload_n 0) 1 rfl) rfl rfl trivial ?_
  refine mp_getI (dz dl_Mod_newRequest_0 1 1 (.getfield 260) 3 rfl) lk_Mod_260 kd_101 rfl ?_
  refine mp_bipush (dz dl_Mod_newRequest_0 2 4 (.bipush (120)) 2 rfl) (v := (120 : Int32)) (by decide) ?_
  refine mp_icmp_ne (tgt := 12) (dz dl_Mod_newRequest_0 3 6 (.if_icmp .ne (6)) 3 rfl) (by decide) (fun hc => ?_) (fun hc => ?_)
  · replace h := h.1 hc
    refine mp_aload_n (i := 0) (v := qr 1 (some 0)) (dz dl_Mod_newRequest_0 6 12 (.aload_n 0) 1 rfl) rfl rfl trivial ?_
    refine mp_getI (dz dl_Mod_newRequest_0 7 13 (.getfield 260) 3 rfl) lk_Mod_260 kd_101 rfl ?_
    refine mp_istore (i := 5) (dz dl_Mod_newRequest_0 8 16 (.istore 5) 2 rfl) [qr 1 (some 0), qi l1, qi l2, qi l3, qi l4, qi (u 101 0)] (by decide) rfl ?_
    refine mp_aload_n (i := 0) (v := qr 1 (some 0)) (dz dl_Mod_newRequest_0 9 18 (.aload_n 0) 1 rfl) rfl rfl trivial ?_
    refine mp_dup (dz dl_Mod_newRequest_0 10 19 (.dup) 1 rfl) ?_
    refine mp_getI (dz dl_Mod_newRequest_0 11 20 (.getfield 260) 3 rfl) lk_Mod_260 kd_101 rfl ?_
    refine mp_iconst (dz dl_Mod_newRequest_0 12 23 (.iconst (1)) 1 rfl) (v := (1 : Int32)) (by decide) ?_
    refine mp_iadd (dz dl_Mod_newRequest_0 13 24 (.iadd) 1 rfl) ?_
    have h := h _ rfl
    refine mp_putI (dz dl_Mod_newRequest_0 14 25 (.putfield 260) 3 rfl) lk_Mod_260 kd_101 rfl rfl (okI_0 _) rfl ?_
    refine mp_aload_n (i := 0) (v := qr 1 (some 0)) (dz dl_Mod_newRequest_0 15 28 (.aload_n 0) 1 rfl) rfl rfl trivial ?_
    refine mp_getA (dz dl_Mod_newRequest_0 16 29 (.getfield 106) 3 rfl) lk_Mod_106 (q := 0) kd_102 rfl sm_102 ?_
    refine mp_iload (i := 5) (x := u 101 0) (dz dl_Mod_newRequest_0 17 32 (.iload 5) 2 rfl) rfl ?_
    refine mp_iload_n (i := 1) (x := l1) (dz dl_Mod_newRequest_0 18 34 (.iload_n 1) 1 rfl) rfl rfl ?_
    obtain ⟨i1, h⟩ := h
    have h := h _ rfl
    refine mp_iast (dz dl_Mod_newRequest_0 19 35 (.iastore) 1 rfl) kd_102 rfl sm_102 i1 rfl ?_
    refine mp_aload_n (i := 0) (v := qr 1 (some 0)) (dz dl_Mod_newRequest_0 20 36 (.aload_n 0) 1 rfl) rfl rfl trivial ?_
    refine mp_getA (dz dl_Mod_newRequest_0 21 37 (.getfield 109) 3 rfl) lk_Mod_109 (q := 0) kd_103 rfl sm_103 ?_
    refine mp_iload (i := 5) (x := u 101 0) (dz dl_Mod_newRequest_0 22 40 (.iload 5) 2 rfl) rfl ?_
    refine mp_iload_n (i := 2) (x := l2) (dz dl_Mod_newRequest_0 23 42 (.iload_n 2) 1 rfl) rfl rfl ?_
    have h := h _ rfl
    refine mp_iast (dz dl_Mod_newRequest_0 24 43 (.iastore) 1 rfl) kd_103 rfl sm_103 i1 rfl ?_
    refine mp_aload_n (i := 0) (v := qr 1 (some 0)) (dz dl_Mod_newRequest_0 25 44 (.aload_n 0) 1 rfl) rfl rfl trivial ?_
    refine mp_getA (dz dl_Mod_newRequest_0 26 45 (.getfield 112) 3 rfl) lk_Mod_112 (q := 0) kd_104 rfl sm_104 ?_
    refine mp_iload (i := 5) (x := u 101 0) (dz dl_Mod_newRequest_0 27 48 (.iload 5) 2 rfl) rfl ?_
    refine mp_iload_n (i := 3) (x := l3) (dz dl_Mod_newRequest_0 28 50 (.iload_n 3) 1 rfl) rfl rfl ?_
    have h := h _ rfl
    refine mp_iast (dz dl_Mod_newRequest_0 29 51 (.iastore) 1 rfl) kd_104 rfl sm_104 i1 rfl ?_
    refine mp_aload_n (i := 0) (v := qr 1 (some 0)) (dz dl_Mod_newRequest_0 30 52 (.aload_n 0) 1 rfl) rfl rfl trivial ?_
    refine mp_getA (dz dl_Mod_newRequest_0 31 53 (.getfield 115) 3 rfl) lk_Mod_115 (q := 0) kd_105 rfl sm_105 ?_
    refine mp_iload (i := 5) (x := u 101 0) (dz dl_Mod_newRequest_0 32 56 (.iload 5) 2 rfl) rfl ?_
    refine mp_iconst (dz dl_Mod_newRequest_0 33 58 (.iconst (0)) 1 rfl) (v := (0 : Int32)) (by decide) ?_
    have h := h _ rfl
    refine mp_iast (dz dl_Mod_newRequest_0 34 59 (.iastore) 1 rfl) kd_105 rfl sm_105 i1 rfl ?_
    refine mp_aload_n (i := 0) (v := qr 1 (some 0)) (dz dl_Mod_newRequest_0 35 60 (.aload_n 0) 1 rfl) rfl rfl trivial ?_
    refine mp_getA (dz dl_Mod_newRequest_0 36 61 (.getfield 118) 3 rfl) lk_Mod_118 (q := 0) kd_106 rfl sm_106 ?_
    refine mp_iload (i := 5) (x := u 101 0) (dz dl_Mod_newRequest_0 37 64 (.iload 5) 2 rfl) rfl ?_
    refine mp_aload_n (i := 0) (v := qr 1 (some 0)) (dz dl_Mod_newRequest_0 38 66 (.aload_n 0) 1 rfl) rfl rfl trivial ?_
    refine mp_getI (dz dl_Mod_newRequest_0 39 67 (.getfield 250) 3 rfl) lk_Mod_250 kd_67 rfl ?_
    have h := h _ rfl
    refine mp_iast (dz dl_Mod_newRequest_1 0 70 (.iastore) 1 rfl) kd_106 rfl sm_106 i1 rfl ?_
    refine mp_aload_n (i := 0) (v := qr 1 (some 0)) (dz dl_Mod_newRequest_1 1 71 (.aload_n 0) 1 rfl) rfl rfl trivial ?_
    refine mp_getA (dz dl_Mod_newRequest_1 2 72 (.getfield 121) 3 rfl) lk_Mod_121 (q := 0) kd_107 rfl sm_107 ?_
    refine mp_iload (i := 5) (x := u 101 0) (dz dl_Mod_newRequest_1 3 75 (.iload 5) 2 rfl) rfl ?_
    refine mp_iconst (dz dl_Mod_newRequest_1 4 77 (.iconst (-1)) 1 rfl) (v := (-1 : Int32)) (by decide) ?_
    have h := h _ rfl
    refine mp_iast (dz dl_Mod_newRequest_1 5 78 (.iastore) 1 rfl) kd_107 rfl sm_107 i1 rfl ?_
    refine mp_aload_n (i := 0) (v := qr 1 (some 0)) (dz dl_Mod_newRequest_1 6 79 (.aload_n 0) 1 rfl) rfl rfl trivial ?_
    refine mp_iload_n (i := 1) (x := l1) (dz dl_Mod_newRequest_1 7 80 (.iload_n 1) 1 rfl) rfl rfl ?_
    refine mp_iconst (dz dl_Mod_newRequest_1 8 81 (.iconst (4)) 1 rfl) (v := (4 : Int32)) (by decide) ?_
    refine mp_iload_n (i := 2) (x := l2) (dz dl_Mod_newRequest_1 9 82 (.iload_n 2) 1 rfl) rfl rfl ?_
    refine mp_iload_n (i := 3) (x := l3) (dz dl_Mod_newRequest_1 10 83 (.iload_n 3) 1 rfl) rfl rfl ?_
    refine mp_sipush (dz dl_Mod_newRequest_1 11 84 (.sipush (1000)) 3 rfl) (v := (1000 : Int32)) (by decide) ?_
    refine mp_iload (i := 5) (x := u 101 0) (dz dl_Mod_newRequest_1 12 87 (.iload 5) 2 rfl) rfl ?_
    refine mp_iadd (dz dl_Mod_newRequest_1 13 89 (.iadd) 1 rfl) ?_
    refine mp_iload (i := 4) (x := l4) (dz dl_Mod_newRequest_1 14 90 (.iload 4) 2 rfl) rfl ?_
    refine mp_callV [qi l1, qi (4 : Int32), qi l2, qi l3, qi ((1000 : Int32) + (u 101 0)), qi l4] [] (dz dl_Mod_newRequest_1 15 92 (.invokevirtual 202) 3 rfl) ok_Mod_interest lm_Mod_202 ws_Mod_interest wv_Mod_interest ⟨Nat.le_of_ble_eq_true rfl, Nat.le_of_ble_eq_true rfl⟩ pn_Mod_interest (Nat.le_of_ble_eq_true rfl) (Nat.le_of_ble_eq_true rfl) (Or.inl rfl) (mmono h ?_)
    rintro _ u8 ⟨rfl, h⟩
    show mWP _ _ _ [] _ _
    refine mp_iload (i := 5) (x := u 101 0) (dz dl_Mod_newRequest_1 16 95 (.iload 5) 2 rfl) rfl ?_
    exact mp_rt (qi _) (rt_I rfl (dz dl_Mod_newRequest_1 17 97 (.ireturn) 1 rfl)) ⟨_, rfl, h⟩
  · replace h := h.2 hc
    refine mp_bipush (dz dl_Mod_newRequest_0 4 9 (.bipush (-2)) 2 rfl) (v := (-2 : Int32)) (by decide) ?_
    exact mp_rt (qi _) (rt_I rfl (dz dl_Mod_newRequest_0 5 11 (.ireturn) 1 rfl)) ⟨_, rfl, h⟩
theorem mt_Mod_newRequest {u : MS} {l1 : Int32} {l2 : Int32} {l3 : Int32} {l4 : Int32} {Z : Int32 → MS → Prop} (h : (¬ (u 101 0) = (120 : Int32) → ∀ u1, u1 = mu u 101 0 ((u 101 0) + (1 : Int32)) → vp_in (u 101 0) 120 ∧ ∀ u2, u2 = mu u1 102 (u 101 0).toNatClampNeg l1 → ∀ u3, u3 = mu u2 103 (u 101 0).toNatClampNeg l2 → ∀ u4, u4 = mu u3 104 (u 101 0).toNatClampNeg l3 → ∀ u5, u5 = mu u4 105 (u 101 0).toNatClampNeg (0 : Int32) → ∀ u6, u6 = mu u5 106 (u 101 0).toNatClampNeg (u5 67 0) → ∀ u7, u7 = mu u6 107 (u 101 0).toNatClampNeg (-1 : Int32) → mMT M_Mod_interest [qr 1 (some 0), qi l1, qi (4 : Int32), qi l2, qi l3, qi ((1000 : Int32) + (u 101 0)), qi l4] u7 (mV fun u8 => Z (u 101 0) u8)) ∧ ((u 101 0) = (120 : Int32) → Z (-2 : Int32) u)) : mMT M_Mod_newRequest [qr 1 (some 0), qi l1, qi l2, qi l3, qi l4] u (mI Z) := mb_Mod_newRequest_0 h

theorem mb_Mod_ask_0 {u : MS} {l1 : Int32} {l2 : Int32} {l3 : Int32} {l4 : Int32} {Z : Int32 → MS → Prop} (h : mMT M_Mod_isNode [qi l1] u (mI fun r1 u1 => (r1 = 0 → Z (-1 : Int32) u1) ∧ (¬ r1 = 0 → mMT M_Mod_isName [qr 1 (some 0), qi l2] u1 (mI fun r2 u2 => (r2 = 0 → Z (-1 : Int32) u2) ∧ (¬ r2 = 0 → (l3 < 0 → Z (-1 : Int32) u2) ∧ (¬ l3 < 0 → ((3 : Int32) < l3 → Z (-1 : Int32) u2) ∧ (¬ (3 : Int32) < l3 → (l4 < 0 → Z (-1 : Int32) u2) ∧ (¬ l4 < 0 → (l4 ≤ (9 : Int32) → mMT M_Mod_newRequest [qr 1 (some 0), qi l1, qi l2, qi l3, qi l4] u2 (mI fun r3 u3 => Z r3 u3)) ∧ (¬ l4 ≤ (9 : Int32) → Z (-1 : Int32) u2))))))))) : mWP M_Mod_ask 0 [qr 1 (some 0), qi l1, qi l2, qi l3, qi l4] [] u (mI Z) := by
  refine mp_iload_n (i := 1) (x := l1) (dz dl_Mod_ask_0 0 0 (.iload_n 1) 1 rfl) rfl rfl ?_
  refine mp_callS [qi l1] [] (dz dl_Mod_ask_0 1 1 (.invokestatic 161) 3 rfl) ok_Mod_isNode lm_Mod_161 ws_Mod_isNode ⟨Nat.le_of_ble_eq_true rfl, Nat.le_of_ble_eq_true rfl⟩ pn_Mod_isNode (Nat.le_of_ble_eq_true rfl) (Nat.le_of_ble_eq_true rfl) (Or.inl rfl) (mmono h ?_)
  rintro _ u1 ⟨r1, rfl, h⟩
  show mWP _ _ _ [qi r1] _ _
  refine mp_if_eq (tgt := 36) (dz dl_Mod_ask_0 2 4 (.ifCond .eq (32)) 3 rfl) (by decide) (fun hc => ?_) (fun hc => ?_)
  · replace h := h.1 hc
    refine mp_iconst (dz dl_Mod_ask_0 17 36 (.iconst (-1)) 1 rfl) (v := (-1 : Int32)) (by decide) ?_
    exact mp_rt (qi _) (rt_I rfl (dz dl_Mod_ask_0 18 37 (.ireturn) 1 rfl)) ⟨_, rfl, h⟩
  · replace h := h.2 hc
    refine mp_aload_n (i := 0) (v := qr 1 (some 0)) (dz dl_Mod_ask_0 3 7 (.aload_n 0) 1 rfl) rfl rfl trivial ?_
    refine mp_iload_n (i := 2) (x := l2) (dz dl_Mod_ask_0 4 8 (.iload_n 2) 1 rfl) rfl rfl ?_
    refine mp_callV [qi l2] [] (dz dl_Mod_ask_0 5 9 (.invokevirtual 222) 3 rfl) ok_Mod_isName lm_Mod_222 ws_Mod_isName wv_Mod_isName ⟨Nat.le_of_ble_eq_true rfl, Nat.le_of_ble_eq_true rfl⟩ pn_Mod_isName (Nat.le_of_ble_eq_true rfl) (Nat.le_of_ble_eq_true rfl) (Or.inl rfl) (mmono h ?_)
    rintro _ u2 ⟨r2, rfl, h⟩
    show mWP _ _ _ [qi r2] _ _
    refine mp_if_eq (tgt := 36) (dz dl_Mod_ask_0 6 12 (.ifCond .eq (24)) 3 rfl) (by decide) (fun hc => ?_) (fun hc => ?_)
    · replace h := h.1 hc
      refine mp_iconst (dz dl_Mod_ask_0 17 36 (.iconst (-1)) 1 rfl) (v := (-1 : Int32)) (by decide) ?_
      exact mp_rt (qi _) (rt_I rfl (dz dl_Mod_ask_0 18 37 (.ireturn) 1 rfl)) ⟨_, rfl, h⟩
    · replace h := h.2 hc
      refine mp_iload_n (i := 3) (x := l3) (dz dl_Mod_ask_0 7 15 (.iload_n 3) 1 rfl) rfl rfl ?_
      refine mp_if_lt (tgt := 36) (dz dl_Mod_ask_0 8 16 (.ifCond .lt (20)) 3 rfl) (by decide) (fun hc => ?_) (fun hc => ?_)
      · replace h := h.1 hc
        refine mp_iconst (dz dl_Mod_ask_0 17 36 (.iconst (-1)) 1 rfl) (v := (-1 : Int32)) (by decide) ?_
        exact mp_rt (qi _) (rt_I rfl (dz dl_Mod_ask_0 18 37 (.ireturn) 1 rfl)) ⟨_, rfl, h⟩
      · replace h := h.2 hc
        refine mp_iload_n (i := 3) (x := l3) (dz dl_Mod_ask_0 9 19 (.iload_n 3) 1 rfl) rfl rfl ?_
        refine mp_iconst (dz dl_Mod_ask_0 10 20 (.iconst (3)) 1 rfl) (v := (3 : Int32)) (by decide) ?_
        refine mp_icmp_gt (tgt := 36) (dz dl_Mod_ask_0 11 21 (.if_icmp .gt (15)) 3 rfl) (by decide) (fun hc => ?_) (fun hc => ?_)
        · replace h := h.1 hc
          refine mp_iconst (dz dl_Mod_ask_0 17 36 (.iconst (-1)) 1 rfl) (v := (-1 : Int32)) (by decide) ?_
          exact mp_rt (qi _) (rt_I rfl (dz dl_Mod_ask_0 18 37 (.ireturn) 1 rfl)) ⟨_, rfl, h⟩
        · replace h := h.2 hc
          refine mp_iload (i := 4) (x := l4) (dz dl_Mod_ask_0 12 24 (.iload 4) 2 rfl) rfl ?_
          refine mp_if_lt (tgt := 36) (dz dl_Mod_ask_0 13 26 (.ifCond .lt (10)) 3 rfl) (by decide) (fun hc => ?_) (fun hc => ?_)
          · replace h := h.1 hc
            refine mp_iconst (dz dl_Mod_ask_0 17 36 (.iconst (-1)) 1 rfl) (v := (-1 : Int32)) (by decide) ?_
            exact mp_rt (qi _) (rt_I rfl (dz dl_Mod_ask_0 18 37 (.ireturn) 1 rfl)) ⟨_, rfl, h⟩
          · replace h := h.2 hc
            refine mp_iload (i := 4) (x := l4) (dz dl_Mod_ask_0 14 29 (.iload 4) 2 rfl) rfl ?_
            refine mp_bipush (dz dl_Mod_ask_0 15 31 (.bipush (9)) 2 rfl) (v := (9 : Int32)) (by decide) ?_
            refine mp_icmp_le (tgt := 38) (dz dl_Mod_ask_0 16 33 (.if_icmp .le (5)) 3 rfl) (by decide) (fun hc => ?_) (fun hc => ?_)
            · replace h := h.1 hc
              refine mp_aload_n (i := 0) (v := qr 1 (some 0)) (dz dl_Mod_ask_0 19 38 (.aload_n 0) 1 rfl) rfl rfl trivial ?_
              refine mp_iload_n (i := 1) (x := l1) (dz dl_Mod_ask_0 20 39 (.iload_n 1) 1 rfl) rfl rfl ?_
              refine mp_iload_n (i := 2) (x := l2) (dz dl_Mod_ask_0 21 40 (.iload_n 2) 1 rfl) rfl rfl ?_
              refine mp_iload_n (i := 3) (x := l3) (dz dl_Mod_ask_0 22 41 (.iload_n 3) 1 rfl) rfl rfl ?_
              refine mp_iload (i := 4) (x := l4) (dz dl_Mod_ask_0 23 42 (.iload 4) 2 rfl) rfl ?_
              refine mp_callV [qi l1, qi l2, qi l3, qi l4] [] (dz dl_Mod_ask_0 24 44 (.invokevirtual 305) 3 rfl) ok_Mod_newRequest lm_Mod_305 ws_Mod_newRequest wv_Mod_newRequest ⟨Nat.le_of_ble_eq_true rfl, Nat.le_of_ble_eq_true rfl⟩ pn_Mod_newRequest (Nat.le_of_ble_eq_true rfl) (Nat.le_of_ble_eq_true rfl) (Or.inl rfl) (mmono h ?_)
              rintro _ u3 ⟨r3, rfl, h⟩
              show mWP _ _ _ [qi r3] _ _
              exact mp_rt (qi _) (rt_I rfl (dz dl_Mod_ask_0 25 47 (.ireturn) 1 rfl)) ⟨_, rfl, h⟩
            · replace h := h.2 hc
              refine mp_iconst (dz dl_Mod_ask_0 17 36 (.iconst (-1)) 1 rfl) (v := (-1 : Int32)) (by decide) ?_
              exact mp_rt (qi _) (rt_I rfl (dz dl_Mod_ask_0 18 37 (.ireturn) 1 rfl)) ⟨_, rfl, h⟩
theorem mt_Mod_ask {u : MS} {l1 : Int32} {l2 : Int32} {l3 : Int32} {l4 : Int32} {Z : Int32 → MS → Prop} (h : mMT M_Mod_isNode [qi l1] u (mI fun r1 u1 => (r1 = 0 → Z (-1 : Int32) u1) ∧ (¬ r1 = 0 → mMT M_Mod_isName [qr 1 (some 0), qi l2] u1 (mI fun r2 u2 => (r2 = 0 → Z (-1 : Int32) u2) ∧ (¬ r2 = 0 → (l3 < 0 → Z (-1 : Int32) u2) ∧ (¬ l3 < 0 → ((3 : Int32) < l3 → Z (-1 : Int32) u2) ∧ (¬ (3 : Int32) < l3 → (l4 < 0 → Z (-1 : Int32) u2) ∧ (¬ l4 < 0 → (l4 ≤ (9 : Int32) → mMT M_Mod_newRequest [qr 1 (some 0), qi l1, qi l2, qi l3, qi l4] u2 (mI fun r3 u3 => Z r3 u3)) ∧ (¬ l4 ≤ (9 : Int32) → Z (-1 : Int32) u2))))))))) : mMT M_Mod_ask [qr 1 (some 0), qi l1, qi l2, qi l3, qi l4] u (mI Z) := mb_Mod_ask_0 h

theorem mb_Mod_over_0 {u : MS} {l1 : Int32} {Z : Int32 → MS → Prop} (h : mWP M_Mod_over 6 [qr 1 (some 0), qi l1, qi (0 : Int32), qi ((5 : Int32) * l1)] [] u (mI Z)) : mWP M_Mod_over 0 [qr 1 (some 0), qi l1, none, none] [] u (mI Z) := by
  refine mp_iconst (dz dl_Mod_over_0 0 0 (.iconst (0)) 1 rfl) (v := (0 : Int32)) (by decide) ?_
  refine mp_istore_n (i := 2) (dz dl_Mod_over_0 1 1 (.istore_n 2) 1 rfl) rfl [qr 1 (some 0), qi l1, qi (0 : Int32), none] (by decide) rfl ?_
  refine mp_iconst (dz dl_Mod_over_0 2 2 (.iconst (5)) 1 rfl) (v := (5 : Int32)) (by decide) ?_
  refine mp_iload_n (i := 1) (x := l1) (dz dl_Mod_over_0 3 3 (.iload_n 1) 1 rfl) rfl rfl ?_
  refine mp_imul (dz dl_Mod_over_0 4 4 (.imul) 1 rfl) ?_
  refine mp_istore_n (i := 3) (dz dl_Mod_over_0 5 5 (.istore_n 3) 1 rfl) rfl [qr 1 (some 0), qi l1, qi (0 : Int32), qi ((5 : Int32) * l1)] (by decide) rfl ?_
  exact mp_cut h ⟨Or.inr rfl, Or.inr rfl, Or.inr rfl, Or.inr rfl, trivial⟩
theorem mt_Mod_over {u : MS} {l1 : Int32} {Z : Int32 → MS → Prop} (h : mWP M_Mod_over 6 [qr 1 (some 0), qi l1, qi (0 : Int32), qi ((5 : Int32) * l1)] [] u (mI Z)) : mMT M_Mod_over [qr 1 (some 0), qi l1] u (mI Z) := mb_Mod_over_0 h

theorem mb_Mod_over_6 {u : MS} {l1 : Int32} {l2 : Int32} {l3 : Int32} {Z : Int32 → MS → Prop} (h : ((((5 : Int32) * l1) + (5 : Int32)) ≤ l3 → (¬ l2 = 0 → Z (0 : Int32) u) ∧ (l2 = 0 → Z (1 : Int32) u)) ∧ (¬ (((5 : Int32) * l1) + (5 : Int32)) ≤ l3 → vp_in l3 150 ∧ ((u 96 l3.toNatClampNeg) ≤ 0 → ∀ u1, u1 = mu u 96 l3.toNatClampNeg (u 96 l3.toNatClampNeg) → (¬ l2 = 0 → mWP M_Mod_over 6 [qr 1 (some 0), qi l1, qi (1 : Int32), qi (l3 + 1)] [] u1 (mI Z)) ∧ (l2 = 0 → ((u1 96 l3.toNatClampNeg) ≤ 0 → mWP M_Mod_over 6 [qr 1 (some 0), qi l1, qi (0 : Int32), qi (l3 + 1)] [] u1 (mI Z)) ∧ (¬ (u1 96 l3.toNatClampNeg) ≤ 0 → mWP M_Mod_over 6 [qr 1 (some 0), qi l1, qi (1 : Int32), qi (l3 + 1)] [] u1 (mI Z)))) ∧ (¬ (u 96 l3.toNatClampNeg) ≤ 0 → ((u 67 0) < (u 98 l3.toNatClampNeg) → ∀ u2, u2 = mu u 96 l3.toNatClampNeg (u 96 l3.toNatClampNeg) → (¬ l2 = 0 → mWP M_Mod_over 6 [qr 1 (some 0), qi l1, qi (1 : Int32), qi (l3 + 1)] [] u2 (mI Z)) ∧ (l2 = 0 → ((u2 96 l3.toNatClampNeg) ≤ 0 → mWP M_Mod_over 6 [qr 1 (some 0), qi l1, qi (0 : Int32), qi (l3 + 1)] [] u2 (mI Z)) ∧ (¬ (u2 96 l3.toNatClampNeg) ≤ 0 → mWP M_Mod_over 6 [qr 1 (some 0), qi l1, qi (1 : Int32), qi (l3 + 1)] [] u2 (mI Z)))) ∧ (¬ (u 67 0) < (u 98 l3.toNatClampNeg) → ∀ u3, u3 = mu u 96 l3.toNatClampNeg (0 : Int32) → (¬ l2 = 0 → mWP M_Mod_over 6 [qr 1 (some 0), qi l1, qi (1 : Int32), qi (l3 + 1)] [] u3 (mI Z)) ∧ (l2 = 0 → ((u3 96 l3.toNatClampNeg) ≤ 0 → mWP M_Mod_over 6 [qr 1 (some 0), qi l1, qi (0 : Int32), qi (l3 + 1)] [] u3 (mI Z)) ∧ (¬ (u3 96 l3.toNatClampNeg) ≤ 0 → mWP M_Mod_over 6 [qr 1 (some 0), qi l1, qi (1 : Int32), qi (l3 + 1)] [] u3 (mI Z))))))) : mWP M_Mod_over 6 [qr 1 (some 0), qi l1, qi l2, qi l3] [] u (mI Z) := by
  refine mp_iload_n (i := 3) (x := l3) (dz dl_Mod_over_0 6 6 (.iload_n 3) 1 rfl) rfl rfl ?_
  refine mp_iconst (dz dl_Mod_over_0 7 7 (.iconst (5)) 1 rfl) (v := (5 : Int32)) (by decide) ?_
  refine mp_iload_n (i := 1) (x := l1) (dz dl_Mod_over_0 8 8 (.iload_n 1) 1 rfl) rfl rfl ?_
  refine mp_imul (dz dl_Mod_over_0 9 9 (.imul) 1 rfl) ?_
  refine mp_iconst (dz dl_Mod_over_0 10 10 (.iconst (5)) 1 rfl) (v := (5 : Int32)) (by decide) ?_
  refine mp_iadd (dz dl_Mod_over_0 11 11 (.iadd) 1 rfl) ?_
  refine mp_icmp_ge (tgt := 78) (dz dl_Mod_over_0 12 12 (.if_icmp .ge (66)) 3 rfl) (by decide) (fun hc => ?_) (fun hc => ?_)
  · replace h := h.1 hc
    refine mp_iload_n (i := 2) (x := l2) (dz dl_Mod_over_1 8 78 (.iload_n 2) 1 rfl) rfl rfl ?_
    refine mp_if_ne (tgt := 86) (dz dl_Mod_over_1 9 79 (.ifCond .ne (7)) 3 rfl) (by decide) (fun hc => ?_) (fun hc => ?_)
    · replace h := h.1 hc
      refine mp_iconst (dz dl_Mod_over_1 12 86 (.iconst (0)) 1 rfl) (v := (0 : Int32)) (by decide) ?_
      exact mp_rt (qi _) (rt_Z rfl (Or.inl rfl) (dz dl_Mod_over_1 13 87 (.ireturn) 1 rfl)) ⟨_, rfl, h⟩
    · replace h := h.2 hc
      refine mp_iconst (dz dl_Mod_over_1 10 82 (.iconst (1)) 1 rfl) (v := (1 : Int32)) (by decide) ?_
      refine mp_goto (tgt := 87) (dz dl_Mod_over_1 11 83 (.goto (4)) 3 rfl) (by decide) ?_
      exact mp_rt (qi _) (rt_Z rfl (Or.inr rfl) (dz dl_Mod_over_1 13 87 (.ireturn) 1 rfl)) ⟨_, rfl, h⟩
  · replace h := h.2 hc
    refine mp_aload_n (i := 0) (v := qr 1 (some 0)) (dz dl_Mod_over_0 13 15 (.aload_n 0) 1 rfl) rfl rfl trivial ?_
    refine mp_getA (dz dl_Mod_over_0 14 16 (.getfield 91) 3 rfl) lk_Mod_91 (q := 0) kd_96 rfl sm_96 ?_
    refine mp_iload_n (i := 3) (x := l3) (dz dl_Mod_over_0 15 19 (.iload_n 3) 1 rfl) rfl rfl ?_
    refine mp_aload_n (i := 0) (v := qr 1 (some 0)) (dz dl_Mod_over_0 16 20 (.aload_n 0) 1 rfl) rfl rfl trivial ?_
    refine mp_getA (dz dl_Mod_over_0 17 21 (.getfield 91) 3 rfl) lk_Mod_91 (q := 0) kd_96 rfl sm_96 ?_
    refine mp_iload_n (i := 3) (x := l3) (dz dl_Mod_over_0 18 24 (.iload_n 3) 1 rfl) rfl rfl ?_
    obtain ⟨i1, h⟩ := h
    refine mp_iald (dz dl_Mod_over_0 19 25 (.iaload) 1 rfl) kd_96 rfl sm_96 i1 ?_
    refine mp_if_le (tgt := 46) (dz dl_Mod_over_0 20 26 (.ifCond .le (20)) 3 rfl) (by decide) (fun hc => ?_) (fun hc => ?_)
    · replace h := h.1 hc
      refine mp_aload_n (i := 0) (v := qr 1 (some 0)) (dz dl_Mod_over_0 30 46 (.aload_n 0) 1 rfl) rfl rfl trivial ?_
      refine mp_getA (dz dl_Mod_over_0 31 47 (.getfield 91) 3 rfl) lk_Mod_91 (q := 0) kd_96 rfl sm_96 ?_
      refine mp_iload_n (i := 3) (x := l3) (dz dl_Mod_over_0 32 50 (.iload_n 3) 1 rfl) rfl rfl ?_
      refine mp_iald (dz dl_Mod_over_0 33 51 (.iaload) 1 rfl) kd_96 rfl sm_96 i1 ?_
      have h := h _ rfl
      refine mp_iast (dz dl_Mod_over_0 34 52 (.iastore) 1 rfl) kd_96 rfl sm_96 i1 rfl ?_
      refine mp_iload_n (i := 2) (x := l2) (dz dl_Mod_over_0 35 53 (.iload_n 2) 1 rfl) rfl rfl ?_
      refine mp_if_ne (tgt := 66) (dz dl_Mod_over_0 36 54 (.ifCond .ne (12)) 3 rfl) (by decide) (fun hc => ?_) (fun hc => ?_)
      · replace h := h.1 hc
        refine mp_iconst (dz dl_Mod_over_1 2 66 (.iconst (1)) 1 rfl) (v := (1 : Int32)) (by decide) ?_
        refine mp_goto (tgt := 71) (dz dl_Mod_over_1 3 67 (.goto (4)) 3 rfl) (by decide) ?_
        refine mp_istore_n (i := 2) (dz dl_Mod_over_1 5 71 (.istore_n 2) 1 rfl) rfl [qr 1 (some 0), qi l1, qi (1 : Int32), qi l3] (by decide) rfl ?_
        refine mp_iinc (i := 3) (v := l3 + 1) (dz dl_Mod_over_1 6 72 (.iinc 3 (1)) 3 rfl) rfl (congrArg (fun z => l3 + z) (by decide)) [qr 1 (some 0), qi l1, qi (1 : Int32), qi (l3 + 1)] (by decide) rfl ?_
        refine mp_goto (tgt := 6) (dz dl_Mod_over_1 7 75 (.goto (-69)) 3 rfl) (by decide) ?_
        exact mp_cut h ⟨Or.inr rfl, Or.inr rfl, Or.inr rfl, Or.inr rfl, trivial⟩
      · replace h := h.2 hc
        refine mp_aload_n (i := 0) (v := qr 1 (some 0)) (dz dl_Mod_over_0 37 57 (.aload_n 0) 1 rfl) rfl rfl trivial ?_
        refine mp_getA (dz dl_Mod_over_0 38 58 (.getfield 91) 3 rfl) lk_Mod_91 (q := 0) kd_96 rfl sm_96 ?_
        refine mp_iload_n (i := 3) (x := l3) (dz dl_Mod_over_0 39 61 (.iload_n 3) 1 rfl) rfl rfl ?_
        refine mp_iald (dz dl_Mod_over_1 0 62 (.iaload) 1 rfl) kd_96 rfl sm_96 i1 ?_
        refine mp_if_le (tgt := 70) (dz dl_Mod_over_1 1 63 (.ifCond .le (7)) 3 rfl) (by decide) (fun hc => ?_) (fun hc => ?_)
        · replace h := h.1 hc
          refine mp_iconst (dz dl_Mod_over_1 4 70 (.iconst (0)) 1 rfl) (v := (0 : Int32)) (by decide) ?_
          refine mp_istore_n (i := 2) (dz dl_Mod_over_1 5 71 (.istore_n 2) 1 rfl) rfl [qr 1 (some 0), qi l1, qi (0 : Int32), qi l3] (by decide) rfl ?_
          refine mp_iinc (i := 3) (v := l3 + 1) (dz dl_Mod_over_1 6 72 (.iinc 3 (1)) 3 rfl) rfl (congrArg (fun z => l3 + z) (by decide)) [qr 1 (some 0), qi l1, qi (0 : Int32), qi (l3 + 1)] (by decide) rfl ?_
          refine mp_goto (tgt := 6) (dz dl_Mod_over_1 7 75 (.goto (-69)) 3 rfl) (by decide) ?_
          exact mp_cut h ⟨Or.inr rfl, Or.inr rfl, Or.inr rfl, Or.inr rfl, trivial⟩
        · replace h := h.2 hc
          refine mp_iconst (dz dl_Mod_over_1 2 66 (.iconst (1)) 1 rfl) (v := (1 : Int32)) (by decide) ?_
          refine mp_goto (tgt := 71) (dz dl_Mod_over_1 3 67 (.goto (4)) 3 rfl) (by decide) ?_
          refine mp_istore_n (i := 2) (dz dl_Mod_over_1 5 71 (.istore_n 2) 1 rfl) rfl [qr 1 (some 0), qi l1, qi (1 : Int32), qi l3] (by decide) rfl ?_
          refine mp_iinc (i := 3) (v := l3 + 1) (dz dl_Mod_over_1 6 72 (.iinc 3 (1)) 3 rfl) rfl (congrArg (fun z => l3 + z) (by decide)) [qr 1 (some 0), qi l1, qi (1 : Int32), qi (l3 + 1)] (by decide) rfl ?_
          refine mp_goto (tgt := 6) (dz dl_Mod_over_1 7 75 (.goto (-69)) 3 rfl) (by decide) ?_
          exact mp_cut h ⟨Or.inr rfl, Or.inr rfl, Or.inr rfl, Or.inr rfl, trivial⟩
    · replace h := h.2 hc
      refine mp_aload_n (i := 0) (v := qr 1 (some 0)) (dz dl_Mod_over_0 21 29 (.aload_n 0) 1 rfl) rfl rfl trivial ?_
      refine mp_getA (dz dl_Mod_over_0 22 30 (.getfield 97) 3 rfl) lk_Mod_97 (q := 0) kd_98 rfl sm_98 ?_
      refine mp_iload_n (i := 3) (x := l3) (dz dl_Mod_over_0 23 33 (.iload_n 3) 1 rfl) rfl rfl ?_
      refine mp_iald (dz dl_Mod_over_0 24 34 (.iaload) 1 rfl) kd_98 rfl sm_98 i1 ?_
      refine mp_aload_n (i := 0) (v := qr 1 (some 0)) (dz dl_Mod_over_0 25 35 (.aload_n 0) 1 rfl) rfl rfl trivial ?_
      refine mp_getI (dz dl_Mod_over_0 26 36 (.getfield 250) 3 rfl) lk_Mod_250 kd_67 rfl ?_
      refine mp_icmp_gt (tgt := 46) (dz dl_Mod_over_0 27 39 (.if_icmp .gt (7)) 3 rfl) (by decide) (fun hc => ?_) (fun hc => ?_)
      · replace h := h.1 hc
        refine mp_aload_n (i := 0) (v := qr 1 (some 0)) (dz dl_Mod_over_0 30 46 (.aload_n 0) 1 rfl) rfl rfl trivial ?_
        refine mp_getA (dz dl_Mod_over_0 31 47 (.getfield 91) 3 rfl) lk_Mod_91 (q := 0) kd_96 rfl sm_96 ?_
        refine mp_iload_n (i := 3) (x := l3) (dz dl_Mod_over_0 32 50 (.iload_n 3) 1 rfl) rfl rfl ?_
        refine mp_iald (dz dl_Mod_over_0 33 51 (.iaload) 1 rfl) kd_96 rfl sm_96 i1 ?_
        have h := h _ rfl
        refine mp_iast (dz dl_Mod_over_0 34 52 (.iastore) 1 rfl) kd_96 rfl sm_96 i1 rfl ?_
        refine mp_iload_n (i := 2) (x := l2) (dz dl_Mod_over_0 35 53 (.iload_n 2) 1 rfl) rfl rfl ?_
        refine mp_if_ne (tgt := 66) (dz dl_Mod_over_0 36 54 (.ifCond .ne (12)) 3 rfl) (by decide) (fun hc => ?_) (fun hc => ?_)
        · replace h := h.1 hc
          refine mp_iconst (dz dl_Mod_over_1 2 66 (.iconst (1)) 1 rfl) (v := (1 : Int32)) (by decide) ?_
          refine mp_goto (tgt := 71) (dz dl_Mod_over_1 3 67 (.goto (4)) 3 rfl) (by decide) ?_
          refine mp_istore_n (i := 2) (dz dl_Mod_over_1 5 71 (.istore_n 2) 1 rfl) rfl [qr 1 (some 0), qi l1, qi (1 : Int32), qi l3] (by decide) rfl ?_
          refine mp_iinc (i := 3) (v := l3 + 1) (dz dl_Mod_over_1 6 72 (.iinc 3 (1)) 3 rfl) rfl (congrArg (fun z => l3 + z) (by decide)) [qr 1 (some 0), qi l1, qi (1 : Int32), qi (l3 + 1)] (by decide) rfl ?_
          refine mp_goto (tgt := 6) (dz dl_Mod_over_1 7 75 (.goto (-69)) 3 rfl) (by decide) ?_
          exact mp_cut h ⟨Or.inr rfl, Or.inr rfl, Or.inr rfl, Or.inr rfl, trivial⟩
        · replace h := h.2 hc
          refine mp_aload_n (i := 0) (v := qr 1 (some 0)) (dz dl_Mod_over_0 37 57 (.aload_n 0) 1 rfl) rfl rfl trivial ?_
          refine mp_getA (dz dl_Mod_over_0 38 58 (.getfield 91) 3 rfl) lk_Mod_91 (q := 0) kd_96 rfl sm_96 ?_
          refine mp_iload_n (i := 3) (x := l3) (dz dl_Mod_over_0 39 61 (.iload_n 3) 1 rfl) rfl rfl ?_
          refine mp_iald (dz dl_Mod_over_1 0 62 (.iaload) 1 rfl) kd_96 rfl sm_96 i1 ?_
          refine mp_if_le (tgt := 70) (dz dl_Mod_over_1 1 63 (.ifCond .le (7)) 3 rfl) (by decide) (fun hc => ?_) (fun hc => ?_)
          · replace h := h.1 hc
            refine mp_iconst (dz dl_Mod_over_1 4 70 (.iconst (0)) 1 rfl) (v := (0 : Int32)) (by decide) ?_
            refine mp_istore_n (i := 2) (dz dl_Mod_over_1 5 71 (.istore_n 2) 1 rfl) rfl [qr 1 (some 0), qi l1, qi (0 : Int32), qi l3] (by decide) rfl ?_
            refine mp_iinc (i := 3) (v := l3 + 1) (dz dl_Mod_over_1 6 72 (.iinc 3 (1)) 3 rfl) rfl (congrArg (fun z => l3 + z) (by decide)) [qr 1 (some 0), qi l1, qi (0 : Int32), qi (l3 + 1)] (by decide) rfl ?_
            refine mp_goto (tgt := 6) (dz dl_Mod_over_1 7 75 (.goto (-69)) 3 rfl) (by decide) ?_
            exact mp_cut h ⟨Or.inr rfl, Or.inr rfl, Or.inr rfl, Or.inr rfl, trivial⟩
          · replace h := h.2 hc
            refine mp_iconst (dz dl_Mod_over_1 2 66 (.iconst (1)) 1 rfl) (v := (1 : Int32)) (by decide) ?_
            refine mp_goto (tgt := 71) (dz dl_Mod_over_1 3 67 (.goto (4)) 3 rfl) (by decide) ?_
            refine mp_istore_n (i := 2) (dz dl_Mod_over_1 5 71 (.istore_n 2) 1 rfl) rfl [qr 1 (some 0), qi l1, qi (1 : Int32), qi l3] (by decide) rfl ?_
            refine mp_iinc (i := 3) (v := l3 + 1) (dz dl_Mod_over_1 6 72 (.iinc 3 (1)) 3 rfl) rfl (congrArg (fun z => l3 + z) (by decide)) [qr 1 (some 0), qi l1, qi (1 : Int32), qi (l3 + 1)] (by decide) rfl ?_
            refine mp_goto (tgt := 6) (dz dl_Mod_over_1 7 75 (.goto (-69)) 3 rfl) (by decide) ?_
            exact mp_cut h ⟨Or.inr rfl, Or.inr rfl, Or.inr rfl, Or.inr rfl, trivial⟩
      · replace h := h.2 hc
        refine mp_iconst (dz dl_Mod_over_0 28 42 (.iconst (0)) 1 rfl) (v := (0 : Int32)) (by decide) ?_
        refine mp_goto (tgt := 52) (dz dl_Mod_over_0 29 43 (.goto (9)) 3 rfl) (by decide) ?_
        have h := h _ rfl
        refine mp_iast (dz dl_Mod_over_0 34 52 (.iastore) 1 rfl) kd_96 rfl sm_96 i1 rfl ?_
        refine mp_iload_n (i := 2) (x := l2) (dz dl_Mod_over_0 35 53 (.iload_n 2) 1 rfl) rfl rfl ?_
        refine mp_if_ne (tgt := 66) (dz dl_Mod_over_0 36 54 (.ifCond .ne (12)) 3 rfl) (by decide) (fun hc => ?_) (fun hc => ?_)
        · replace h := h.1 hc
          refine mp_iconst (dz dl_Mod_over_1 2 66 (.iconst (1)) 1 rfl) (v := (1 : Int32)) (by decide) ?_
          refine mp_goto (tgt := 71) (dz dl_Mod_over_1 3 67 (.goto (4)) 3 rfl) (by decide) ?_
          refine mp_istore_n (i := 2) (dz dl_Mod_over_1 5 71 (.istore_n 2) 1 rfl) rfl [qr 1 (some 0), qi l1, qi (1 : Int32), qi l3] (by decide) rfl ?_
          refine mp_iinc (i := 3) (v := l3 + 1) (dz dl_Mod_over_1 6 72 (.iinc 3 (1)) 3 rfl) rfl (congrArg (fun z => l3 + z) (by decide)) [qr 1 (some 0), qi l1, qi (1 : Int32), qi (l3 + 1)] (by decide) rfl ?_
          refine mp_goto (tgt := 6) (dz dl_Mod_over_1 7 75 (.goto (-69)) 3 rfl) (by decide) ?_
          exact mp_cut h ⟨Or.inr rfl, Or.inr rfl, Or.inr rfl, Or.inr rfl, trivial⟩
        · replace h := h.2 hc
          refine mp_aload_n (i := 0) (v := qr 1 (some 0)) (dz dl_Mod_over_0 37 57 (.aload_n 0) 1 rfl) rfl rfl trivial ?_
          refine mp_getA (dz dl_Mod_over_0 38 58 (.getfield 91) 3 rfl) lk_Mod_91 (q := 0) kd_96 rfl sm_96 ?_
          refine mp_iload_n (i := 3) (x := l3) (dz dl_Mod_over_0 39 61 (.iload_n 3) 1 rfl) rfl rfl ?_
          refine mp_iald (dz dl_Mod_over_1 0 62 (.iaload) 1 rfl) kd_96 rfl sm_96 i1 ?_
          refine mp_if_le (tgt := 70) (dz dl_Mod_over_1 1 63 (.ifCond .le (7)) 3 rfl) (by decide) (fun hc => ?_) (fun hc => ?_)
          · replace h := h.1 hc
            refine mp_iconst (dz dl_Mod_over_1 4 70 (.iconst (0)) 1 rfl) (v := (0 : Int32)) (by decide) ?_
            refine mp_istore_n (i := 2) (dz dl_Mod_over_1 5 71 (.istore_n 2) 1 rfl) rfl [qr 1 (some 0), qi l1, qi (0 : Int32), qi l3] (by decide) rfl ?_
            refine mp_iinc (i := 3) (v := l3 + 1) (dz dl_Mod_over_1 6 72 (.iinc 3 (1)) 3 rfl) rfl (congrArg (fun z => l3 + z) (by decide)) [qr 1 (some 0), qi l1, qi (0 : Int32), qi (l3 + 1)] (by decide) rfl ?_
            refine mp_goto (tgt := 6) (dz dl_Mod_over_1 7 75 (.goto (-69)) 3 rfl) (by decide) ?_
            exact mp_cut h ⟨Or.inr rfl, Or.inr rfl, Or.inr rfl, Or.inr rfl, trivial⟩
          · replace h := h.2 hc
            refine mp_iconst (dz dl_Mod_over_1 2 66 (.iconst (1)) 1 rfl) (v := (1 : Int32)) (by decide) ?_
            refine mp_goto (tgt := 71) (dz dl_Mod_over_1 3 67 (.goto (4)) 3 rfl) (by decide) ?_
            refine mp_istore_n (i := 2) (dz dl_Mod_over_1 5 71 (.istore_n 2) 1 rfl) rfl [qr 1 (some 0), qi l1, qi (1 : Int32), qi l3] (by decide) rfl ?_
            refine mp_iinc (i := 3) (v := l3 + 1) (dz dl_Mod_over_1 6 72 (.iinc 3 (1)) 3 rfl) rfl (congrArg (fun z => l3 + z) (by decide)) [qr 1 (some 0), qi l1, qi (1 : Int32), qi (l3 + 1)] (by decide) rfl ?_
            refine mp_goto (tgt := 6) (dz dl_Mod_over_1 7 75 (.goto (-69)) 3 rfl) (by decide) ?_
            exact mp_cut h ⟨Or.inr rfl, Or.inr rfl, Or.inr rfl, Or.inr rfl, trivial⟩

theorem mb_Mod_tick_0 {u : MS} {Z : Int32 → MS → Prop} (h : ∀ u1, u1 = mu u 67 0 ((u 67 0) + (1 : Int32)) → mWP M_Mod_tick 14 [qr 1 (some 0), qi (0 : Int32), qi (0 : Int32), none] [] u1 (mI Z)) : mWP M_Mod_tick 0 [qr 1 (some 0), none, none, none] [] u (mI Z) := by
  refine mp_aload_n (i := 0) (v := qr 1 (some 0)) (dz dl_Mod_tick_0 0 0 (.aload_n 0) 1 rfl) rfl rfl trivial ?_
  refine mp_dup (dz dl_Mod_tick_0 1 1 (.dup) 1 rfl) ?_
  refine mp_getI (dz dl_Mod_tick_0 2 2 (.getfield 250) 3 rfl) lk_Mod_250 kd_67 rfl ?_
  refine mp_iconst (dz dl_Mod_tick_0 3 5 (.iconst (1)) 1 rfl) (v := (1 : Int32)) (by decide) ?_
  refine mp_iadd (dz dl_Mod_tick_0 4 6 (.iadd) 1 rfl) ?_
  have h := h _ rfl
  refine mp_putI (dz dl_Mod_tick_0 5 7 (.putfield 250) 3 rfl) lk_Mod_250 kd_67 rfl rfl (okI_0 _) rfl ?_
  refine mp_iconst (dz dl_Mod_tick_0 6 10 (.iconst (0)) 1 rfl) (v := (0 : Int32)) (by decide) ?_
  refine mp_istore_n (i := 1) (dz dl_Mod_tick_0 7 11 (.istore_n 1) 1 rfl) rfl [qr 1 (some 0), qi (0 : Int32), none, none] (by decide) rfl ?_
  refine mp_iconst (dz dl_Mod_tick_0 8 12 (.iconst (0)) 1 rfl) (v := (0 : Int32)) (by decide) ?_
  refine mp_istore_n (i := 2) (dz dl_Mod_tick_0 9 13 (.istore_n 2) 1 rfl) rfl [qr 1 (some 0), qi (0 : Int32), qi (0 : Int32), none] (by decide) rfl ?_
  exact mp_cut h ⟨Or.inr rfl, Or.inr rfl, Or.inr rfl, Or.inl rfl, trivial⟩
theorem mt_Mod_tick {u : MS} {Z : Int32 → MS → Prop} (h : ∀ u1, u1 = mu u 67 0 ((u 67 0) + (1 : Int32)) → mWP M_Mod_tick 14 [qr 1 (some 0), qi (0 : Int32), qi (0 : Int32), none] [] u1 (mI Z)) : mMT M_Mod_tick [qr 1 (some 0)] u (mI Z) := mb_Mod_tick_0 h

theorem mb_Mod_tick_14 {u : MS} {l1 : Int32} {l2 : Int32} {Z : Int32 → MS → Prop} (h : ((5 : Int32) ≤ l2 → mWP M_Mod_tick 73 [qr 1 (some 0), qi l1, qi (0 : Int32), none] [] u (mI Z)) ∧ (¬ (5 : Int32) ≤ l2 → mWP M_Mod_tick 24 [qr 1 (some 0), qi l1, qi l2, qi ((6 : Int32) * l2)] [] u (mI Z))) : mWP M_Mod_tick 14 [qr 1 (some 0), qi l1, qi l2, none] [] u (mI Z) := by
  refine mp_iload_n (i := 2) (x := l2) (dz dl_Mod_tick_0 10 14 (.iload_n 2) 1 rfl) rfl rfl ?_
  refine mp_iconst (dz dl_Mod_tick_0 11 15 (.iconst (5)) 1 rfl) (v := (5 : Int32)) (by decide) ?_
  refine mp_icmp_ge (tgt := 71) (dz dl_Mod_tick_0 12 16 (.if_icmp .ge (55)) 3 rfl) (by decide) (fun hc => ?_) (fun hc => ?_)
  · replace h := h.1 hc
    refine mp_iconst (dz dl_Mod_tick_1 1 71 (.iconst (0)) 1 rfl) (v := (0 : Int32)) (by decide) ?_
    refine mp_istore_n (i := 2) (dz dl_Mod_tick_1 2 72 (.istore_n 2) 1 rfl) rfl [qr 1 (some 0), qi l1, qi (0 : Int32), none] (by decide) rfl ?_
    exact mp_cut h ⟨Or.inr rfl, Or.inr rfl, Or.inr rfl, Or.inl rfl, trivial⟩
  · replace h := h.2 hc
    refine mp_bipush (dz dl_Mod_tick_0 13 19 (.bipush (6)) 2 rfl) (v := (6 : Int32)) (by decide) ?_
    refine mp_iload_n (i := 2) (x := l2) (dz dl_Mod_tick_0 14 21 (.iload_n 2) 1 rfl) rfl rfl ?_
    refine mp_imul (dz dl_Mod_tick_0 15 22 (.imul) 1 rfl) ?_
    refine mp_istore_n (i := 3) (dz dl_Mod_tick_0 16 23 (.istore_n 3) 1 rfl) rfl [qr 1 (some 0), qi l1, qi l2, qi ((6 : Int32) * l2)] (by decide) rfl ?_
    exact mp_cut h ⟨Or.inr rfl, Or.inr rfl, Or.inr rfl, Or.inr rfl, trivial⟩

theorem mb_Mod_tick_24 {u : MS} {l1 : Int32} {l2 : Int32} {l3 : Int32} {Z : Int32 → MS → Prop} (h : vp_in l2 5 ∧ ((((6 : Int32) * l2) + (u 92 l2.toNatClampNeg)) ≤ l3 → mWP M_Mod_tick 14 [qr 1 (some 0), qi l1, qi (l2 + 1), none] [] u (mI Z)) ∧ (¬ (((6 : Int32) * l2) + (u 92 l2.toNatClampNeg)) ≤ l3 → mMT M_Mod_over [qr 1 (some 0), qi l3] u (mI fun r1 u1 => (r1 = 0 → mWP M_Mod_tick 24 [qr 1 (some 0), qi l1, qi l2, qi (l3 + 1)] [] u1 (mI Z)) ∧ (¬ r1 = 0 → mMT M_Mod_removeEntry [qr 1 (some 0), qi l2, qi l3] u1 (mV fun u2 => mWP M_Mod_tick 24 [qr 1 (some 0), qi (l1 + 1), qi l2, qi l3] [] u2 (mI Z)))))) : mWP M_Mod_tick 24 [qr 1 (some 0), qi l1, qi l2, qi l3] [] u (mI Z) := by
  refine mp_iload_n (i := 3) (x := l3) (dz dl_Mod_tick_0 17 24 (.iload_n 3) 1 rfl) rfl rfl ?_
  refine mp_bipush (dz dl_Mod_tick_0 18 25 (.bipush (6)) 2 rfl) (v := (6 : Int32)) (by decide) ?_
  refine mp_iload_n (i := 2) (x := l2) (dz dl_Mod_tick_0 19 27 (.iload_n 2) 1 rfl) rfl rfl ?_
  refine mp_imul (dz dl_Mod_tick_0 20 28 (.imul) 1 rfl) ?_
  refine mp_aload_n (i := 0) (v := qr 1 (some 0)) (dz dl_Mod_tick_0 21 29 (.aload_n 0) 1 rfl) rfl rfl trivial ?_
  refine mp_getA (dz dl_Mod_tick_0 22 30 (.getfield 79) 3 rfl) lk_Mod_79 (q := 0) kd_92 rfl sm_92 ?_
  refine mp_iload_n (i := 2) (x := l2) (dz dl_Mod_tick_0 23 33 (.iload_n 2) 1 rfl) rfl rfl ?_
  obtain ⟨i1, h⟩ := h
  refine mp_iald (dz dl_Mod_tick_0 24 34 (.iaload) 1 rfl) kd_92 rfl sm_92 i1 ?_
  refine mp_iadd (dz dl_Mod_tick_0 25 35 (.iadd) 1 rfl) ?_
  refine mp_icmp_ge (tgt := 65) (dz dl_Mod_tick_0 26 36 (.if_icmp .ge (29)) 3 rfl) (by decide) (fun hc => ?_) (fun hc => ?_)
  · replace h := h.1 hc
    refine mp_iinc (i := 2) (v := l2 + 1) (dz dl_Mod_tick_0 39 65 (.iinc 2 (1)) 3 rfl) rfl (congrArg (fun z => l2 + z) (by decide)) [qr 1 (some 0), qi l1, qi (l2 + 1), qi l3] (by decide) rfl ?_
    refine mp_goto (tgt := 14) (dz dl_Mod_tick_1 0 68 (.goto (-54)) 3 rfl) (by decide) ?_
    exact mp_cut h ⟨Or.inr rfl, Or.inr rfl, Or.inr rfl, Or.inl rfl, trivial⟩
  · replace h := h.2 hc
    refine mp_aload_n (i := 0) (v := qr 1 (some 0)) (dz dl_Mod_tick_0 27 39 (.aload_n 0) 1 rfl) rfl rfl trivial ?_
    refine mp_iload_n (i := 3) (x := l3) (dz dl_Mod_tick_0 28 40 (.iload_n 3) 1 rfl) rfl rfl ?_
    refine mp_callV [qi l3] [] (dz dl_Mod_tick_0 29 41 (.invokevirtual 309) 3 rfl) ok_Mod_over lm_Mod_309 ws_Mod_over wv_Mod_over ⟨Nat.le_of_ble_eq_true rfl, Nat.le_of_ble_eq_true rfl⟩ pn_Mod_over (Nat.le_of_ble_eq_true rfl) (Nat.le_of_ble_eq_true rfl) (Or.inl rfl) (mmono h ?_)
    rintro _ u1 ⟨r1, rfl, h⟩
    show mWP _ _ _ [qi r1] _ _
    refine mp_if_eq (tgt := 59) (dz dl_Mod_tick_0 30 44 (.ifCond .eq (15)) 3 rfl) (by decide) (fun hc => ?_) (fun hc => ?_)
    · replace h := h.1 hc
      refine mp_iinc (i := 3) (v := l3 + 1) (dz dl_Mod_tick_0 37 59 (.iinc 3 (1)) 3 rfl) rfl (congrArg (fun z => l3 + z) (by decide)) [qr 1 (some 0), qi l1, qi l2, qi (l3 + 1)] (by decide) rfl ?_
      refine mp_goto (tgt := 24) (dz dl_Mod_tick_0 38 62 (.goto (-38)) 3 rfl) (by decide) ?_
      exact mp_cut h ⟨Or.inr rfl, Or.inr rfl, Or.inr rfl, Or.inr rfl, trivial⟩
    · replace h := h.2 hc
      refine mp_aload_n (i := 0) (v := qr 1 (some 0)) (dz dl_Mod_tick_0 31 47 (.aload_n 0) 1 rfl) rfl rfl trivial ?_
      refine mp_iload_n (i := 2) (x := l2) (dz dl_Mod_tick_0 32 48 (.iload_n 2) 1 rfl) rfl rfl ?_
      refine mp_iload_n (i := 3) (x := l3) (dz dl_Mod_tick_0 33 49 (.iload_n 3) 1 rfl) rfl rfl ?_
      refine mp_callV [qi l2, qi l3] [] (dz dl_Mod_tick_0 34 50 (.invokevirtual 296) 3 rfl) ok_Mod_removeEntry lm_Mod_296 ws_Mod_removeEntry wv_Mod_removeEntry ⟨Nat.le_of_ble_eq_true rfl, Nat.le_of_ble_eq_true rfl⟩ pn_Mod_removeEntry (Nat.le_of_ble_eq_true rfl) (Nat.le_of_ble_eq_true rfl) (Or.inl rfl) (mmono h ?_)
      rintro _ u2 ⟨rfl, h⟩
      show mWP _ _ _ [] _ _
      refine mp_iinc (i := 1) (v := l1 + 1) (dz dl_Mod_tick_0 35 53 (.iinc 1 (1)) 3 rfl) rfl (congrArg (fun z => l1 + z) (by decide)) [qr 1 (some 0), qi (l1 + 1), qi l2, qi l3] (by decide) rfl ?_
      refine mp_goto (tgt := 24) (dz dl_Mod_tick_0 36 56 (.goto (-32)) 3 rfl) (by decide) ?_
      exact mp_cut h ⟨Or.inr rfl, Or.inr rfl, Or.inr rfl, Or.inr rfl, trivial⟩

theorem mb_Mod_tick_73 {u : MS} {l1 : Int32} {l2 : Int32} {Z : Int32 → MS → Prop} (h : ((u 101 0) ≤ l2 → Z l1 u) ∧ (¬ (u 101 0) ≤ l2 → vp_in l2 120 ∧ (¬ (u 105 l2.toNatClampNeg) = 0 → ∀ u1, u1 = mu u 105 l2.toNatClampNeg (u 105 l2.toNatClampNeg) → mWP M_Mod_tick 73 [qr 1 (some 0), qi l1, qi (l2 + 1), none] [] u1 (mI Z)) ∧ ((u 105 l2.toNatClampNeg) = 0 → (((u 67 0) - (u 106 l2.toNatClampNeg)) < (u 66 0) → ∀ u2, u2 = mu u 105 l2.toNatClampNeg (u 105 l2.toNatClampNeg) → mWP M_Mod_tick 73 [qr 1 (some 0), qi l1, qi (l2 + 1), none] [] u2 (mI Z)) ∧ (¬ ((u 67 0) - (u 106 l2.toNatClampNeg)) < (u 66 0) → ∀ u3, u3 = mu u 105 l2.toNatClampNeg (3 : Int32) → mWP M_Mod_tick 73 [qr 1 (some 0), qi l1, qi (l2 + 1), none] [] u3 (mI Z))))) : mWP M_Mod_tick 73 [qr 1 (some 0), qi l1, qi l2, none] [] u (mI Z) := by
  refine mp_iload_n (i := 2) (x := l2) (dz dl_Mod_tick_1 3 73 (.iload_n 2) 1 rfl) rfl rfl ?_
  refine mp_aload_n (i := 0) (v := qr 1 (some 0)) (dz dl_Mod_tick_1 4 74 (.aload_n 0) 1 rfl) rfl rfl trivial ?_
  refine mp_getI (dz dl_Mod_tick_1 5 75 (.getfield 260) 3 rfl) lk_Mod_260 kd_101 rfl ?_
  refine mp_icmp_ge (tgt := 130) (dz dl_Mod_tick_1 6 78 (.if_icmp .ge (52)) 3 rfl) (by decide) (fun hc => ?_) (fun hc => ?_)
  · replace h := h.1 hc
    refine mp_iload_n (i := 1) (x := l1) (dz dl_Mod_tick_1 34 130 (.iload_n 1) 1 rfl) rfl rfl ?_
    exact mp_rt (qi _) (rt_I rfl (dz dl_Mod_tick_1 35 131 (.ireturn) 1 rfl)) ⟨_, rfl, h⟩
  · replace h := h.2 hc
    refine mp_aload_n (i := 0) (v := qr 1 (some 0)) (dz dl_Mod_tick_1 7 81 (.aload_n 0) 1 rfl) rfl rfl trivial ?_
    refine mp_getA (dz dl_Mod_tick_1 8 82 (.getfield 115) 3 rfl) lk_Mod_115 (q := 0) kd_105 rfl sm_105 ?_
    refine mp_iload_n (i := 2) (x := l2) (dz dl_Mod_tick_1 9 85 (.iload_n 2) 1 rfl) rfl rfl ?_
    refine mp_aload_n (i := 0) (v := qr 1 (some 0)) (dz dl_Mod_tick_1 10 86 (.aload_n 0) 1 rfl) rfl rfl trivial ?_
    refine mp_getA (dz dl_Mod_tick_1 11 87 (.getfield 115) 3 rfl) lk_Mod_115 (q := 0) kd_105 rfl sm_105 ?_
    refine mp_iload_n (i := 2) (x := l2) (dz dl_Mod_tick_1 12 90 (.iload_n 2) 1 rfl) rfl rfl ?_
    obtain ⟨i1, h⟩ := h
    refine mp_iald (dz dl_Mod_tick_1 13 91 (.iaload) 1 rfl) kd_105 rfl sm_105 i1 ?_
    refine mp_if_ne (tgt := 117) (dz dl_Mod_tick_1 14 92 (.ifCond .ne (25)) 3 rfl) (by decide) (fun hc => ?_) (fun hc => ?_)
    · replace h := h.1 hc
      refine mp_aload_n (i := 0) (v := qr 1 (some 0)) (dz dl_Mod_tick_1 27 117 (.aload_n 0) 1 rfl) rfl rfl trivial ?_
      refine mp_getA (dz dl_Mod_tick_1 28 118 (.getfield 115) 3 rfl) lk_Mod_115 (q := 0) kd_105 rfl sm_105 ?_
      refine mp_iload_n (i := 2) (x := l2) (dz dl_Mod_tick_1 29 121 (.iload_n 2) 1 rfl) rfl rfl ?_
      refine mp_iald (dz dl_Mod_tick_1 30 122 (.iaload) 1 rfl) kd_105 rfl sm_105 i1 ?_
      have h := h _ rfl
      refine mp_iast (dz dl_Mod_tick_1 31 123 (.iastore) 1 rfl) kd_105 rfl sm_105 i1 rfl ?_
      refine mp_iinc (i := 2) (v := l2 + 1) (dz dl_Mod_tick_1 32 124 (.iinc 2 (1)) 3 rfl) rfl (congrArg (fun z => l2 + z) (by decide)) [qr 1 (some 0), qi l1, qi (l2 + 1), none] (by decide) rfl ?_
      refine mp_goto (tgt := 73) (dz dl_Mod_tick_1 33 127 (.goto (-54)) 3 rfl) (by decide) ?_
      exact mp_cut h ⟨Or.inr rfl, Or.inr rfl, Or.inr rfl, Or.inl rfl, trivial⟩
    · replace h := h.2 hc
      refine mp_aload_n (i := 0) (v := qr 1 (some 0)) (dz dl_Mod_tick_1 15 95 (.aload_n 0) 1 rfl) rfl rfl trivial ?_
      refine mp_getI (dz dl_Mod_tick_1 16 96 (.getfield 250) 3 rfl) lk_Mod_250 kd_67 rfl ?_
      refine mp_aload_n (i := 0) (v := qr 1 (some 0)) (dz dl_Mod_tick_1 17 99 (.aload_n 0) 1 rfl) rfl rfl trivial ?_
      refine mp_getA (dz dl_Mod_tick_1 18 100 (.getfield 118) 3 rfl) lk_Mod_118 (q := 0) kd_106 rfl sm_106 ?_
      refine mp_iload_n (i := 2) (x := l2) (dz dl_Mod_tick_1 19 103 (.iload_n 2) 1 rfl) rfl rfl ?_
      refine mp_iald (dz dl_Mod_tick_1 20 104 (.iaload) 1 rfl) kd_106 rfl sm_106 i1 ?_
      refine mp_isub (dz dl_Mod_tick_1 21 105 (.isub) 1 rfl) ?_
      refine mp_aload_n (i := 0) (v := qr 1 (some 0)) (dz dl_Mod_tick_1 22 106 (.aload_n 0) 1 rfl) rfl rfl trivial ?_
      refine mp_getI (dz dl_Mod_tick_1 23 107 (.getfield 158) 3 rfl) lk_Mod_158 kd_66 rfl ?_
      refine mp_icmp_lt (tgt := 117) (dz dl_Mod_tick_1 24 110 (.if_icmp .lt (7)) 3 rfl) (by decide) (fun hc => ?_) (fun hc => ?_)
      · replace h := h.1 hc
        refine mp_aload_n (i := 0) (v := qr 1 (some 0)) (dz dl_Mod_tick_1 27 117 (.aload_n 0) 1 rfl) rfl rfl trivial ?_
        refine mp_getA (dz dl_Mod_tick_1 28 118 (.getfield 115) 3 rfl) lk_Mod_115 (q := 0) kd_105 rfl sm_105 ?_
        refine mp_iload_n (i := 2) (x := l2) (dz dl_Mod_tick_1 29 121 (.iload_n 2) 1 rfl) rfl rfl ?_
        refine mp_iald (dz dl_Mod_tick_1 30 122 (.iaload) 1 rfl) kd_105 rfl sm_105 i1 ?_
        have h := h _ rfl
        refine mp_iast (dz dl_Mod_tick_1 31 123 (.iastore) 1 rfl) kd_105 rfl sm_105 i1 rfl ?_
        refine mp_iinc (i := 2) (v := l2 + 1) (dz dl_Mod_tick_1 32 124 (.iinc 2 (1)) 3 rfl) rfl (congrArg (fun z => l2 + z) (by decide)) [qr 1 (some 0), qi l1, qi (l2 + 1), none] (by decide) rfl ?_
        refine mp_goto (tgt := 73) (dz dl_Mod_tick_1 33 127 (.goto (-54)) 3 rfl) (by decide) ?_
        exact mp_cut h ⟨Or.inr rfl, Or.inr rfl, Or.inr rfl, Or.inl rfl, trivial⟩
      · replace h := h.2 hc
        refine mp_iconst (dz dl_Mod_tick_1 25 113 (.iconst (3)) 1 rfl) (v := (3 : Int32)) (by decide) ?_
        refine mp_goto (tgt := 123) (dz dl_Mod_tick_1 26 114 (.goto (9)) 3 rfl) (by decide) ?_
        have h := h _ rfl
        refine mp_iast (dz dl_Mod_tick_1 31 123 (.iastore) 1 rfl) kd_105 rfl sm_105 i1 rfl ?_
        refine mp_iinc (i := 2) (v := l2 + 1) (dz dl_Mod_tick_1 32 124 (.iinc 2 (1)) 3 rfl) rfl (congrArg (fun z => l2 + z) (by decide)) [qr 1 (some 0), qi l1, qi (l2 + 1), none] (by decide) rfl ?_
        refine mp_goto (tgt := 73) (dz dl_Mod_tick_1 33 127 (.goto (-54)) 3 rfl) (by decide) ?_
        exact mp_cut h ⟨Or.inr rfl, Or.inr rfl, Or.inr rfl, Or.inl rfl, trivial⟩

theorem mb_Mod_fetch_0 {u : MS} {l1 : Int32} {l2 : Int32} {l3 : Int32} {l4 : Int32} {Z : Int32 → MS → Prop} (h : mMT M_Mod_isNode [qi l1] u (mI fun r1 u1 => (r1 = 0 → Z (0 : Int32) u1) ∧ (¬ r1 = 0 → mMT M_Mod_isName [qr 1 (some 0), qi l2] u1 (mI fun r2 u2 => (r2 = 0 → Z (0 : Int32) u2) ∧ (¬ r2 = 0 → (l3 < (1 : Int32) → Z (0 : Int32) u2) ∧ (¬ l3 < (1 : Int32) → ((10 : Int32) < l3 → Z (0 : Int32) u2) ∧ (¬ (10 : Int32) < l3 → (l4 < (1 : Int32) → Z (0 : Int32) u2) ∧ (¬ l4 < (1 : Int32) → ((4 : Int32) < l4 → Z (0 : Int32) u2) ∧ (¬ (4 : Int32) < l4 → vp_in l2 48 ∧ (¬ (u2 72 l2.toNatClampNeg) = (4 : Int32) → mWP M_Mod_fetch 56 [qr 1 (some 0), qi l1, qi l2, qi l3, qi l4, qi (0 : Int32), qi (0 : Int32)] [] u2 (mI Z)) ∧ ((u2 72 l2.toNatClampNeg) = (4 : Int32) → Z (0 : Int32) u2)))))))))) : mWP M_Mod_fetch 0 [qr 1 (some 0), qi l1, qi l2, qi l3, qi l4, none, none] [] u (mI Z) := by
  refine mp_iload_n (i := 1) (x := l1) (dz dl_Mod_fetch_0 0 0 (.iload_n 1) 1 rfl) rfl rfl ?_
  refine mp_callS [qi l1] [] (dz dl_Mod_fetch_0 1 1 (.invokestatic 161) 3 rfl) ok_Mod_isNode lm_Mod_161 ws_Mod_isNode ⟨Nat.le_of_ble_eq_true rfl, Nat.le_of_ble_eq_true rfl⟩ pn_Mod_isNode (Nat.le_of_ble_eq_true rfl) (Nat.le_of_ble_eq_true rfl) (Or.inl rfl) (mmono h ?_)
  rintro _ u1 ⟨r1, rfl, h⟩
  show mWP _ _ _ [qi r1] _ _
  refine mp_if_eq (tgt := 48) (dz dl_Mod_fetch_0 2 4 (.ifCond .eq (44)) 3 rfl) (by decide) (fun hc => ?_) (fun hc => ?_)
  · replace h := h.1 hc
    refine mp_iconst (dz dl_Mod_fetch_0 25 48 (.iconst (0)) 1 rfl) (v := (0 : Int32)) (by decide) ?_
    exact mp_rt (qi _) (rt_Z rfl (Or.inl rfl) (dz dl_Mod_fetch_0 26 49 (.ireturn) 1 rfl)) ⟨_, rfl, h⟩
  · replace h := h.2 hc
    refine mp_aload_n (i := 0) (v := qr 1 (some 0)) (dz dl_Mod_fetch_0 3 7 (.aload_n 0) 1 rfl) rfl rfl trivial ?_
    refine mp_iload_n (i := 2) (x := l2) (dz dl_Mod_fetch_0 4 8 (.iload_n 2) 1 rfl) rfl rfl ?_
    refine mp_callV [qi l2] [] (dz dl_Mod_fetch_0 5 9 (.invokevirtual 222) 3 rfl) ok_Mod_isName lm_Mod_222 ws_Mod_isName wv_Mod_isName ⟨Nat.le_of_ble_eq_true rfl, Nat.le_of_ble_eq_true rfl⟩ pn_Mod_isName (Nat.le_of_ble_eq_true rfl) (Nat.le_of_ble_eq_true rfl) (Or.inl rfl) (mmono h ?_)
    rintro _ u2 ⟨r2, rfl, h⟩
    show mWP _ _ _ [qi r2] _ _
    refine mp_if_eq (tgt := 48) (dz dl_Mod_fetch_0 6 12 (.ifCond .eq (36)) 3 rfl) (by decide) (fun hc => ?_) (fun hc => ?_)
    · replace h := h.1 hc
      refine mp_iconst (dz dl_Mod_fetch_0 25 48 (.iconst (0)) 1 rfl) (v := (0 : Int32)) (by decide) ?_
      exact mp_rt (qi _) (rt_Z rfl (Or.inl rfl) (dz dl_Mod_fetch_0 26 49 (.ireturn) 1 rfl)) ⟨_, rfl, h⟩
    · replace h := h.2 hc
      refine mp_iload_n (i := 3) (x := l3) (dz dl_Mod_fetch_0 7 15 (.iload_n 3) 1 rfl) rfl rfl ?_
      refine mp_iconst (dz dl_Mod_fetch_0 8 16 (.iconst (1)) 1 rfl) (v := (1 : Int32)) (by decide) ?_
      refine mp_icmp_lt (tgt := 48) (dz dl_Mod_fetch_0 9 17 (.if_icmp .lt (31)) 3 rfl) (by decide) (fun hc => ?_) (fun hc => ?_)
      · replace h := h.1 hc
        refine mp_iconst (dz dl_Mod_fetch_0 25 48 (.iconst (0)) 1 rfl) (v := (0 : Int32)) (by decide) ?_
        exact mp_rt (qi _) (rt_Z rfl (Or.inl rfl) (dz dl_Mod_fetch_0 26 49 (.ireturn) 1 rfl)) ⟨_, rfl, h⟩
      · replace h := h.2 hc
        refine mp_iload_n (i := 3) (x := l3) (dz dl_Mod_fetch_0 10 20 (.iload_n 3) 1 rfl) rfl rfl ?_
        refine mp_bipush (dz dl_Mod_fetch_0 11 21 (.bipush (10)) 2 rfl) (v := (10 : Int32)) (by decide) ?_
        refine mp_icmp_gt (tgt := 48) (dz dl_Mod_fetch_0 12 23 (.if_icmp .gt (25)) 3 rfl) (by decide) (fun hc => ?_) (fun hc => ?_)
        · replace h := h.1 hc
          refine mp_iconst (dz dl_Mod_fetch_0 25 48 (.iconst (0)) 1 rfl) (v := (0 : Int32)) (by decide) ?_
          exact mp_rt (qi _) (rt_Z rfl (Or.inl rfl) (dz dl_Mod_fetch_0 26 49 (.ireturn) 1 rfl)) ⟨_, rfl, h⟩
        · replace h := h.2 hc
          refine mp_iload (i := 4) (x := l4) (dz dl_Mod_fetch_0 13 26 (.iload 4) 2 rfl) rfl ?_
          refine mp_iconst (dz dl_Mod_fetch_0 14 28 (.iconst (1)) 1 rfl) (v := (1 : Int32)) (by decide) ?_
          refine mp_icmp_lt (tgt := 48) (dz dl_Mod_fetch_0 15 29 (.if_icmp .lt (19)) 3 rfl) (by decide) (fun hc => ?_) (fun hc => ?_)
          · replace h := h.1 hc
            refine mp_iconst (dz dl_Mod_fetch_0 25 48 (.iconst (0)) 1 rfl) (v := (0 : Int32)) (by decide) ?_
            exact mp_rt (qi _) (rt_Z rfl (Or.inl rfl) (dz dl_Mod_fetch_0 26 49 (.ireturn) 1 rfl)) ⟨_, rfl, h⟩
          · replace h := h.2 hc
            refine mp_iload (i := 4) (x := l4) (dz dl_Mod_fetch_0 16 32 (.iload 4) 2 rfl) rfl ?_
            refine mp_iconst (dz dl_Mod_fetch_0 17 34 (.iconst (4)) 1 rfl) (v := (4 : Int32)) (by decide) ?_
            refine mp_icmp_gt (tgt := 48) (dz dl_Mod_fetch_0 18 35 (.if_icmp .gt (13)) 3 rfl) (by decide) (fun hc => ?_) (fun hc => ?_)
            · replace h := h.1 hc
              refine mp_iconst (dz dl_Mod_fetch_0 25 48 (.iconst (0)) 1 rfl) (v := (0 : Int32)) (by decide) ?_
              exact mp_rt (qi _) (rt_Z rfl (Or.inl rfl) (dz dl_Mod_fetch_0 26 49 (.ireturn) 1 rfl)) ⟨_, rfl, h⟩
            · replace h := h.2 hc
              refine mp_aload_n (i := 0) (v := qr 1 (some 0)) (dz dl_Mod_fetch_0 19 38 (.aload_n 0) 1 rfl) rfl rfl trivial ?_
              refine mp_getA (dz dl_Mod_fetch_0 20 39 (.getfield 21) 3 rfl) lk_Mod_21 (q := 0) kd_72 rfl sm_72 ?_
              refine mp_iload_n (i := 2) (x := l2) (dz dl_Mod_fetch_0 21 42 (.iload_n 2) 1 rfl) rfl rfl ?_
              obtain ⟨i1, h⟩ := h
              refine mp_iald (dz dl_Mod_fetch_0 22 43 (.iaload) 1 rfl) kd_72 rfl sm_72 i1 ?_
              refine mp_iconst (dz dl_Mod_fetch_0 23 44 (.iconst (4)) 1 rfl) (v := (4 : Int32)) (by decide) ?_
              refine mp_icmp_ne (tgt := 50) (dz dl_Mod_fetch_0 24 45 (.if_icmp .ne (5)) 3 rfl) (by decide) (fun hc => ?_) (fun hc => ?_)
              · replace h := h.1 hc
                refine mp_iconst (dz dl_Mod_fetch_0 27 50 (.iconst (0)) 1 rfl) (v := (0 : Int32)) (by decide) ?_
                refine mp_istore (i := 5) (dz dl_Mod_fetch_0 28 51 (.istore 5) 2 rfl) [qr 1 (some 0), qi l1, qi l2, qi l3, qi l4, qi (0 : Int32), none] (by decide) rfl ?_
                refine mp_iconst (dz dl_Mod_fetch_0 29 53 (.iconst (0)) 1 rfl) (v := (0 : Int32)) (by decide) ?_
                refine mp_istore (i := 6) (dz dl_Mod_fetch_0 30 54 (.istore 6) 2 rfl) [qr 1 (some 0), qi l1, qi l2, qi l3, qi l4, qi (0 : Int32), qi (0 : Int32)] (by decide) rfl ?_
                exact mp_cut h ⟨Or.inr rfl, Or.inr rfl, Or.inr rfl, Or.inr rfl, Or.inr rfl, Or.inr rfl, Or.inr rfl, trivial⟩
              · replace h := h.2 hc
                refine mp_iconst (dz dl_Mod_fetch_0 25 48 (.iconst (0)) 1 rfl) (v := (0 : Int32)) (by decide) ?_
                exact mp_rt (qi _) (rt_Z rfl (Or.inl rfl) (dz dl_Mod_fetch_0 26 49 (.ireturn) 1 rfl)) ⟨_, rfl, h⟩
theorem mt_Mod_fetch {u : MS} {l1 : Int32} {l2 : Int32} {l3 : Int32} {l4 : Int32} {Z : Int32 → MS → Prop} (h : mMT M_Mod_isNode [qi l1] u (mI fun r1 u1 => (r1 = 0 → Z (0 : Int32) u1) ∧ (¬ r1 = 0 → mMT M_Mod_isName [qr 1 (some 0), qi l2] u1 (mI fun r2 u2 => (r2 = 0 → Z (0 : Int32) u2) ∧ (¬ r2 = 0 → (l3 < (1 : Int32) → Z (0 : Int32) u2) ∧ (¬ l3 < (1 : Int32) → ((10 : Int32) < l3 → Z (0 : Int32) u2) ∧ (¬ (10 : Int32) < l3 → (l4 < (1 : Int32) → Z (0 : Int32) u2) ∧ (¬ l4 < (1 : Int32) → ((4 : Int32) < l4 → Z (0 : Int32) u2) ∧ (¬ (4 : Int32) < l4 → vp_in l2 48 ∧ (¬ (u2 72 l2.toNatClampNeg) = (4 : Int32) → mWP M_Mod_fetch 56 [qr 1 (some 0), qi l1, qi l2, qi l3, qi l4, qi (0 : Int32), qi (0 : Int32)] [] u2 (mI Z)) ∧ ((u2 72 l2.toNatClampNeg) = (4 : Int32) → Z (0 : Int32) u2)))))))))) : mMT M_Mod_fetch [qr 1 (some 0), qi l1, qi l2, qi l3, qi l4] u (mI Z) := mb_Mod_fetch_0 h

theorem mb_Mod_fetch_56 {u : MS} {l1 : Int32} {l2 : Int32} {l3 : Int32} {l4 : Int32} {l5 : Int32} {l6 : Int32} {Z : Int32 → MS → Prop} (h : (l3 ≤ l6 → (((u 70 0) + l5) ≤ (48 : Int32) → vp_in l1 5 ∧ ∀ u1, u1 = mu u 109 l1.toNatClampNeg l3 → ∀ u2, u2 = mu u1 110 l1.toNatClampNeg l4 → ∀ u3, u3 = mu u2 111 l1.toNatClampNeg (0 : Int32) → mWP M_Mod_fetch 136 [qr 1 (some 0), qi l1, qi l2, qi l3, none, none, qi (0 : Int32)] [] u3 (mI Z)) ∧ (¬ ((u 70 0) + l5) ≤ (48 : Int32) → Z (0 : Int32) u)) ∧ (¬ l3 ≤ l6 → mMT M_Mod_child [qr 1 (some 0), qi l2, qi ((((48 : Int32) + l6).toUInt32 % 65536).toInt32), qi (32 : Int32), qi (32 : Int32)] u (mI fun r1 u4 => (0 ≤ r1 → mWP M_Mod_fetch 56 [qr 1 (some 0), qi l1, qi l2, qi l3, qi l4, qi l5, qi (l6 + 1)] [] u4 (mI Z)) ∧ (¬ 0 ≤ r1 → mWP M_Mod_fetch 56 [qr 1 (some 0), qi l1, qi l2, qi l3, qi l4, qi (l5 + (1 : Int32)), qi (l6 + 1)] [] u4 (mI Z))))) : mWP M_Mod_fetch 56 [qr 1 (some 0), qi l1, qi l2, qi l3, qi l4, qi l5, qi l6] [] u (mI Z) := by
  refine mp_iload (i := 6) (x := l6) (dz dl_Mod_fetch_0 31 56 (.iload 6) 2 rfl) rfl ?_
  refine mp_iload_n (i := 3) (x := l3) (dz dl_Mod_fetch_0 32 58 (.iload_n 3) 1 rfl) rfl rfl ?_
  refine mp_icmp_ge (tgt := 97) (dz dl_Mod_fetch_0 33 59 (.if_icmp .ge (38)) 3 rfl) (by decide) (fun hc => ?_) (fun hc => ?_)
  · replace h := h.1 hc
    refine mp_aload_n (i := 0) (v := qr 1 (some 0)) (dz dl_Mod_fetch_1 12 97 (.aload_n 0) 1 rfl) rfl rfl trivial ?_
    refine mp_getI (dz dl_Mod_fetch_1 13 98 (.getfield 13) 3 rfl) lk_Mod_13 kd_70 rfl ?_
    refine mp_iload (i := 5) (x := l5) (dz dl_Mod_fetch_1 14 101 (.iload 5) 2 rfl) rfl ?_
    refine mp_iadd (dz dl_Mod_fetch_1 15 103 (.iadd) 1 rfl) ?_
    refine mp_bipush (dz dl_Mod_fetch_1 16 104 (.bipush (48)) 2 rfl) (v := (48 : Int32)) (by decide) ?_
    refine mp_icmp_le (tgt := 111) (dz dl_Mod_fetch_1 17 106 (.if_icmp .le (5)) 3 rfl) (by decide) (fun hc => ?_) (fun hc => ?_)
    · replace h := h.1 hc
      refine mp_aload_n (i := 0) (v := qr 1 (some 0)) (dz dl_Mod_fetch_1 20 111 (.aload_n 0) 1 rfl) rfl rfl trivial ?_
      refine mp_getA (dz dl_Mod_fetch_1 21 112 (.getfield 127) 3 rfl) lk_Mod_127 (q := 0) kd_109 rfl sm_109 ?_
      refine mp_iload_n (i := 1) (x := l1) (dz dl_Mod_fetch_1 22 115 (.iload_n 1) 1 rfl) rfl rfl ?_
      refine mp_iload_n (i := 3) (x := l3) (dz dl_Mod_fetch_1 23 116 (.iload_n 3) 1 rfl) rfl rfl ?_
      obtain ⟨i1, h⟩ := h
      have h := h _ rfl
      refine mp_iast (dz dl_Mod_fetch_1 24 117 (.iastore) 1 rfl) kd_109 rfl sm_109 i1 rfl ?_
      refine mp_aload_n (i := 0) (v := qr 1 (some 0)) (dz dl_Mod_fetch_1 25 118 (.aload_n 0) 1 rfl) rfl rfl trivial ?_
      refine mp_getA (dz dl_Mod_fetch_1 26 119 (.getfield 130) 3 rfl) lk_Mod_130 (q := 0) kd_110 rfl sm_110 ?_
      refine mp_iload_n (i := 1) (x := l1) (dz dl_Mod_fetch_1 27 122 (.iload_n 1) 1 rfl) rfl rfl ?_
      refine mp_iload (i := 4) (x := l4) (dz dl_Mod_fetch_1 28 123 (.iload 4) 2 rfl) rfl ?_
      have h := h _ rfl
      refine mp_iast (dz dl_Mod_fetch_1 29 125 (.iastore) 1 rfl) kd_110 rfl sm_110 i1 rfl ?_
      refine mp_aload_n (i := 0) (v := qr 1 (some 0)) (dz dl_Mod_fetch_1 30 126 (.aload_n 0) 1 rfl) rfl rfl trivial ?_
      refine mp_getA (dz dl_Mod_fetch_1 31 127 (.getfield 133) 3 rfl) lk_Mod_133 (q := 0) kd_111 rfl sm_111 ?_
      refine mp_iload_n (i := 1) (x := l1) (dz dl_Mod_fetch_1 32 130 (.iload_n 1) 1 rfl) rfl rfl ?_
      refine mp_iconst (dz dl_Mod_fetch_1 33 131 (.iconst (0)) 1 rfl) (v := (0 : Int32)) (by decide) ?_
      have h := h _ rfl
      refine mp_zast (dz dl_Mod_fetch_1 34 132 (.bastore) 1 rfl) kd_111 rfl sm_111 i1 (okI_2 (Or.inl rfl)) rfl ?_
      refine mp_iconst (dz dl_Mod_fetch_1 35 133 (.iconst (0)) 1 rfl) (v := (0 : Int32)) (by decide) ?_
      refine mp_istore (i := 6) (dz dl_Mod_fetch_1 36 134 (.istore 6) 2 rfl) [qr 1 (some 0), qi l1, qi l2, qi l3, qi l4, qi l5, qi (0 : Int32)] (by decide) rfl ?_
      exact mp_cut h ⟨Or.inr rfl, Or.inr rfl, Or.inr rfl, Or.inr rfl, Or.inl rfl, Or.inl rfl, Or.inr rfl, trivial⟩
    · replace h := h.2 hc
      refine mp_iconst (dz dl_Mod_fetch_1 18 109 (.iconst (0)) 1 rfl) (v := (0 : Int32)) (by decide) ?_
      exact mp_rt (qi _) (rt_Z rfl (Or.inl rfl) (dz dl_Mod_fetch_1 19 110 (.ireturn) 1 rfl)) ⟨_, rfl, h⟩
  · replace h := h.2 hc
    refine mp_aload_n (i := 0) (v := qr 1 (some 0)) (dz dl_Mod_fetch_0 34 62 (.aload_n 0) 1 rfl) rfl rfl trivial ?_
    refine mp_iload_n (i := 2) (x := l2) (dz dl_Mod_fetch_0 35 63 (.iload_n 2) 1 rfl) rfl rfl ?_
    refine mp_bipush (dz dl_Mod_fetch_0 36 64 (.bipush (48)) 2 rfl) (v := (48 : Int32)) (by decide) ?_
    refine mp_iload (i := 6) (x := l6) (dz dl_Mod_fetch_0 37 66 (.iload 6) 2 rfl) rfl ?_
    refine mp_iadd (dz dl_Mod_fetch_0 38 68 (.iadd) 1 rfl) ?_
    refine mp_i2c (dz dl_Mod_fetch_0 39 69 (.i2c) 1 rfl) ?_
    refine mp_bipush (dz dl_Mod_fetch_1 0 70 (.bipush (32)) 2 rfl) (v := (32 : Int32)) (by decide) ?_
    refine mp_bipush (dz dl_Mod_fetch_1 1 72 (.bipush (32)) 2 rfl) (v := (32 : Int32)) (by decide) ?_
    refine mp_callV [qi l2, qi ((((48 : Int32) + l6).toUInt32 % 65536).toInt32), qi (32 : Int32), qi (32 : Int32)] [] (dz dl_Mod_fetch_1 2 74 (.invokevirtual 176) 3 rfl) ok_Mod_child lm_Mod_176 ws_Mod_child wv_Mod_child ⟨Nat.le_of_ble_eq_true rfl, Nat.le_of_ble_eq_true rfl⟩ pn_Mod_child (Nat.le_of_ble_eq_true rfl) (Nat.le_of_ble_eq_true rfl) (Or.inl rfl) (mmono h ?_)
    rintro _ u4 ⟨r1, rfl, h⟩
    show mWP _ _ _ [qi r1] _ _
    refine mp_if_ge (tgt := 87) (dz dl_Mod_fetch_1 3 77 (.ifCond .ge (10)) 3 rfl) (by decide) (fun hc => ?_) (fun hc => ?_)
    · replace h := h.1 hc
      refine mp_iload (i := 5) (x := l5) (dz dl_Mod_fetch_1 8 87 (.iload 5) 2 rfl) rfl ?_
      refine mp_istore (i := 5) (dz dl_Mod_fetch_1 9 89 (.istore 5) 2 rfl) [qr 1 (some 0), qi l1, qi l2, qi l3, qi l4, qi l5, qi l6] (by decide) rfl ?_
      refine mp_iinc (i := 6) (v := l6 + 1) (dz dl_Mod_fetch_1 10 91 (.iinc 6 (1)) 3 rfl) rfl (congrArg (fun z => l6 + z) (by decide)) [qr 1 (some 0), qi l1, qi l2, qi l3, qi l4, qi l5, qi (l6 + 1)] (by decide) rfl ?_
      refine mp_goto (tgt := 56) (dz dl_Mod_fetch_1 11 94 (.goto (-38)) 3 rfl) (by decide) ?_
      exact mp_cut h ⟨Or.inr rfl, Or.inr rfl, Or.inr rfl, Or.inr rfl, Or.inr rfl, Or.inr rfl, Or.inr rfl, trivial⟩
    · replace h := h.2 hc
      refine mp_iload (i := 5) (x := l5) (dz dl_Mod_fetch_1 4 80 (.iload 5) 2 rfl) rfl ?_
      refine mp_iconst (dz dl_Mod_fetch_1 5 82 (.iconst (1)) 1 rfl) (v := (1 : Int32)) (by decide) ?_
      refine mp_iadd (dz dl_Mod_fetch_1 6 83 (.iadd) 1 rfl) ?_
      refine mp_goto (tgt := 89) (dz dl_Mod_fetch_1 7 84 (.goto (5)) 3 rfl) (by decide) ?_
      refine mp_istore (i := 5) (dz dl_Mod_fetch_1 9 89 (.istore 5) 2 rfl) [qr 1 (some 0), qi l1, qi l2, qi l3, qi l4, qi (l5 + (1 : Int32)), qi l6] (by decide) rfl ?_
      refine mp_iinc (i := 6) (v := l6 + 1) (dz dl_Mod_fetch_1 10 91 (.iinc 6 (1)) 3 rfl) rfl (congrArg (fun z => l6 + z) (by decide)) [qr 1 (some 0), qi l1, qi l2, qi l3, qi l4, qi (l5 + (1 : Int32)), qi (l6 + 1)] (by decide) rfl ?_
      refine mp_goto (tgt := 56) (dz dl_Mod_fetch_1 11 94 (.goto (-38)) 3 rfl) (by decide) ?_
      exact mp_cut h ⟨Or.inr rfl, Or.inr rfl, Or.inr rfl, Or.inr rfl, Or.inr rfl, Or.inr rfl, Or.inr rfl, trivial⟩

theorem mb_Mod_fetch_136 {u : MS} {l1 : Int32} {l2 : Int32} {l3 : Int32} {l6 : Int32} {Z : Int32 → MS → Prop} (h : (l3 ≤ l6 → Z (1 : Int32) u) ∧ (¬ l3 ≤ l6 → mMT M_Mod_made [qr 1 (some 0), qi l2, qi ((((48 : Int32) + l6).toUInt32 % 65536).toInt32), qi (32 : Int32), qi (32 : Int32)] u (mI fun r1 u1 => vp_in (((10 : Int32) * l1) + l6) 50 ∧ ∀ u2, u2 = mu u1 112 (((10 : Int32) * l1) + l6).toNatClampNeg r1 → ∀ u3, u3 = mu u2 113 (((10 : Int32) * l1) + l6).toNatClampNeg (0 : Int32) → ∀ u4, u4 = mu u3 114 (((10 : Int32) * l1) + l6).toNatClampNeg (0 : Int32) → mWP M_Mod_fetch 136 [qr 1 (some 0), qi l1, qi l2, qi l3, none, none, qi (l6 + 1)] [] u4 (mI Z)))) : mWP M_Mod_fetch 136 [qr 1 (some 0), qi l1, qi l2, qi l3, none, none, qi l6] [] u (mI Z) := by
  refine mp_iload (i := 6) (x := l6) (dz dl_Mod_fetch_1 37 136 (.iload 6) 2 rfl) rfl ?_
  refine mp_iload_n (i := 3) (x := l3) (dz dl_Mod_fetch_1 38 138 (.iload_n 3) 1 rfl) rfl rfl ?_
  refine mp_icmp_ge (tgt := 201) (dz dl_Mod_fetch_1 39 139 (.if_icmp .ge (62)) 3 rfl) (by decide) (fun hc => ?_) (fun hc => ?_)
  · replace h := h.1 hc
    refine mp_iconst (dz dl_Mod_fetch_2 37 201 (.iconst (1)) 1 rfl) (v := (1 : Int32)) (by decide) ?_
    exact mp_rt (qi _) (rt_Z rfl (Or.inr rfl) (dz dl_Mod_fetch_2 38 202 (.ireturn) 1 rfl)) ⟨_, rfl, h⟩
  · replace h := h.2 hc
    refine mp_aload_n (i := 0) (v := qr 1 (some 0)) (dz dl_Mod_fetch_2 0 142 (.aload_n 0) 1 rfl) rfl rfl trivial ?_
    refine mp_getA (dz dl_Mod_fetch_2 1 143 (.getfield 136) 3 rfl) lk_Mod_136 (q := 0) kd_112 rfl sm_112 ?_
    refine mp_bipush (dz dl_Mod_fetch_2 2 146 (.bipush (10)) 2 rfl) (v := (10 : Int32)) (by decide) ?_
    refine mp_iload_n (i := 1) (x := l1) (dz dl_Mod_fetch_2 3 148 (.iload_n 1) 1 rfl) rfl rfl ?_
    refine mp_imul (dz dl_Mod_fetch_2 4 149 (.imul) 1 rfl) ?_
    refine mp_iload (i := 6) (x := l6) (dz dl_Mod_fetch_2 5 150 (.iload 6) 2 rfl) rfl ?_
    refine mp_iadd (dz dl_Mod_fetch_2 6 152 (.iadd) 1 rfl) ?_
    refine mp_aload_n (i := 0) (v := qr 1 (some 0)) (dz dl_Mod_fetch_2 7 153 (.aload_n 0) 1 rfl) rfl rfl trivial ?_
    refine mp_iload_n (i := 2) (x := l2) (dz dl_Mod_fetch_2 8 154 (.iload_n 2) 1 rfl) rfl rfl ?_
    refine mp_bipush (dz dl_Mod_fetch_2 9 155 (.bipush (48)) 2 rfl) (v := (48 : Int32)) (by decide) ?_
    refine mp_iload (i := 6) (x := l6) (dz dl_Mod_fetch_2 10 157 (.iload 6) 2 rfl) rfl ?_
    refine mp_iadd (dz dl_Mod_fetch_2 11 159 (.iadd) 1 rfl) ?_
    refine mp_i2c (dz dl_Mod_fetch_2 12 160 (.i2c) 1 rfl) ?_
    refine mp_bipush (dz dl_Mod_fetch_2 13 161 (.bipush (32)) 2 rfl) (v := (32 : Int32)) (by decide) ?_
    refine mp_bipush (dz dl_Mod_fetch_2 14 163 (.bipush (32)) 2 rfl) (v := (32 : Int32)) (by decide) ?_
    refine mp_callV [qi l2, qi ((((48 : Int32) + l6).toUInt32 % 65536).toInt32), qi (32 : Int32), qi (32 : Int32)] [qi (((10 : Int32) * l1) + l6), qa 112 0] (dz dl_Mod_fetch_2 15 165 (.invokevirtual 188) 3 rfl) ok_Mod_made lm_Mod_188 ws_Mod_made wv_Mod_made ⟨Nat.le_of_ble_eq_true rfl, Nat.le_of_ble_eq_true rfl⟩ pn_Mod_made (Nat.le_of_ble_eq_true rfl) (Nat.le_of_ble_eq_true rfl) (Or.inl rfl) (mmono h ?_)
    rintro _ u1 ⟨r1, rfl, h⟩
    show mWP _ _ _ [qi r1, qi (((10 : Int32) * l1) + l6), qa 112 0] _ _
    obtain ⟨i1, h⟩ := h
    have h := h _ rfl
    refine mp_iast (dz dl_Mod_fetch_2 16 168 (.iastore) 1 rfl) kd_112 rfl sm_112 i1 rfl ?_
    refine mp_aload_n (i := 0) (v := qr 1 (some 0)) (dz dl_Mod_fetch_2 17 169 (.aload_n 0) 1 rfl) rfl rfl trivial ?_
    refine mp_getA (dz dl_Mod_fetch_2 18 170 (.getfield 139) 3 rfl) lk_Mod_139 (q := 0) kd_113 rfl sm_113 ?_
    refine mp_bipush (dz dl_Mod_fetch_2 19 173 (.bipush (10)) 2 rfl) (v := (10 : Int32)) (by decide) ?_
    refine mp_iload_n (i := 1) (x := l1) (dz dl_Mod_fetch_2 20 175 (.iload_n 1) 1 rfl) rfl rfl ?_
    refine mp_imul (dz dl_Mod_fetch_2 21 176 (.imul) 1 rfl) ?_
    refine mp_iload (i := 6) (x := l6) (dz dl_Mod_fetch_2 22 177 (.iload 6) 2 rfl) rfl ?_
    refine mp_iadd (dz dl_Mod_fetch_2 23 179 (.iadd) 1 rfl) ?_
    refine mp_iconst (dz dl_Mod_fetch_2 24 180 (.iconst (0)) 1 rfl) (v := (0 : Int32)) (by decide) ?_
    have h := h _ rfl
    refine mp_iast (dz dl_Mod_fetch_2 25 181 (.iastore) 1 rfl) kd_113 rfl sm_113 i1 rfl ?_
    refine mp_aload_n (i := 0) (v := qr 1 (some 0)) (dz dl_Mod_fetch_2 26 182 (.aload_n 0) 1 rfl) rfl rfl trivial ?_
    refine mp_getA (dz dl_Mod_fetch_2 27 183 (.getfield 142) 3 rfl) lk_Mod_142 (q := 0) kd_114 rfl sm_114 ?_
    refine mp_bipush (dz dl_Mod_fetch_2 28 186 (.bipush (10)) 2 rfl) (v := (10 : Int32)) (by decide) ?_
    refine mp_iload_n (i := 1) (x := l1) (dz dl_Mod_fetch_2 29 188 (.iload_n 1) 1 rfl) rfl rfl ?_
    refine mp_imul (dz dl_Mod_fetch_2 30 189 (.imul) 1 rfl) ?_
    refine mp_iload (i := 6) (x := l6) (dz dl_Mod_fetch_2 31 190 (.iload 6) 2 rfl) rfl ?_
    refine mp_iadd (dz dl_Mod_fetch_2 32 192 (.iadd) 1 rfl) ?_
    refine mp_iconst (dz dl_Mod_fetch_2 33 193 (.iconst (0)) 1 rfl) (v := (0 : Int32)) (by decide) ?_
    have h := h _ rfl
    refine mp_iast (dz dl_Mod_fetch_2 34 194 (.iastore) 1 rfl) kd_114 rfl sm_114 i1 rfl ?_
    refine mp_iinc (i := 6) (v := l6 + 1) (dz dl_Mod_fetch_2 35 195 (.iinc 6 (1)) 3 rfl) rfl (congrArg (fun z => l6 + z) (by decide)) [qr 1 (some 0), qi l1, qi l2, qi l3, none, none, qi (l6 + 1)] (by decide) rfl ?_
    refine mp_goto (tgt := 136) (dz dl_Mod_fetch_2 36 198 (.goto (-62)) 3 rfl) (by decide) ?_
    exact mp_cut h ⟨Or.inr rfl, Or.inr rfl, Or.inr rfl, Or.inr rfl, Or.inl rfl, Or.inl rfl, Or.inr rfl, trivial⟩

theorem mb_Mod_inState_0 {u : MS} {l1 : Int32} {l2 : Int32} {Z : Int32 → MS → Prop} (h : mWP M_Mod_inState 8 [qr 1 (some 0), qi l1, qi l2, qi (0 : Int32), qi ((10 : Int32) * l1)] [] u (mI Z)) : mWP M_Mod_inState 0 [qr 1 (some 0), qi l1, qi l2, none, none] [] u (mI Z) := by
  refine mp_iconst (dz dl_Mod_inState_0 0 0 (.iconst (0)) 1 rfl) (v := (0 : Int32)) (by decide) ?_
  refine mp_istore_n (i := 3) (dz dl_Mod_inState_0 1 1 (.istore_n 3) 1 rfl) rfl [qr 1 (some 0), qi l1, qi l2, qi (0 : Int32), none] (by decide) rfl ?_
  refine mp_bipush (dz dl_Mod_inState_0 2 2 (.bipush (10)) 2 rfl) (v := (10 : Int32)) (by decide) ?_
  refine mp_iload_n (i := 1) (x := l1) (dz dl_Mod_inState_0 3 4 (.iload_n 1) 1 rfl) rfl rfl ?_
  refine mp_imul (dz dl_Mod_inState_0 4 5 (.imul) 1 rfl) ?_
  refine mp_istore (i := 4) (dz dl_Mod_inState_0 5 6 (.istore 4) 2 rfl) [qr 1 (some 0), qi l1, qi l2, qi (0 : Int32), qi ((10 : Int32) * l1)] (by decide) rfl ?_
  exact mp_cut h ⟨Or.inr rfl, Or.inr rfl, Or.inr rfl, Or.inr rfl, Or.inr rfl, trivial⟩
theorem mt_Mod_inState {u : MS} {l1 : Int32} {l2 : Int32} {Z : Int32 → MS → Prop} (h : mWP M_Mod_inState 8 [qr 1 (some 0), qi l1, qi l2, qi (0 : Int32), qi ((10 : Int32) * l1)] [] u (mI Z)) : mMT M_Mod_inState [qr 1 (some 0), qi l1, qi l2] u (mI Z) := mb_Mod_inState_0 h

theorem mb_Mod_inState_8 {u : MS} {l1 : Int32} {l2 : Int32} {l3 : Int32} {l4 : Int32} {Z : Int32 → MS → Prop} (h : vp_in l1 5 ∧ ((((10 : Int32) * l1) + (u 109 l1.toNatClampNeg)) ≤ l4 → Z l3 u) ∧ (¬ (((10 : Int32) * l1) + (u 109 l1.toNatClampNeg)) ≤ l4 → vp_in l4 50 ∧ (¬ (u 113 l4.toNatClampNeg) = l2 → mWP M_Mod_inState 8 [qr 1 (some 0), qi l1, qi l2, qi l3, qi (l4 + 1)] [] u (mI Z)) ∧ ((u 113 l4.toNatClampNeg) = l2 → mWP M_Mod_inState 8 [qr 1 (some 0), qi l1, qi l2, qi (l3 + (1 : Int32)), qi (l4 + 1)] [] u (mI Z)))) : mWP M_Mod_inState 8 [qr 1 (some 0), qi l1, qi l2, qi l3, qi l4] [] u (mI Z) := by
  refine mp_iload (i := 4) (x := l4) (dz dl_Mod_inState_0 6 8 (.iload 4) 2 rfl) rfl ?_
  refine mp_bipush (dz dl_Mod_inState_0 7 10 (.bipush (10)) 2 rfl) (v := (10 : Int32)) (by decide) ?_
  refine mp_iload_n (i := 1) (x := l1) (dz dl_Mod_inState_0 8 12 (.iload_n 1) 1 rfl) rfl rfl ?_
  refine mp_imul (dz dl_Mod_inState_0 9 13 (.imul) 1 rfl) ?_
  refine mp_aload_n (i := 0) (v := qr 1 (some 0)) (dz dl_Mod_inState_0 10 14 (.aload_n 0) 1 rfl) rfl rfl trivial ?_
  refine mp_getA (dz dl_Mod_inState_0 11 15 (.getfield 127) 3 rfl) lk_Mod_127 (q := 0) kd_109 rfl sm_109 ?_
  refine mp_iload_n (i := 1) (x := l1) (dz dl_Mod_inState_0 12 18 (.iload_n 1) 1 rfl) rfl rfl ?_
  obtain ⟨i1, h⟩ := h
  refine mp_iald (dz dl_Mod_inState_0 13 19 (.iaload) 1 rfl) kd_109 rfl sm_109 i1 ?_
  refine mp_iadd (dz dl_Mod_inState_0 14 20 (.iadd) 1 rfl) ?_
  refine mp_icmp_ge (tgt := 49) (dz dl_Mod_inState_0 15 21 (.if_icmp .ge (28)) 3 rfl) (by decide) (fun hc => ?_) (fun hc => ?_)
  · replace h := h.1 hc
    refine mp_iload_n (i := 3) (x := l3) (dz dl_Mod_inState_0 30 49 (.iload_n 3) 1 rfl) rfl rfl ?_
    exact mp_rt (qi _) (rt_I rfl (dz dl_Mod_inState_0 31 50 (.ireturn) 1 rfl)) ⟨_, rfl, h⟩
  · replace h := h.2 hc
    refine mp_aload_n (i := 0) (v := qr 1 (some 0)) (dz dl_Mod_inState_0 16 24 (.aload_n 0) 1 rfl) rfl rfl trivial ?_
    refine mp_getA (dz dl_Mod_inState_0 17 25 (.getfield 139) 3 rfl) lk_Mod_139 (q := 0) kd_113 rfl sm_113 ?_
    refine mp_iload (i := 4) (x := l4) (dz dl_Mod_inState_0 18 28 (.iload 4) 2 rfl) rfl ?_
    obtain ⟨i2, h⟩ := h
    refine mp_iald (dz dl_Mod_inState_0 19 30 (.iaload) 1 rfl) kd_113 rfl sm_113 i2 ?_
    refine mp_iload_n (i := 2) (x := l2) (dz dl_Mod_inState_0 20 31 (.iload_n 2) 1 rfl) rfl rfl ?_
    refine mp_icmp_ne (tgt := 41) (dz dl_Mod_inState_0 21 32 (.if_icmp .ne (9)) 3 rfl) (by decide) (fun hc => ?_) (fun hc => ?_)
    · replace h := h.1 hc
      refine mp_iload_n (i := 3) (x := l3) (dz dl_Mod_inState_0 26 41 (.iload_n 3) 1 rfl) rfl rfl ?_
      refine mp_istore_n (i := 3) (dz dl_Mod_inState_0 27 42 (.istore_n 3) 1 rfl) rfl [qr 1 (some 0), qi l1, qi l2, qi l3, qi l4] (by decide) rfl ?_
      refine mp_iinc (i := 4) (v := l4 + 1) (dz dl_Mod_inState_0 28 43 (.iinc 4 (1)) 3 rfl) rfl (congrArg (fun z => l4 + z) (by decide)) [qr 1 (some 0), qi l1, qi l2, qi l3, qi (l4 + 1)] (by decide) rfl ?_
      refine mp_goto (tgt := 8) (dz dl_Mod_inState_0 29 46 (.goto (-38)) 3 rfl) (by decide) ?_
      exact mp_cut h ⟨Or.inr rfl, Or.inr rfl, Or.inr rfl, Or.inr rfl, Or.inr rfl, trivial⟩
    · replace h := h.2 hc
      refine mp_iload_n (i := 3) (x := l3) (dz dl_Mod_inState_0 22 35 (.iload_n 3) 1 rfl) rfl rfl ?_
      refine mp_iconst (dz dl_Mod_inState_0 23 36 (.iconst (1)) 1 rfl) (v := (1 : Int32)) (by decide) ?_
      refine mp_iadd (dz dl_Mod_inState_0 24 37 (.iadd) 1 rfl) ?_
      refine mp_goto (tgt := 42) (dz dl_Mod_inState_0 25 38 (.goto (4)) 3 rfl) (by decide) ?_
      refine mp_istore_n (i := 3) (dz dl_Mod_inState_0 27 42 (.istore_n 3) 1 rfl) rfl [qr 1 (some 0), qi l1, qi l2, qi (l3 + (1 : Int32)), qi l4] (by decide) rfl ?_
      refine mp_iinc (i := 4) (v := l4 + 1) (dz dl_Mod_inState_0 28 43 (.iinc 4 (1)) 3 rfl) rfl (congrArg (fun z => l4 + z) (by decide)) [qr 1 (some 0), qi l1, qi l2, qi (l3 + (1 : Int32)), qi (l4 + 1)] (by decide) rfl ?_
      refine mp_goto (tgt := 8) (dz dl_Mod_inState_0 29 46 (.goto (-38)) 3 rfl) (by decide) ?_
      exact mp_cut h ⟨Or.inr rfl, Or.inr rfl, Or.inr rfl, Or.inr rfl, Or.inr rfl, trivial⟩

theorem mb_Mod_collect_0 {u : MS} {l1 : Int32} {Z : MS → Prop} (h : mWP M_Mod_collect 5 [qr 1 (some 0), qi l1, qi ((10 : Int32) * l1), none] [] u (mV Z)) : mWP M_Mod_collect 0 [qr 1 (some 0), qi l1, none, none] [] u (mV Z) := by
  refine mp_bipush (dz dl_Mod_collect_0 0 0 (.bipush (10)) 2 rfl) (v := (10 : Int32)) (by decide) ?_
  refine mp_iload_n (i := 1) (x := l1) (dz dl_Mod_collect_0 1 2 (.iload_n 1) 1 rfl) rfl rfl ?_
  refine mp_imul (dz dl_Mod_collect_0 2 3 (.imul) 1 rfl) ?_
  refine mp_istore_n (i := 2) (dz dl_Mod_collect_0 3 4 (.istore_n 2) 1 rfl) rfl [qr 1 (some 0), qi l1, qi ((10 : Int32) * l1), none] (by decide) rfl ?_
  exact mp_cut h ⟨Or.inr rfl, Or.inr rfl, Or.inr rfl, Or.inl rfl, trivial⟩
theorem mt_Mod_collect {u : MS} {l1 : Int32} {Z : MS → Prop} (h : mWP M_Mod_collect 5 [qr 1 (some 0), qi l1, qi ((10 : Int32) * l1), none] [] u (mV Z)) : mMT M_Mod_collect [qr 1 (some 0), qi l1] u (mV Z) := mb_Mod_collect_0 h

theorem mb_Mod_collect_5 {u : MS} {l1 : Int32} {l2 : Int32} {Z : MS → Prop} (h : vp_in l1 5 ∧ ((((10 : Int32) * l1) + (u 109 l1.toNatClampNeg)) ≤ l2 → Z u) ∧ (¬ (((10 : Int32) * l1) + (u 109 l1.toNatClampNeg)) ≤ l2 → vp_in l2 50 ∧ (¬ (u 113 l2.toNatClampNeg) = (1 : Int32) → mWP M_Mod_collect 45 [qr 1 (some 0), qi l1, qi l2, none] [qi (0 : Int32)] u (mV Z)) ∧ ((u 113 l2.toNatClampNeg) = (1 : Int32) → vp_in (u 115 l2.toNatClampNeg) 120 ∧ mWP M_Mod_collect 45 [qr 1 (some 0), qi l1, qi l2, none] [qi (u 105 (u 115 l2.toNatClampNeg).toNatClampNeg)] u (mV Z)))) : mWP M_Mod_collect 5 [qr 1 (some 0), qi l1, qi l2, none] [] u (mV Z) := by
  refine mp_iload_n (i := 2) (x := l2) (dz dl_Mod_collect_0 4 5 (.iload_n 2) 1 rfl) rfl rfl ?_
  refine mp_bipush (dz dl_Mod_collect_0 5 6 (.bipush (10)) 2 rfl) (v := (10 : Int32)) (by decide) ?_
  refine mp_iload_n (i := 1) (x := l1) (dz dl_Mod_collect_0 6 8 (.iload_n 1) 1 rfl) rfl rfl ?_
  refine mp_imul (dz dl_Mod_collect_0 7 9 (.imul) 1 rfl) ?_
  refine mp_aload_n (i := 0) (v := qr 1 (some 0)) (dz dl_Mod_collect_0 8 10 (.aload_n 0) 1 rfl) rfl rfl trivial ?_
  refine mp_getA (dz dl_Mod_collect_0 9 11 (.getfield 127) 3 rfl) lk_Mod_127 (q := 0) kd_109 rfl sm_109 ?_
  refine mp_iload_n (i := 1) (x := l1) (dz dl_Mod_collect_0 10 14 (.iload_n 1) 1 rfl) rfl rfl ?_
  obtain ⟨i1, h⟩ := h
  refine mp_iald (dz dl_Mod_collect_0 11 15 (.iaload) 1 rfl) kd_109 rfl sm_109 i1 ?_
  refine mp_iadd (dz dl_Mod_collect_0 12 16 (.iadd) 1 rfl) ?_
  refine mp_icmp_ge (tgt := 107) (dz dl_Mod_collect_0 13 17 (.if_icmp .ge (90)) 3 rfl) (by decide) (fun hc => ?_) (fun hc => ?_)
  · replace h := h.1 hc
    exact mp_rt none (rt_V rfl (dz dl_Mod_collect_1 25 107 (.return_) 1 rfl)) ⟨rfl, h⟩
  · replace h := h.2 hc
    refine mp_aload_n (i := 0) (v := qr 1 (some 0)) (dz dl_Mod_collect_0 14 20 (.aload_n 0) 1 rfl) rfl rfl trivial ?_
    refine mp_getA (dz dl_Mod_collect_0 15 21 (.getfield 139) 3 rfl) lk_Mod_139 (q := 0) kd_113 rfl sm_113 ?_
    refine mp_iload_n (i := 2) (x := l2) (dz dl_Mod_collect_0 16 24 (.iload_n 2) 1 rfl) rfl rfl ?_
    obtain ⟨i2, h⟩ := h
    refine mp_iald (dz dl_Mod_collect_0 17 25 (.iaload) 1 rfl) kd_113 rfl sm_113 i2 ?_
    refine mp_iconst (dz dl_Mod_collect_0 18 26 (.iconst (1)) 1 rfl) (v := (1 : Int32)) (by decide) ?_
    refine mp_icmp_ne (tgt := 44) (dz dl_Mod_collect_0 19 27 (.if_icmp .ne (17)) 3 rfl) (by decide) (fun hc => ?_) (fun hc => ?_)
    · replace h := h.1 hc
      refine mp_iconst (dz dl_Mod_collect_0 28 44 (.iconst (0)) 1 rfl) (v := (0 : Int32)) (by decide) ?_
      exact mp_cut h ⟨Or.inr rfl, Or.inr rfl, Or.inr rfl, Or.inl rfl, trivial⟩
    · replace h := h.2 hc
      refine mp_aload_n (i := 0) (v := qr 1 (some 0)) (dz dl_Mod_collect_0 20 30 (.aload_n 0) 1 rfl) rfl rfl trivial ?_
      refine mp_getA (dz dl_Mod_collect_0 21 31 (.getfield 115) 3 rfl) lk_Mod_115 (q := 0) kd_105 rfl sm_105 ?_
      refine mp_aload_n (i := 0) (v := qr 1 (some 0)) (dz dl_Mod_collect_0 22 34 (.aload_n 0) 1 rfl) rfl rfl trivial ?_
      refine mp_getA (dz dl_Mod_collect_0 23 35 (.getfield 145) 3 rfl) lk_Mod_145 (q := 0) kd_115 rfl sm_115 ?_
      refine mp_iload_n (i := 2) (x := l2) (dz dl_Mod_collect_0 24 38 (.iload_n 2) 1 rfl) rfl rfl ?_
      refine mp_iald (dz dl_Mod_collect_0 25 39 (.iaload) 1 rfl) kd_115 rfl sm_115 i2 ?_
      obtain ⟨i3, h⟩ := h
      refine mp_iald (dz dl_Mod_collect_0 26 40 (.iaload) 1 rfl) kd_105 rfl sm_105 i3 ?_
      refine mp_goto (tgt := 45) (dz dl_Mod_collect_0 27 41 (.goto (4)) 3 rfl) (by decide) ?_
      exact mp_cut h ⟨Or.inr rfl, Or.inr rfl, Or.inr rfl, Or.inl rfl, trivial⟩

theorem mb_Mod_collect_45 {u : MS} {l1 : Int32} {l2 : Int32} {s0 : Int32} {Z : MS → Prop} (h : (s0 ≤ 0 → mWP M_Mod_collect 5 [qr 1 (some 0), qi l1, qi (l2 + 1), none] [] u (mV Z)) ∧ (¬ s0 ≤ 0 → (¬ s0 = (1 : Int32) → vp_in l2 50 ∧ ∀ u1, u1 = mu u 113 l2.toNatClampNeg (0 : Int32) → vp_in l1 5 ∧ (¬ (u1 111 l1.toNatClampNeg) = 0 → ∀ u2, u2 = mu u1 111 l1.toNatClampNeg (1 : Int32) → mWP M_Mod_collect 5 [qr 1 (some 0), qi l1, qi (l2 + 1), none] [] u2 (mV Z)) ∧ ((u1 111 l1.toNatClampNeg) = 0 → (s0 ≤ (1 : Int32) → ∀ u3, u3 = mu u1 111 l1.toNatClampNeg (0 : Int32) → mWP M_Mod_collect 5 [qr 1 (some 0), qi l1, qi (l2 + 1), none] [] u3 (mV Z)) ∧ (¬ s0 ≤ (1 : Int32) → (¬ (u1 114 l2.toNatClampNeg) = (3 : Int32) → ∀ u4, u4 = mu u1 111 l1.toNatClampNeg (0 : Int32) → mWP M_Mod_collect 5 [qr 1 (some 0), qi l1, qi (l2 + 1), none] [] u4 (mV Z)) ∧ ((u1 114 l2.toNatClampNeg) = (3 : Int32) → ∀ u5, u5 = mu u1 111 l1.toNatClampNeg (1 : Int32) → mWP M_Mod_collect 5 [qr 1 (some 0), qi l1, qi (l2 + 1), none] [] u5 (mV Z))))) ∧ (s0 = (1 : Int32) → vp_in l2 50 ∧ ∀ u6, u6 = mu u 113 l2.toNatClampNeg (2 : Int32) → vp_in l1 5 ∧ (¬ (u6 111 l1.toNatClampNeg) = 0 → ∀ u7, u7 = mu u6 111 l1.toNatClampNeg (1 : Int32) → mWP M_Mod_collect 5 [qr 1 (some 0), qi l1, qi (l2 + 1), none] [] u7 (mV Z)) ∧ ((u6 111 l1.toNatClampNeg) = 0 → (s0 ≤ (1 : Int32) → ∀ u8, u8 = mu u6 111 l1.toNatClampNeg (0 : Int32) → mWP M_Mod_collect 5 [qr 1 (some 0), qi l1, qi (l2 + 1), none] [] u8 (mV Z)) ∧ (¬ s0 ≤ (1 : Int32) → (¬ (u6 114 l2.toNatClampNeg) = (3 : Int32) → ∀ u9, u9 = mu u6 111 l1.toNatClampNeg (0 : Int32) → mWP M_Mod_collect 5 [qr 1 (some 0), qi l1, qi (l2 + 1), none] [] u9 (mV Z)) ∧ ((u6 114 l2.toNatClampNeg) = (3 : Int32) → ∀ u10, u10 = mu u6 111 l1.toNatClampNeg (1 : Int32) → mWP M_Mod_collect 5 [qr 1 (some 0), qi l1, qi (l2 + 1), none] [] u10 (mV Z))))))) : mWP M_Mod_collect 45 [qr 1 (some 0), qi l1, qi l2, none] [qi s0] u (mV Z) := by
  refine mp_istore_n (i := 3) (dz dl_Mod_collect_0 29 45 (.istore_n 3) 1 rfl) rfl [qr 1 (some 0), qi l1, qi l2, qi s0] (by decide) rfl ?_
  refine mp_iload_n (i := 3) (x := s0) (dz dl_Mod_collect_0 30 46 (.iload_n 3) 1 rfl) rfl rfl ?_
  refine mp_if_le (tgt := 101) (dz dl_Mod_collect_0 31 47 (.ifCond .le (54)) 3 rfl) (by decide) (fun hc => ?_) (fun hc => ?_)
  · replace h := h.1 hc
    refine mp_iinc (i := 2) (v := l2 + 1) (dz dl_Mod_collect_1 23 101 (.iinc 2 (1)) 3 rfl) rfl (congrArg (fun z => l2 + z) (by decide)) [qr 1 (some 0), qi l1, qi (l2 + 1), qi s0] (by decide) rfl ?_
    refine mp_goto (tgt := 5) (dz dl_Mod_collect_1 24 104 (.goto (-99)) 3 rfl) (by decide) ?_
    exact mp_cut h ⟨Or.inr rfl, Or.inr rfl, Or.inr rfl, Or.inl rfl, trivial⟩
  · replace h := h.2 hc
    refine mp_aload_n (i := 0) (v := qr 1 (some 0)) (dz dl_Mod_collect_0 32 50 (.aload_n 0) 1 rfl) rfl rfl trivial ?_
    refine mp_getA (dz dl_Mod_collect_0 33 51 (.getfield 139) 3 rfl) lk_Mod_139 (q := 0) kd_113 rfl sm_113 ?_
    refine mp_iload_n (i := 2) (x := l2) (dz dl_Mod_collect_0 34 54 (.iload_n 2) 1 rfl) rfl rfl ?_
    refine mp_iload_n (i := 3) (x := s0) (dz dl_Mod_collect_0 35 55 (.iload_n 3) 1 rfl) rfl rfl ?_
    refine mp_iconst (dz dl_Mod_collect_0 36 56 (.iconst (1)) 1 rfl) (v := (1 : Int32)) (by decide) ?_
    refine mp_icmp_ne (tgt := 64) (dz dl_Mod_collect_0 37 57 (.if_icmp .ne (7)) 3 rfl) (by decide) (fun hc => ?_) (fun hc => ?_)
    · replace h := h.1 hc
      refine mp_iconst (dz dl_Mod_collect_1 0 64 (.iconst (0)) 1 rfl) (v := (0 : Int32)) (by decide) ?_
      obtain ⟨i1, h⟩ := h
      have h := h _ rfl
      refine mp_iast (dz dl_Mod_collect_1 1 65 (.iastore) 1 rfl) kd_113 rfl sm_113 i1 rfl ?_
      refine mp_aload_n (i := 0) (v := qr 1 (some 0)) (dz dl_Mod_collect_1 2 66 (.aload_n 0) 1 rfl) rfl rfl trivial ?_
      refine mp_getA (dz dl_Mod_collect_1 3 67 (.getfield 133) 3 rfl) lk_Mod_133 (q := 0) kd_111 rfl sm_111 ?_
      refine mp_iload_n (i := 1) (x := l1) (dz dl_Mod_collect_1 4 70 (.iload_n 1) 1 rfl) rfl rfl ?_
      refine mp_aload_n (i := 0) (v := qr 1 (some 0)) (dz dl_Mod_collect_1 5 71 (.aload_n 0) 1 rfl) rfl rfl trivial ?_
      refine mp_getA (dz dl_Mod_collect_1 6 72 (.getfield 133) 3 rfl) lk_Mod_133 (q := 0) kd_111 rfl sm_111 ?_
      refine mp_iload_n (i := 1) (x := l1) (dz dl_Mod_collect_1 7 75 (.iload_n 1) 1 rfl) rfl rfl ?_
      obtain ⟨i2, h⟩ := h
      refine mp_zald (dz dl_Mod_collect_1 8 76 (.baload) 1 rfl) kd_111 rfl sm_111 i2 ?_
      refine mp_if_ne (tgt := 95) (dz dl_Mod_collect_1 9 77 (.ifCond .ne (18)) 3 rfl) (by decide) (fun hc => ?_) (fun hc => ?_)
      · replace h := h.1 hc
        refine mp_iconst (dz dl_Mod_collect_1 19 95 (.iconst (1)) 1 rfl) (v := (1 : Int32)) (by decide) ?_
        refine mp_goto (tgt := 100) (dz dl_Mod_collect_1 20 96 (.goto (4)) 3 rfl) (by decide) ?_
        have h := h _ rfl
        refine mp_zast (dz dl_Mod_collect_1 22 100 (.bastore) 1 rfl) kd_111 rfl sm_111 i2 (okI_2 (Or.inr rfl)) rfl ?_
        refine mp_iinc (i := 2) (v := l2 + 1) (dz dl_Mod_collect_1 23 101 (.iinc 2 (1)) 3 rfl) rfl (congrArg (fun z => l2 + z) (by decide)) [qr 1 (some 0), qi l1, qi (l2 + 1), qi s0] (by decide) rfl ?_
        refine mp_goto (tgt := 5) (dz dl_Mod_collect_1 24 104 (.goto (-99)) 3 rfl) (by decide) ?_
        exact mp_cut h ⟨Or.inr rfl, Or.inr rfl, Or.inr rfl, Or.inl rfl, trivial⟩
      · replace h := h.2 hc
        refine mp_iload_n (i := 3) (x := s0) (dz dl_Mod_collect_1 10 80 (.iload_n 3) 1 rfl) rfl rfl ?_
        refine mp_iconst (dz dl_Mod_collect_1 11 81 (.iconst (1)) 1 rfl) (v := (1 : Int32)) (by decide) ?_
        refine mp_icmp_le (tgt := 99) (dz dl_Mod_collect_1 12 82 (.if_icmp .le (17)) 3 rfl) (by decide) (fun hc => ?_) (fun hc => ?_)
        · replace h := h.1 hc
          refine mp_iconst (dz dl_Mod_collect_1 21 99 (.iconst (0)) 1 rfl) (v := (0 : Int32)) (by decide) ?_
          have h := h _ rfl
          refine mp_zast (dz dl_Mod_collect_1 22 100 (.bastore) 1 rfl) kd_111 rfl sm_111 i2 (okI_2 (Or.inl rfl)) rfl ?_
          refine mp_iinc (i := 2) (v := l2 + 1) (dz dl_Mod_collect_1 23 101 (.iinc 2 (1)) 3 rfl) rfl (congrArg (fun z => l2 + z) (by decide)) [qr 1 (some 0), qi l1, qi (l2 + 1), qi s0] (by decide) rfl ?_
          refine mp_goto (tgt := 5) (dz dl_Mod_collect_1 24 104 (.goto (-99)) 3 rfl) (by decide) ?_
          exact mp_cut h ⟨Or.inr rfl, Or.inr rfl, Or.inr rfl, Or.inl rfl, trivial⟩
        · replace h := h.2 hc
          refine mp_aload_n (i := 0) (v := qr 1 (some 0)) (dz dl_Mod_collect_1 13 85 (.aload_n 0) 1 rfl) rfl rfl trivial ?_
          refine mp_getA (dz dl_Mod_collect_1 14 86 (.getfield 142) 3 rfl) lk_Mod_142 (q := 0) kd_114 rfl sm_114 ?_
          refine mp_iload_n (i := 2) (x := l2) (dz dl_Mod_collect_1 15 89 (.iload_n 2) 1 rfl) rfl rfl ?_
          refine mp_iald (dz dl_Mod_collect_1 16 90 (.iaload) 1 rfl) kd_114 rfl sm_114 i1 ?_
          refine mp_iconst (dz dl_Mod_collect_1 17 91 (.iconst (3)) 1 rfl) (v := (3 : Int32)) (by decide) ?_
          refine mp_icmp_ne (tgt := 99) (dz dl_Mod_collect_1 18 92 (.if_icmp .ne (7)) 3 rfl) (by decide) (fun hc => ?_) (fun hc => ?_)
          · replace h := h.1 hc
            refine mp_iconst (dz dl_Mod_collect_1 21 99 (.iconst (0)) 1 rfl) (v := (0 : Int32)) (by decide) ?_
            have h := h _ rfl
            refine mp_zast (dz dl_Mod_collect_1 22 100 (.bastore) 1 rfl) kd_111 rfl sm_111 i2 (okI_2 (Or.inl rfl)) rfl ?_
            refine mp_iinc (i := 2) (v := l2 + 1) (dz dl_Mod_collect_1 23 101 (.iinc 2 (1)) 3 rfl) rfl (congrArg (fun z => l2 + z) (by decide)) [qr 1 (some 0), qi l1, qi (l2 + 1), qi s0] (by decide) rfl ?_
            refine mp_goto (tgt := 5) (dz dl_Mod_collect_1 24 104 (.goto (-99)) 3 rfl) (by decide) ?_
            exact mp_cut h ⟨Or.inr rfl, Or.inr rfl, Or.inr rfl, Or.inl rfl, trivial⟩
          · replace h := h.2 hc
            refine mp_iconst (dz dl_Mod_collect_1 19 95 (.iconst (1)) 1 rfl) (v := (1 : Int32)) (by decide) ?_
            refine mp_goto (tgt := 100) (dz dl_Mod_collect_1 20 96 (.goto (4)) 3 rfl) (by decide) ?_
            have h := h _ rfl
            refine mp_zast (dz dl_Mod_collect_1 22 100 (.bastore) 1 rfl) kd_111 rfl sm_111 i2 (okI_2 (Or.inr rfl)) rfl ?_
            refine mp_iinc (i := 2) (v := l2 + 1) (dz dl_Mod_collect_1 23 101 (.iinc 2 (1)) 3 rfl) rfl (congrArg (fun z => l2 + z) (by decide)) [qr 1 (some 0), qi l1, qi (l2 + 1), qi s0] (by decide) rfl ?_
            refine mp_goto (tgt := 5) (dz dl_Mod_collect_1 24 104 (.goto (-99)) 3 rfl) (by decide) ?_
            exact mp_cut h ⟨Or.inr rfl, Or.inr rfl, Or.inr rfl, Or.inl rfl, trivial⟩
    · replace h := h.2 hc
      refine mp_iconst (dz dl_Mod_collect_0 38 60 (.iconst (2)) 1 rfl) (v := (2 : Int32)) (by decide) ?_
      refine mp_goto (tgt := 65) (dz dl_Mod_collect_0 39 61 (.goto (4)) 3 rfl) (by decide) ?_
      obtain ⟨i3, h⟩ := h
      have h := h _ rfl
      refine mp_iast (dz dl_Mod_collect_1 1 65 (.iastore) 1 rfl) kd_113 rfl sm_113 i3 rfl ?_
      refine mp_aload_n (i := 0) (v := qr 1 (some 0)) (dz dl_Mod_collect_1 2 66 (.aload_n 0) 1 rfl) rfl rfl trivial ?_
      refine mp_getA (dz dl_Mod_collect_1 3 67 (.getfield 133) 3 rfl) lk_Mod_133 (q := 0) kd_111 rfl sm_111 ?_
      refine mp_iload_n (i := 1) (x := l1) (dz dl_Mod_collect_1 4 70 (.iload_n 1) 1 rfl) rfl rfl ?_
      refine mp_aload_n (i := 0) (v := qr 1 (some 0)) (dz dl_Mod_collect_1 5 71 (.aload_n 0) 1 rfl) rfl rfl trivial ?_
      refine mp_getA (dz dl_Mod_collect_1 6 72 (.getfield 133) 3 rfl) lk_Mod_133 (q := 0) kd_111 rfl sm_111 ?_
      refine mp_iload_n (i := 1) (x := l1) (dz dl_Mod_collect_1 7 75 (.iload_n 1) 1 rfl) rfl rfl ?_
      obtain ⟨i4, h⟩ := h
      refine mp_zald (dz dl_Mod_collect_1 8 76 (.baload) 1 rfl) kd_111 rfl sm_111 i4 ?_
      refine mp_if_ne (tgt := 95) (dz dl_Mod_collect_1 9 77 (.ifCond .ne (18)) 3 rfl) (by decide) (fun hc => ?_) (fun hc => ?_)
      · replace h := h.1 hc
        refine mp_iconst (dz dl_Mod_collect_1 19 95 (.iconst (1)) 1 rfl) (v := (1 : Int32)) (by decide) ?_
        refine mp_goto (tgt := 100) (dz dl_Mod_collect_1 20 96 (.goto (4)) 3 rfl) (by decide) ?_
        have h := h _ rfl
        refine mp_zast (dz dl_Mod_collect_1 22 100 (.bastore) 1 rfl) kd_111 rfl sm_111 i4 (okI_2 (Or.inr rfl)) rfl ?_
        refine mp_iinc (i := 2) (v := l2 + 1) (dz dl_Mod_collect_1 23 101 (.iinc 2 (1)) 3 rfl) rfl (congrArg (fun z => l2 + z) (by decide)) [qr 1 (some 0), qi l1, qi (l2 + 1), qi s0] (by decide) rfl ?_
        refine mp_goto (tgt := 5) (dz dl_Mod_collect_1 24 104 (.goto (-99)) 3 rfl) (by decide) ?_
        exact mp_cut h ⟨Or.inr rfl, Or.inr rfl, Or.inr rfl, Or.inl rfl, trivial⟩
      · replace h := h.2 hc
        refine mp_iload_n (i := 3) (x := s0) (dz dl_Mod_collect_1 10 80 (.iload_n 3) 1 rfl) rfl rfl ?_
        refine mp_iconst (dz dl_Mod_collect_1 11 81 (.iconst (1)) 1 rfl) (v := (1 : Int32)) (by decide) ?_
        refine mp_icmp_le (tgt := 99) (dz dl_Mod_collect_1 12 82 (.if_icmp .le (17)) 3 rfl) (by decide) (fun hc => ?_) (fun hc => ?_)
        · replace h := h.1 hc
          refine mp_iconst (dz dl_Mod_collect_1 21 99 (.iconst (0)) 1 rfl) (v := (0 : Int32)) (by decide) ?_
          have h := h _ rfl
          refine mp_zast (dz dl_Mod_collect_1 22 100 (.bastore) 1 rfl) kd_111 rfl sm_111 i4 (okI_2 (Or.inl rfl)) rfl ?_
          refine mp_iinc (i := 2) (v := l2 + 1) (dz dl_Mod_collect_1 23 101 (.iinc 2 (1)) 3 rfl) rfl (congrArg (fun z => l2 + z) (by decide)) [qr 1 (some 0), qi l1, qi (l2 + 1), qi s0] (by decide) rfl ?_
          refine mp_goto (tgt := 5) (dz dl_Mod_collect_1 24 104 (.goto (-99)) 3 rfl) (by decide) ?_
          exact mp_cut h ⟨Or.inr rfl, Or.inr rfl, Or.inr rfl, Or.inl rfl, trivial⟩
        · replace h := h.2 hc
          refine mp_aload_n (i := 0) (v := qr 1 (some 0)) (dz dl_Mod_collect_1 13 85 (.aload_n 0) 1 rfl) rfl rfl trivial ?_
          refine mp_getA (dz dl_Mod_collect_1 14 86 (.getfield 142) 3 rfl) lk_Mod_142 (q := 0) kd_114 rfl sm_114 ?_
          refine mp_iload_n (i := 2) (x := l2) (dz dl_Mod_collect_1 15 89 (.iload_n 2) 1 rfl) rfl rfl ?_
          refine mp_iald (dz dl_Mod_collect_1 16 90 (.iaload) 1 rfl) kd_114 rfl sm_114 i3 ?_
          refine mp_iconst (dz dl_Mod_collect_1 17 91 (.iconst (3)) 1 rfl) (v := (3 : Int32)) (by decide) ?_
          refine mp_icmp_ne (tgt := 99) (dz dl_Mod_collect_1 18 92 (.if_icmp .ne (7)) 3 rfl) (by decide) (fun hc => ?_) (fun hc => ?_)
          · replace h := h.1 hc
            refine mp_iconst (dz dl_Mod_collect_1 21 99 (.iconst (0)) 1 rfl) (v := (0 : Int32)) (by decide) ?_
            have h := h _ rfl
            refine mp_zast (dz dl_Mod_collect_1 22 100 (.bastore) 1 rfl) kd_111 rfl sm_111 i4 (okI_2 (Or.inl rfl)) rfl ?_
            refine mp_iinc (i := 2) (v := l2 + 1) (dz dl_Mod_collect_1 23 101 (.iinc 2 (1)) 3 rfl) rfl (congrArg (fun z => l2 + z) (by decide)) [qr 1 (some 0), qi l1, qi (l2 + 1), qi s0] (by decide) rfl ?_
            refine mp_goto (tgt := 5) (dz dl_Mod_collect_1 24 104 (.goto (-99)) 3 rfl) (by decide) ?_
            exact mp_cut h ⟨Or.inr rfl, Or.inr rfl, Or.inr rfl, Or.inl rfl, trivial⟩
          · replace h := h.2 hc
            refine mp_iconst (dz dl_Mod_collect_1 19 95 (.iconst (1)) 1 rfl) (v := (1 : Int32)) (by decide) ?_
            refine mp_goto (tgt := 100) (dz dl_Mod_collect_1 20 96 (.goto (4)) 3 rfl) (by decide) ?_
            have h := h _ rfl
            refine mp_zast (dz dl_Mod_collect_1 22 100 (.bastore) 1 rfl) kd_111 rfl sm_111 i4 (okI_2 (Or.inr rfl)) rfl ?_
            refine mp_iinc (i := 2) (v := l2 + 1) (dz dl_Mod_collect_1 23 101 (.iinc 2 (1)) 3 rfl) rfl (congrArg (fun z => l2 + z) (by decide)) [qr 1 (some 0), qi l1, qi (l2 + 1), qi s0] (by decide) rfl ?_
            refine mp_goto (tgt := 5) (dz dl_Mod_collect_1 24 104 (.goto (-99)) 3 rfl) (by decide) ?_
            exact mp_cut h ⟨Or.inr rfl, Or.inr rfl, Or.inr rfl, Or.inl rfl, trivial⟩

theorem mb_Mod_pump_0 {u : MS} {l1 : Int32} {Z : Int32 → MS → Prop} (h : mMT M_Mod_isNode [qi l1] u (mI fun r1 u1 => (r1 = 0 → Z (-1 : Int32) u1) ∧ (¬ r1 = 0 → vp_in l1 5 ∧ (¬ (u1 109 l1.toNatClampNeg) = 0 → ((u1 111 l1.toNatClampNeg) = 0 → mMT M_Mod_inState [qr 1 (some 0), qi l1, qi (2 : Int32)] u1 (mI fun r2 u2 => (¬ r2 = (u2 109 l1.toNatClampNeg) → mMT M_Mod_collect [qr 1 (some 0), qi l1] u2 (mV fun u3 => (¬ (u3 111 l1.toNatClampNeg) = 0 → mWP M_Mod_pump 76 [qr 1 (some 0), qi l1, qi (0 : Int32), qi (0 : Int32), qi ((10 : Int32) * l1), none] [] u3 (mI Z)) ∧ ((u3 111 l1.toNatClampNeg) = 0 → mWP M_Mod_pump 76 [qr 1 (some 0), qi l1, qi (0 : Int32), qi (1 : Int32), qi ((10 : Int32) * l1), none] [] u3 (mI Z)))) ∧ (r2 = (u2 109 l1.toNatClampNeg) → Z (-3 : Int32) u2))) ∧ (¬ (u1 111 l1.toNatClampNeg) = 0 → Z (-2 : Int32) u1)) ∧ ((u1 109 l1.toNatClampNeg) = 0 → Z (-1 : Int32) u1)))) : mWP M_Mod_pump 0 [qr 1 (some 0), qi l1, none, none, none, none] [] u (mI Z) := by
  refine mp_iload_n (i := 1) (x := l1) (dz dl_Mod_pump_0 0 0 (.iload_n 1) 1 rfl) rfl rfl ?_
  refine mp_callS [qi l1] [] (dz dl_Mod_pump_0 1 1 (.invokestatic 161) 3 rfl) ok_Mod_isNode lm_Mod_161 ws_Mod_isNode ⟨Nat.le_of_ble_eq_true rfl, Nat.le_of_ble_eq_true rfl⟩ pn_Mod_isNode (Nat.le_of_ble_eq_true rfl) (Nat.le_of_ble_eq_true rfl) (Or.inl rfl) (mmono h ?_)
  rintro _ u1 ⟨r1, rfl, h⟩
  show mWP _ _ _ [qi r1] _ _
  refine mp_if_eq (tgt := 16) (dz dl_Mod_pump_0 2 4 (.ifCond .eq (12)) 3 rfl) (by decide) (fun hc => ?_) (fun hc => ?_)
  · replace h := h.1 hc
    refine mp_iconst (dz dl_Mod_pump_0 8 16 (.iconst (-1)) 1 rfl) (v := (-1 : Int32)) (by decide) ?_
    exact mp_rt (qi _) (rt_I rfl (dz dl_Mod_pump_0 9 17 (.ireturn) 1 rfl)) ⟨_, rfl, h⟩
  · replace h := h.2 hc
    refine mp_aload_n (i := 0) (v := qr 1 (some 0)) (dz dl_Mod_pump_0 3 7 (.aload_n 0) 1 rfl) rfl rfl trivial ?_
    refine mp_getA (dz dl_Mod_pump_0 4 8 (.getfield 127) 3 rfl) lk_Mod_127 (q := 0) kd_109 rfl sm_109 ?_
    refine mp_iload_n (i := 1) (x := l1) (dz dl_Mod_pump_0 5 11 (.iload_n 1) 1 rfl) rfl rfl ?_
    obtain ⟨i1, h⟩ := h
    refine mp_iald (dz dl_Mod_pump_0 6 12 (.iaload) 1 rfl) kd_109 rfl sm_109 i1 ?_
    refine mp_if_ne (tgt := 18) (dz dl_Mod_pump_0 7 13 (.ifCond .ne (5)) 3 rfl) (by decide) (fun hc => ?_) (fun hc => ?_)
    · replace h := h.1 hc
      refine mp_aload_n (i := 0) (v := qr 1 (some 0)) (dz dl_Mod_pump_0 10 18 (.aload_n 0) 1 rfl) rfl rfl trivial ?_
      refine mp_getA (dz dl_Mod_pump_0 11 19 (.getfield 133) 3 rfl) lk_Mod_133 (q := 0) kd_111 rfl sm_111 ?_
      refine mp_iload_n (i := 1) (x := l1) (dz dl_Mod_pump_0 12 22 (.iload_n 1) 1 rfl) rfl rfl ?_
      refine mp_zald (dz dl_Mod_pump_0 13 23 (.baload) 1 rfl) kd_111 rfl sm_111 i1 ?_
      refine mp_if_eq (tgt := 30) (dz dl_Mod_pump_0 14 24 (.ifCond .eq (6)) 3 rfl) (by decide) (fun hc => ?_) (fun hc => ?_)
      · replace h := h.1 hc
        refine mp_aload_n (i := 0) (v := qr 1 (some 0)) (dz dl_Mod_pump_0 17 30 (.aload_n 0) 1 rfl) rfl rfl trivial ?_
        refine mp_iload_n (i := 1) (x := l1) (dz dl_Mod_pump_0 18 31 (.iload_n 1) 1 rfl) rfl rfl ?_
        refine mp_iconst (dz dl_Mod_pump_0 19 32 (.iconst (2)) 1 rfl) (v := (2 : Int32)) (by decide) ?_
        refine mp_callV [qi l1, qi (2 : Int32)] [] (dz dl_Mod_pump_0 20 33 (.invokevirtual 312) 3 rfl) ok_Mod_inState lm_Mod_312 ws_Mod_inState wv_Mod_inState ⟨Nat.le_of_ble_eq_true rfl, Nat.le_of_ble_eq_true rfl⟩ pn_Mod_inState (Nat.le_of_ble_eq_true rfl) (Nat.le_of_ble_eq_true rfl) (Or.inl rfl) (mmono h ?_)
        rintro _ u2 ⟨r2, rfl, h⟩
        show mWP _ _ _ [qi r2] _ _
        refine mp_aload_n (i := 0) (v := qr 1 (some 0)) (dz dl_Mod_pump_0 21 36 (.aload_n 0) 1 rfl) rfl rfl trivial ?_
        refine mp_getA (dz dl_Mod_pump_0 22 37 (.getfield 127) 3 rfl) lk_Mod_127 (q := 0) kd_109 rfl sm_109 ?_
        refine mp_iload_n (i := 1) (x := l1) (dz dl_Mod_pump_0 23 40 (.iload_n 1) 1 rfl) rfl rfl ?_
        refine mp_iald (dz dl_Mod_pump_0 24 41 (.iaload) 1 rfl) kd_109 rfl sm_109 i1 ?_
        refine mp_icmp_ne (tgt := 48) (dz dl_Mod_pump_0 25 42 (.if_icmp .ne (6)) 3 rfl) (by decide) (fun hc => ?_) (fun hc => ?_)
        · replace h := h.1 hc
          refine mp_aload_n (i := 0) (v := qr 1 (some 0)) (dz dl_Mod_pump_0 28 48 (.aload_n 0) 1 rfl) rfl rfl trivial ?_
          refine mp_iload_n (i := 1) (x := l1) (dz dl_Mod_pump_0 29 49 (.iload_n 1) 1 rfl) rfl rfl ?_
          refine mp_callV [qi l1] [] (dz dl_Mod_pump_0 30 50 (.invokevirtual 315) 3 rfl) ok_Mod_collect lm_Mod_315 ws_Mod_collect wv_Mod_collect ⟨Nat.le_of_ble_eq_true rfl, Nat.le_of_ble_eq_true rfl⟩ pn_Mod_collect (Nat.le_of_ble_eq_true rfl) (Nat.le_of_ble_eq_true rfl) (Or.inl rfl) (mmono h ?_)
          rintro _ u3 ⟨rfl, h⟩
          show mWP _ _ _ [] _ _
          refine mp_iconst (dz dl_Mod_pump_0 31 53 (.iconst (0)) 1 rfl) (v := (0 : Int32)) (by decide) ?_
          refine mp_istore_n (i := 2) (dz dl_Mod_pump_0 32 54 (.istore_n 2) 1 rfl) rfl [qr 1 (some 0), qi l1, qi (0 : Int32), none, none, none] (by decide) rfl ?_
          refine mp_aload_n (i := 0) (v := qr 1 (some 0)) (dz dl_Mod_pump_0 33 55 (.aload_n 0) 1 rfl) rfl rfl trivial ?_
          refine mp_getA (dz dl_Mod_pump_0 34 56 (.getfield 133) 3 rfl) lk_Mod_133 (q := 0) kd_111 rfl sm_111 ?_
          refine mp_iload_n (i := 1) (x := l1) (dz dl_Mod_pump_0 35 59 (.iload_n 1) 1 rfl) rfl rfl ?_
          refine mp_zald (dz dl_Mod_pump_0 36 60 (.baload) 1 rfl) kd_111 rfl sm_111 i1 ?_
          refine mp_if_ne (tgt := 68) (dz dl_Mod_pump_0 37 61 (.ifCond .ne (7)) 3 rfl) (by decide) (fun hc => ?_) (fun hc => ?_)
          · replace h := h.1 hc
            refine mp_iconst (dz dl_Mod_pump_1 0 68 (.iconst (0)) 1 rfl) (v := (0 : Int32)) (by decide) ?_
            refine mp_istore_n (i := 3) (dz dl_Mod_pump_1 1 69 (.istore_n 3) 1 rfl) rfl [qr 1 (some 0), qi l1, qi (0 : Int32), qi (0 : Int32), none, none] (by decide) rfl ?_
            refine mp_bipush (dz dl_Mod_pump_1 2 70 (.bipush (10)) 2 rfl) (v := (10 : Int32)) (by decide) ?_
            refine mp_iload_n (i := 1) (x := l1) (dz dl_Mod_pump_1 3 72 (.iload_n 1) 1 rfl) rfl rfl ?_
            refine mp_imul (dz dl_Mod_pump_1 4 73 (.imul) 1 rfl) ?_
            refine mp_istore (i := 4) (dz dl_Mod_pump_1 5 74 (.istore 4) 2 rfl) [qr 1 (some 0), qi l1, qi (0 : Int32), qi (0 : Int32), qi ((10 : Int32) * l1), none] (by decide) rfl ?_
            exact mp_cut h ⟨Or.inr rfl, Or.inr rfl, Or.inr rfl, Or.inr rfl, Or.inr rfl, Or.inl rfl, trivial⟩
          · replace h := h.2 hc
            refine mp_iconst (dz dl_Mod_pump_0 38 64 (.iconst (1)) 1 rfl) (v := (1 : Int32)) (by decide) ?_
            refine mp_goto (tgt := 69) (dz dl_Mod_pump_0 39 65 (.goto (4)) 3 rfl) (by decide) ?_
            refine mp_istore_n (i := 3) (dz dl_Mod_pump_1 1 69 (.istore_n 3) 1 rfl) rfl [qr 1 (some 0), qi l1, qi (0 : Int32), qi (1 : Int32), none, none] (by decide) rfl ?_
            refine mp_bipush (dz dl_Mod_pump_1 2 70 (.bipush (10)) 2 rfl) (v := (10 : Int32)) (by decide) ?_
            refine mp_iload_n (i := 1) (x := l1) (dz dl_Mod_pump_1 3 72 (.iload_n 1) 1 rfl) rfl rfl ?_
            refine mp_imul (dz dl_Mod_pump_1 4 73 (.imul) 1 rfl) ?_
            refine mp_istore (i := 4) (dz dl_Mod_pump_1 5 74 (.istore 4) 2 rfl) [qr 1 (some 0), qi l1, qi (0 : Int32), qi (1 : Int32), qi ((10 : Int32) * l1), none] (by decide) rfl ?_
            exact mp_cut h ⟨Or.inr rfl, Or.inr rfl, Or.inr rfl, Or.inr rfl, Or.inr rfl, Or.inl rfl, trivial⟩
        · replace h := h.2 hc
          refine mp_bipush (dz dl_Mod_pump_0 26 45 (.bipush (-3)) 2 rfl) (v := (-3 : Int32)) (by decide) ?_
          exact mp_rt (qi _) (rt_I rfl (dz dl_Mod_pump_0 27 47 (.ireturn) 1 rfl)) ⟨_, rfl, h⟩
      · replace h := h.2 hc
        refine mp_bipush (dz dl_Mod_pump_0 15 27 (.bipush (-2)) 2 rfl) (v := (-2 : Int32)) (by decide) ?_
        exact mp_rt (qi _) (rt_I rfl (dz dl_Mod_pump_0 16 29 (.ireturn) 1 rfl)) ⟨_, rfl, h⟩
    · replace h := h.2 hc
      refine mp_iconst (dz dl_Mod_pump_0 8 16 (.iconst (-1)) 1 rfl) (v := (-1 : Int32)) (by decide) ?_
      exact mp_rt (qi _) (rt_I rfl (dz dl_Mod_pump_0 9 17 (.ireturn) 1 rfl)) ⟨_, rfl, h⟩
theorem mt_Mod_pump {u : MS} {l1 : Int32} {Z : Int32 → MS → Prop} (h : mMT M_Mod_isNode [qi l1] u (mI fun r1 u1 => (r1 = 0 → Z (-1 : Int32) u1) ∧ (¬ r1 = 0 → vp_in l1 5 ∧ (¬ (u1 109 l1.toNatClampNeg) = 0 → ((u1 111 l1.toNatClampNeg) = 0 → mMT M_Mod_inState [qr 1 (some 0), qi l1, qi (2 : Int32)] u1 (mI fun r2 u2 => (¬ r2 = (u2 109 l1.toNatClampNeg) → mMT M_Mod_collect [qr 1 (some 0), qi l1] u2 (mV fun u3 => (¬ (u3 111 l1.toNatClampNeg) = 0 → mWP M_Mod_pump 76 [qr 1 (some 0), qi l1, qi (0 : Int32), qi (0 : Int32), qi ((10 : Int32) * l1), none] [] u3 (mI Z)) ∧ ((u3 111 l1.toNatClampNeg) = 0 → mWP M_Mod_pump 76 [qr 1 (some 0), qi l1, qi (0 : Int32), qi (1 : Int32), qi ((10 : Int32) * l1), none] [] u3 (mI Z)))) ∧ (r2 = (u2 109 l1.toNatClampNeg) → Z (-3 : Int32) u2))) ∧ (¬ (u1 111 l1.toNatClampNeg) = 0 → Z (-2 : Int32) u1)) ∧ ((u1 109 l1.toNatClampNeg) = 0 → Z (-1 : Int32) u1)))) : mMT M_Mod_pump [qr 1 (some 0), qi l1] u (mI Z) := mb_Mod_pump_0 h

theorem mb_Mod_pump_76 {u : MS} {l1 : Int32} {l2 : Int32} {l3 : Int32} {l4 : Int32} {Z : Int32 → MS → Prop} (h : vp_in l1 5 ∧ ((((10 : Int32) * l1) + (u 109 l1.toNatClampNeg)) ≤ l4 → Z l2 u) ∧ (¬ (((10 : Int32) * l1) + (u 109 l1.toNatClampNeg)) ≤ l4 → (l3 = 0 → Z l2 u) ∧ (¬ l3 = 0 → vp_in l4 50 ∧ (¬ (u 113 l4.toNatClampNeg) = 0 → mWP M_Mod_pump 76 [qr 1 (some 0), qi l1, qi l2, qi l3, qi (l4 + 1), none] [] u (mI Z)) ∧ ((u 113 l4.toNatClampNeg) = 0 → mMT M_Mod_inState [qr 1 (some 0), qi l1, qi (1 : Int32)] u (mI fun r1 u1 => ((u1 110 l1.toNatClampNeg) ≤ r1 → mWP M_Mod_pump 76 [qr 1 (some 0), qi l1, qi l2, qi l3, qi (l4 + 1), none] [] u1 (mI Z)) ∧ (¬ (u1 110 l1.toNatClampNeg) ≤ r1 → mMT M_Mod_newRequest [qr 1 (some 0), qi l1, qi (u1 112 l4.toNatClampNeg), qi (0 : Int32), qi (9 : Int32)] u1 (mI fun r2 u2 => (r2 < 0 → ((0 : Int32) = 0 → mWP M_Mod_pump 76 [qr 1 (some 0), qi l1, qi l2, qi (0 : Int32), qi (l4 + 1), none] [] u2 (mI Z)) ∧ (¬ (0 : Int32) = 0 → ∀ u3, u3 = mu u2 114 l4.toNatClampNeg ((u2 114 l4.toNatClampNeg) + (1 : Int32)) → ∀ u4, u4 = mu u3 113 l4.toNatClampNeg (1 : Int32) → ∀ u5, u5 = mu u4 115 l4.toNatClampNeg r2 → mWP M_Mod_pump 76 [qr 1 (some 0), qi l1, qi (l2 + 1), qi (0 : Int32), qi (l4 + 1), none] [] u5 (mI Z))) ∧ (¬ r2 < 0 → ((1 : Int32) = 0 → mWP M_Mod_pump 76 [qr 1 (some 0), qi l1, qi l2, qi (1 : Int32), qi (l4 + 1), none] [] u2 (mI Z)) ∧ (¬ (1 : Int32) = 0 → ∀ u6, u6 = mu u2 114 l4.toNatClampNeg ((u2 114 l4.toNatClampNeg) + (1 : Int32)) → ∀ u7, u7 = mu u6 113 l4.toNatClampNeg (1 : Int32) → ∀ u8, u8 = mu u7 115 l4.toNatClampNeg r2 → mWP M_Mod_pump 76 [qr 1 (some 0), qi l1, qi (l2 + 1), qi (1 : Int32), qi (l4 + 1), none] [] u8 (mI Z)))))))))) : mWP M_Mod_pump 76 [qr 1 (some 0), qi l1, qi l2, qi l3, qi l4, none] [] u (mI Z) := by
  refine mp_iload (i := 4) (x := l4) (dz dl_Mod_pump_1 6 76 (.iload 4) 2 rfl) rfl ?_
  refine mp_bipush (dz dl_Mod_pump_1 7 78 (.bipush (10)) 2 rfl) (v := (10 : Int32)) (by decide) ?_
  refine mp_iload_n (i := 1) (x := l1) (dz dl_Mod_pump_1 8 80 (.iload_n 1) 1 rfl) rfl rfl ?_
  refine mp_imul (dz dl_Mod_pump_1 9 81 (.imul) 1 rfl) ?_
  refine mp_aload_n (i := 0) (v := qr 1 (some 0)) (dz dl_Mod_pump_1 10 82 (.aload_n 0) 1 rfl) rfl rfl trivial ?_
  refine mp_getA (dz dl_Mod_pump_1 11 83 (.getfield 127) 3 rfl) lk_Mod_127 (q := 0) kd_109 rfl sm_109 ?_
  refine mp_iload_n (i := 1) (x := l1) (dz dl_Mod_pump_1 12 86 (.iload_n 1) 1 rfl) rfl rfl ?_
  obtain ⟨i1, h⟩ := h
  refine mp_iald (dz dl_Mod_pump_1 13 87 (.iaload) 1 rfl) kd_109 rfl sm_109 i1 ?_
  refine mp_iadd (dz dl_Mod_pump_1 14 88 (.iadd) 1 rfl) ?_
  refine mp_icmp_ge (tgt := 190) (dz dl_Mod_pump_1 15 89 (.if_icmp .ge (101)) 3 rfl) (by decide) (fun hc => ?_) (fun hc => ?_)
  · replace h := h.1 hc
    refine mp_iload_n (i := 2) (x := l2) (dz dl_Mod_pump_2 31 190 (.iload_n 2) 1 rfl) rfl rfl ?_
    exact mp_rt (qi _) (rt_I rfl (dz dl_Mod_pump_2 32 191 (.ireturn) 1 rfl)) ⟨_, rfl, h⟩
  · replace h := h.2 hc
    refine mp_iload_n (i := 3) (x := l3) (dz dl_Mod_pump_1 16 92 (.iload_n 3) 1 rfl) rfl rfl ?_
    refine mp_if_eq (tgt := 190) (dz dl_Mod_pump_1 17 93 (.ifCond .eq (97)) 3 rfl) (by decide) (fun hc => ?_) (fun hc => ?_)
    · replace h := h.1 hc
      refine mp_iload_n (i := 2) (x := l2) (dz dl_Mod_pump_2 31 190 (.iload_n 2) 1 rfl) rfl rfl ?_
      exact mp_rt (qi _) (rt_I rfl (dz dl_Mod_pump_2 32 191 (.ireturn) 1 rfl)) ⟨_, rfl, h⟩
    · replace h := h.2 hc
      refine mp_aload_n (i := 0) (v := qr 1 (some 0)) (dz dl_Mod_pump_1 18 96 (.aload_n 0) 1 rfl) rfl rfl trivial ?_
      refine mp_getA (dz dl_Mod_pump_1 19 97 (.getfield 139) 3 rfl) lk_Mod_139 (q := 0) kd_113 rfl sm_113 ?_
      refine mp_iload (i := 4) (x := l4) (dz dl_Mod_pump_1 20 100 (.iload 4) 2 rfl) rfl ?_
      obtain ⟨i2, h⟩ := h
      refine mp_iald (dz dl_Mod_pump_1 21 102 (.iaload) 1 rfl) kd_113 rfl sm_113 i2 ?_
      refine mp_if_ne (tgt := 184) (dz dl_Mod_pump_1 22 103 (.ifCond .ne (81)) 3 rfl) (by decide) (fun hc => ?_) (fun hc => ?_)
      · replace h := h.1 hc
        refine mp_iinc (i := 4) (v := l4 + 1) (dz dl_Mod_pump_2 29 184 (.iinc 4 (1)) 3 rfl) rfl (congrArg (fun z => l4 + z) (by decide)) [qr 1 (some 0), qi l1, qi l2, qi l3, qi (l4 + 1), none] (by decide) rfl ?_
        refine mp_goto (tgt := 76) (dz dl_Mod_pump_2 30 187 (.goto (-111)) 3 rfl) (by decide) ?_
        exact mp_cut h ⟨Or.inr rfl, Or.inr rfl, Or.inr rfl, Or.inr rfl, Or.inr rfl, Or.inl rfl, trivial⟩
      · replace h := h.2 hc
        refine mp_aload_n (i := 0) (v := qr 1 (some 0)) (dz dl_Mod_pump_1 23 106 (.aload_n 0) 1 rfl) rfl rfl trivial ?_
        refine mp_iload_n (i := 1) (x := l1) (dz dl_Mod_pump_1 24 107 (.iload_n 1) 1 rfl) rfl rfl ?_
        refine mp_iconst (dz dl_Mod_pump_1 25 108 (.iconst (1)) 1 rfl) (v := (1 : Int32)) (by decide) ?_
        refine mp_callV [qi l1, qi (1 : Int32)] [] (dz dl_Mod_pump_1 26 109 (.invokevirtual 312) 3 rfl) ok_Mod_inState lm_Mod_312 ws_Mod_inState wv_Mod_inState ⟨Nat.le_of_ble_eq_true rfl, Nat.le_of_ble_eq_true rfl⟩ pn_Mod_inState (Nat.le_of_ble_eq_true rfl) (Nat.le_of_ble_eq_true rfl) (Or.inl rfl) (mmono h ?_)
        rintro _ u1 ⟨r1, rfl, h⟩
        show mWP _ _ _ [qi r1] _ _
        refine mp_aload_n (i := 0) (v := qr 1 (some 0)) (dz dl_Mod_pump_1 27 112 (.aload_n 0) 1 rfl) rfl rfl trivial ?_
        refine mp_getA (dz dl_Mod_pump_1 28 113 (.getfield 130) 3 rfl) lk_Mod_130 (q := 0) kd_110 rfl sm_110 ?_
        refine mp_iload_n (i := 1) (x := l1) (dz dl_Mod_pump_1 29 116 (.iload_n 1) 1 rfl) rfl rfl ?_
        refine mp_iald (dz dl_Mod_pump_1 30 117 (.iaload) 1 rfl) kd_110 rfl sm_110 i1 ?_
        refine mp_icmp_ge (tgt := 184) (dz dl_Mod_pump_1 31 118 (.if_icmp .ge (66)) 3 rfl) (by decide) (fun hc => ?_) (fun hc => ?_)
        · replace h := h.1 hc
          refine mp_iinc (i := 4) (v := l4 + 1) (dz dl_Mod_pump_2 29 184 (.iinc 4 (1)) 3 rfl) rfl (congrArg (fun z => l4 + z) (by decide)) [qr 1 (some 0), qi l1, qi l2, qi l3, qi (l4 + 1), none] (by decide) rfl ?_
          refine mp_goto (tgt := 76) (dz dl_Mod_pump_2 30 187 (.goto (-111)) 3 rfl) (by decide) ?_
          exact mp_cut h ⟨Or.inr rfl, Or.inr rfl, Or.inr rfl, Or.inr rfl, Or.inr rfl, Or.inl rfl, trivial⟩
        · replace h := h.2 hc
          refine mp_aload_n (i := 0) (v := qr 1 (some 0)) (dz dl_Mod_pump_1 32 121 (.aload_n 0) 1 rfl) rfl rfl trivial ?_
          refine mp_iload_n (i := 1) (x := l1) (dz dl_Mod_pump_1 33 122 (.iload_n 1) 1 rfl) rfl rfl ?_
          refine mp_aload_n (i := 0) (v := qr 1 (some 0)) (dz dl_Mod_pump_1 34 123 (.aload_n 0) 1 rfl) rfl rfl trivial ?_
          refine mp_getA (dz dl_Mod_pump_1 35 124 (.getfield 136) 3 rfl) lk_Mod_136 (q := 0) kd_112 rfl sm_112 ?_
          refine mp_iload (i := 4) (x := l4) (dz dl_Mod_pump_1 36 127 (.iload 4) 2 rfl) rfl ?_
          refine mp_iald (dz dl_Mod_pump_1 37 129 (.iaload) 1 rfl) kd_112 rfl sm_112 i2 ?_
          refine mp_iconst (dz dl_Mod_pump_1 38 130 (.iconst (0)) 1 rfl) (v := (0 : Int32)) (by decide) ?_
          refine mp_bipush (dz dl_Mod_pump_1 39 131 (.bipush (9)) 2 rfl) (v := (9 : Int32)) (by decide) ?_
          refine mp_callV [qi l1, qi (u1 112 l4.toNatClampNeg), qi (0 : Int32), qi (9 : Int32)] [] (dz dl_Mod_pump_2 0 133 (.invokevirtual 305) 3 rfl) ok_Mod_newRequest lm_Mod_305 ws_Mod_newRequest wv_Mod_newRequest ⟨Nat.le_of_ble_eq_true rfl, Nat.le_of_ble_eq_true rfl⟩ pn_Mod_newRequest (Nat.le_of_ble_eq_true rfl) (Nat.le_of_ble_eq_true rfl) (Or.inl rfl) (mmono h ?_)
          rintro _ u2 ⟨r2, rfl, h⟩
          show mWP _ _ _ [qi r2] _ _
          refine mp_istore (i := 5) (dz dl_Mod_pump_2 1 136 (.istore 5) 2 rfl) [qr 1 (some 0), qi l1, qi l2, qi l3, qi l4, qi r2] (by decide) rfl ?_
          refine mp_iload (i := 5) (x := r2) (dz dl_Mod_pump_2 2 138 (.iload 5) 2 rfl) rfl ?_
          refine mp_if_lt (tgt := 147) (dz dl_Mod_pump_2 3 140 (.ifCond .lt (7)) 3 rfl) (by decide) (fun hc => ?_) (fun hc => ?_)
          · replace h := h.1 hc
            refine mp_iconst (dz dl_Mod_pump_2 6 147 (.iconst (0)) 1 rfl) (v := (0 : Int32)) (by decide) ?_
            refine mp_istore_n (i := 3) (dz dl_Mod_pump_2 7 148 (.istore_n 3) 1 rfl) rfl [qr 1 (some 0), qi l1, qi l2, qi (0 : Int32), qi l4, qi r2] (by decide) rfl ?_
            refine mp_iload_n (i := 3) (x := (0 : Int32)) (dz dl_Mod_pump_2 8 149 (.iload_n 3) 1 rfl) rfl rfl ?_
            refine mp_if_eq (tgt := 184) (dz dl_Mod_pump_2 9 150 (.ifCond .eq (34)) 3 rfl) (by decide) (fun hc => ?_) (fun hc => ?_)
            · replace h := h.1 hc
              refine mp_iinc (i := 4) (v := l4 + 1) (dz dl_Mod_pump_2 29 184 (.iinc 4 (1)) 3 rfl) rfl (congrArg (fun z => l4 + z) (by decide)) [qr 1 (some 0), qi l1, qi l2, qi (0 : Int32), qi (l4 + 1), qi r2] (by decide) rfl ?_
              refine mp_goto (tgt := 76) (dz dl_Mod_pump_2 30 187 (.goto (-111)) 3 rfl) (by decide) ?_
              exact mp_cut h ⟨Or.inr rfl, Or.inr rfl, Or.inr rfl, Or.inr rfl, Or.inr rfl, Or.inl rfl, trivial⟩
            · replace h := h.2 hc
              refine mp_aload_n (i := 0) (v := qr 1 (some 0)) (dz dl_Mod_pump_2 10 153 (.aload_n 0) 1 rfl) rfl rfl trivial ?_
              refine mp_getA (dz dl_Mod_pump_2 11 154 (.getfield 142) 3 rfl) lk_Mod_142 (q := 0) kd_114 rfl sm_114 ?_
              refine mp_iload (i := 4) (x := l4) (dz dl_Mod_pump_2 12 157 (.iload 4) 2 rfl) rfl ?_
              refine mp_dup2 (dz dl_Mod_pump_2 13 159 (.dup2) 1 rfl) ?_
              refine mp_iald (dz dl_Mod_pump_2 14 160 (.iaload) 1 rfl) kd_114 rfl sm_114 i2 ?_
              refine mp_iconst (dz dl_Mod_pump_2 15 161 (.iconst (1)) 1 rfl) (v := (1 : Int32)) (by decide) ?_
              refine mp_iadd (dz dl_Mod_pump_2 16 162 (.iadd) 1 rfl) ?_
              have h := h _ rfl
              refine mp_iast (dz dl_Mod_pump_2 17 163 (.iastore) 1 rfl) kd_114 rfl sm_114 i2 rfl ?_
              refine mp_aload_n (i := 0) (v := qr 1 (some 0)) (dz dl_Mod_pump_2 18 164 (.aload_n 0) 1 rfl) rfl rfl trivial ?_
              refine mp_getA (dz dl_Mod_pump_2 19 165 (.getfield 139) 3 rfl) lk_Mod_139 (q := 0) kd_113 rfl sm_113 ?_
              refine mp_iload (i := 4) (x := l4) (dz dl_Mod_pump_2 20 168 (.iload 4) 2 rfl) rfl ?_
              refine mp_iconst (dz dl_Mod_pump_2 21 170 (.iconst (1)) 1 rfl) (v := (1 : Int32)) (by decide) ?_
              have h := h _ rfl
              refine mp_iast (dz dl_Mod_pump_2 22 171 (.iastore) 1 rfl) kd_113 rfl sm_113 i2 rfl ?_
              refine mp_aload_n (i := 0) (v := qr 1 (some 0)) (dz dl_Mod_pump_2 23 172 (.aload_n 0) 1 rfl) rfl rfl trivial ?_
              refine mp_getA (dz dl_Mod_pump_2 24 173 (.getfield 145) 3 rfl) lk_Mod_145 (q := 0) kd_115 rfl sm_115 ?_
              refine mp_iload (i := 4) (x := l4) (dz dl_Mod_pump_2 25 176 (.iload 4) 2 rfl) rfl ?_
              refine mp_iload (i := 5) (x := r2) (dz dl_Mod_pump_2 26 178 (.iload 5) 2 rfl) rfl ?_
              have h := h _ rfl
              refine mp_iast (dz dl_Mod_pump_2 27 180 (.iastore) 1 rfl) kd_115 rfl sm_115 i2 rfl ?_
              refine mp_iinc (i := 2) (v := l2 + 1) (dz dl_Mod_pump_2 28 181 (.iinc 2 (1)) 3 rfl) rfl (congrArg (fun z => l2 + z) (by decide)) [qr 1 (some 0), qi l1, qi (l2 + 1), qi (0 : Int32), qi l4, qi r2] (by decide) rfl ?_
              refine mp_iinc (i := 4) (v := l4 + 1) (dz dl_Mod_pump_2 29 184 (.iinc 4 (1)) 3 rfl) rfl (congrArg (fun z => l4 + z) (by decide)) [qr 1 (some 0), qi l1, qi (l2 + 1), qi (0 : Int32), qi (l4 + 1), qi r2] (by decide) rfl ?_
              refine mp_goto (tgt := 76) (dz dl_Mod_pump_2 30 187 (.goto (-111)) 3 rfl) (by decide) ?_
              exact mp_cut h ⟨Or.inr rfl, Or.inr rfl, Or.inr rfl, Or.inr rfl, Or.inr rfl, Or.inl rfl, trivial⟩
          · replace h := h.2 hc
            refine mp_iconst (dz dl_Mod_pump_2 4 143 (.iconst (1)) 1 rfl) (v := (1 : Int32)) (by decide) ?_
            refine mp_goto (tgt := 148) (dz dl_Mod_pump_2 5 144 (.goto (4)) 3 rfl) (by decide) ?_
            refine mp_istore_n (i := 3) (dz dl_Mod_pump_2 7 148 (.istore_n 3) 1 rfl) rfl [qr 1 (some 0), qi l1, qi l2, qi (1 : Int32), qi l4, qi r2] (by decide) rfl ?_
            refine mp_iload_n (i := 3) (x := (1 : Int32)) (dz dl_Mod_pump_2 8 149 (.iload_n 3) 1 rfl) rfl rfl ?_
            refine mp_if_eq (tgt := 184) (dz dl_Mod_pump_2 9 150 (.ifCond .eq (34)) 3 rfl) (by decide) (fun hc => ?_) (fun hc => ?_)
            · replace h := h.1 hc
              refine mp_iinc (i := 4) (v := l4 + 1) (dz dl_Mod_pump_2 29 184 (.iinc 4 (1)) 3 rfl) rfl (congrArg (fun z => l4 + z) (by decide)) [qr 1 (some 0), qi l1, qi l2, qi (1 : Int32), qi (l4 + 1), qi r2] (by decide) rfl ?_
              refine mp_goto (tgt := 76) (dz dl_Mod_pump_2 30 187 (.goto (-111)) 3 rfl) (by decide) ?_
              exact mp_cut h ⟨Or.inr rfl, Or.inr rfl, Or.inr rfl, Or.inr rfl, Or.inr rfl, Or.inl rfl, trivial⟩
            · replace h := h.2 hc
              refine mp_aload_n (i := 0) (v := qr 1 (some 0)) (dz dl_Mod_pump_2 10 153 (.aload_n 0) 1 rfl) rfl rfl trivial ?_
              refine mp_getA (dz dl_Mod_pump_2 11 154 (.getfield 142) 3 rfl) lk_Mod_142 (q := 0) kd_114 rfl sm_114 ?_
              refine mp_iload (i := 4) (x := l4) (dz dl_Mod_pump_2 12 157 (.iload 4) 2 rfl) rfl ?_
              refine mp_dup2 (dz dl_Mod_pump_2 13 159 (.dup2) 1 rfl) ?_
              refine mp_iald (dz dl_Mod_pump_2 14 160 (.iaload) 1 rfl) kd_114 rfl sm_114 i2 ?_
              refine mp_iconst (dz dl_Mod_pump_2 15 161 (.iconst (1)) 1 rfl) (v := (1 : Int32)) (by decide) ?_
              refine mp_iadd (dz dl_Mod_pump_2 16 162 (.iadd) 1 rfl) ?_
              have h := h _ rfl
              refine mp_iast (dz dl_Mod_pump_2 17 163 (.iastore) 1 rfl) kd_114 rfl sm_114 i2 rfl ?_
              refine mp_aload_n (i := 0) (v := qr 1 (some 0)) (dz dl_Mod_pump_2 18 164 (.aload_n 0) 1 rfl) rfl rfl trivial ?_
              refine mp_getA (dz dl_Mod_pump_2 19 165 (.getfield 139) 3 rfl) lk_Mod_139 (q := 0) kd_113 rfl sm_113 ?_
              refine mp_iload (i := 4) (x := l4) (dz dl_Mod_pump_2 20 168 (.iload 4) 2 rfl) rfl ?_
              refine mp_iconst (dz dl_Mod_pump_2 21 170 (.iconst (1)) 1 rfl) (v := (1 : Int32)) (by decide) ?_
              have h := h _ rfl
              refine mp_iast (dz dl_Mod_pump_2 22 171 (.iastore) 1 rfl) kd_113 rfl sm_113 i2 rfl ?_
              refine mp_aload_n (i := 0) (v := qr 1 (some 0)) (dz dl_Mod_pump_2 23 172 (.aload_n 0) 1 rfl) rfl rfl trivial ?_
              refine mp_getA (dz dl_Mod_pump_2 24 173 (.getfield 145) 3 rfl) lk_Mod_145 (q := 0) kd_115 rfl sm_115 ?_
              refine mp_iload (i := 4) (x := l4) (dz dl_Mod_pump_2 25 176 (.iload 4) 2 rfl) rfl ?_
              refine mp_iload (i := 5) (x := r2) (dz dl_Mod_pump_2 26 178 (.iload 5) 2 rfl) rfl ?_
              have h := h _ rfl
              refine mp_iast (dz dl_Mod_pump_2 27 180 (.iastore) 1 rfl) kd_115 rfl sm_115 i2 rfl ?_
              refine mp_iinc (i := 2) (v := l2 + 1) (dz dl_Mod_pump_2 28 181 (.iinc 2 (1)) 3 rfl) rfl (congrArg (fun z => l2 + z) (by decide)) [qr 1 (some 0), qi l1, qi (l2 + 1), qi (1 : Int32), qi l4, qi r2] (by decide) rfl ?_
              refine mp_iinc (i := 4) (v := l4 + 1) (dz dl_Mod_pump_2 29 184 (.iinc 4 (1)) 3 rfl) rfl (congrArg (fun z => l4 + z) (by decide)) [qr 1 (some 0), qi l1, qi (l2 + 1), qi (1 : Int32), qi (l4 + 1), qi r2] (by decide) rfl ?_
              refine mp_goto (tgt := 76) (dz dl_Mod_pump_2 30 187 (.goto (-111)) 3 rfl) (by decide) ?_
              exact mp_cut h ⟨Or.inr rfl, Or.inr rfl, Or.inr rfl, Or.inr rfl, Or.inr rfl, Or.inl rfl, trivial⟩

theorem mb_Mod_fetched_0 {u : MS} {l1 : Int32} {l2 : Int32} {Z : Int32 → MS → Prop} (h : mMT M_Mod_isNode [qi l1] u (mI fun r1 u1 => (r1 = 0 → Z (-1 : Int32) u1) ∧ (¬ r1 = 0 → vp_in l1 5 ∧ ((u1 109 l1.toNatClampNeg) = 0 → Z (-1 : Int32) u1) ∧ (¬ (u1 109 l1.toNatClampNeg) = 0 → (l2 < 0 → Z (-1 : Int32) u1) ∧ (¬ l2 < 0 → (l2 ≤ (3 : Int32) → mWP M_Mod_fetched 35 [qr 1 (some 0), qi l1, qi l2, qi (0 : Int32), qi ((10 : Int32) * l1)] [] u1 (mI Z)) ∧ (¬ l2 ≤ (3 : Int32) → Z (-1 : Int32) u1)))))) : mWP M_Mod_fetched 0 [qr 1 (some 0), qi l1, qi l2, none, none] [] u (mI Z) := by
  refine mp_iload_n (i := 1) (x := l1) (dz dl_Mod_fetched_0 0 0 (.iload_n 1) 1 rfl) rfl rfl ?_
  refine mp_callS [qi l1] [] (dz dl_Mod_fetched_0 1 1 (.invokestatic 161) 3 rfl) ok_Mod_isNode lm_Mod_161 ws_Mod_isNode ⟨Nat.le_of_ble_eq_true rfl, Nat.le_of_ble_eq_true rfl⟩ pn_Mod_isNode (Nat.le_of_ble_eq_true rfl) (Nat.le_of_ble_eq_true rfl) (Or.inl rfl) (mmono h ?_)
  rintro _ u1 ⟨r1, rfl, h⟩
  show mWP _ _ _ [qi r1] _ _
  refine mp_if_eq (tgt := 25) (dz dl_Mod_fetched_0 2 4 (.ifCond .eq (21)) 3 rfl) (by decide) (fun hc => ?_) (fun hc => ?_)
  · replace h := h.1 hc
    refine mp_iconst (dz dl_Mod_fetched_0 13 25 (.iconst (-1)) 1 rfl) (v := (-1 : Int32)) (by decide) ?_
    exact mp_rt (qi _) (rt_I rfl (dz dl_Mod_fetched_0 14 26 (.ireturn) 1 rfl)) ⟨_, rfl, h⟩
  · replace h := h.2 hc
    refine mp_aload_n (i := 0) (v := qr 1 (some 0)) (dz dl_Mod_fetched_0 3 7 (.aload_n 0) 1 rfl) rfl rfl trivial ?_
    refine mp_getA (dz dl_Mod_fetched_0 4 8 (.getfield 127) 3 rfl) lk_Mod_127 (q := 0) kd_109 rfl sm_109 ?_
    refine mp_iload_n (i := 1) (x := l1) (dz dl_Mod_fetched_0 5 11 (.iload_n 1) 1 rfl) rfl rfl ?_
    obtain ⟨i1, h⟩ := h
    refine mp_iald (dz dl_Mod_fetched_0 6 12 (.iaload) 1 rfl) kd_109 rfl sm_109 i1 ?_
    refine mp_if_eq (tgt := 25) (dz dl_Mod_fetched_0 7 13 (.ifCond .eq (12)) 3 rfl) (by decide) (fun hc => ?_) (fun hc => ?_)
    · replace h := h.1 hc
      refine mp_iconst (dz dl_Mod_fetched_0 13 25 (.iconst (-1)) 1 rfl) (v := (-1 : Int32)) (by decide) ?_
      exact mp_rt (qi _) (rt_I rfl (dz dl_Mod_fetched_0 14 26 (.ireturn) 1 rfl)) ⟨_, rfl, h⟩
    · replace h := h.2 hc
      refine mp_iload_n (i := 2) (x := l2) (dz dl_Mod_fetched_0 8 16 (.iload_n 2) 1 rfl) rfl rfl ?_
      refine mp_if_lt (tgt := 25) (dz dl_Mod_fetched_0 9 17 (.ifCond .lt (8)) 3 rfl) (by decide) (fun hc => ?_) (fun hc => ?_)
      · replace h := h.1 hc
        refine mp_iconst (dz dl_Mod_fetched_0 13 25 (.iconst (-1)) 1 rfl) (v := (-1 : Int32)) (by decide) ?_
        exact mp_rt (qi _) (rt_I rfl (dz dl_Mod_fetched_0 14 26 (.ireturn) 1 rfl)) ⟨_, rfl, h⟩
      · replace h := h.2 hc
        refine mp_iload_n (i := 2) (x := l2) (dz dl_Mod_fetched_0 10 20 (.iload_n 2) 1 rfl) rfl rfl ?_
        refine mp_iconst (dz dl_Mod_fetched_0 11 21 (.iconst (3)) 1 rfl) (v := (3 : Int32)) (by decide) ?_
        refine mp_icmp_le (tgt := 27) (dz dl_Mod_fetched_0 12 22 (.if_icmp .le (5)) 3 rfl) (by decide) (fun hc => ?_) (fun hc => ?_)
        · replace h := h.1 hc
          refine mp_iconst (dz dl_Mod_fetched_0 15 27 (.iconst (0)) 1 rfl) (v := (0 : Int32)) (by decide) ?_
          refine mp_istore_n (i := 3) (dz dl_Mod_fetched_0 16 28 (.istore_n 3) 1 rfl) rfl [qr 1 (some 0), qi l1, qi l2, qi (0 : Int32), none] (by decide) rfl ?_
          refine mp_bipush (dz dl_Mod_fetched_0 17 29 (.bipush (10)) 2 rfl) (v := (10 : Int32)) (by decide) ?_
          refine mp_iload_n (i := 1) (x := l1) (dz dl_Mod_fetched_0 18 31 (.iload_n 1) 1 rfl) rfl rfl ?_
          refine mp_imul (dz dl_Mod_fetched_0 19 32 (.imul) 1 rfl) ?_
          refine mp_istore (i := 4) (dz dl_Mod_fetched_0 20 33 (.istore 4) 2 rfl) [qr 1 (some 0), qi l1, qi l2, qi (0 : Int32), qi ((10 : Int32) * l1)] (by decide) rfl ?_
          exact mp_cut h ⟨Or.inr rfl, Or.inr rfl, Or.inr rfl, Or.inr rfl, Or.inr rfl, trivial⟩
        · replace h := h.2 hc
          refine mp_iconst (dz dl_Mod_fetched_0 13 25 (.iconst (-1)) 1 rfl) (v := (-1 : Int32)) (by decide) ?_
          exact mp_rt (qi _) (rt_I rfl (dz dl_Mod_fetched_0 14 26 (.ireturn) 1 rfl)) ⟨_, rfl, h⟩
theorem mt_Mod_fetched {u : MS} {l1 : Int32} {l2 : Int32} {Z : Int32 → MS → Prop} (h : mMT M_Mod_isNode [qi l1] u (mI fun r1 u1 => (r1 = 0 → Z (-1 : Int32) u1) ∧ (¬ r1 = 0 → vp_in l1 5 ∧ ((u1 109 l1.toNatClampNeg) = 0 → Z (-1 : Int32) u1) ∧ (¬ (u1 109 l1.toNatClampNeg) = 0 → (l2 < 0 → Z (-1 : Int32) u1) ∧ (¬ l2 < 0 → (l2 ≤ (3 : Int32) → mWP M_Mod_fetched 35 [qr 1 (some 0), qi l1, qi l2, qi (0 : Int32), qi ((10 : Int32) * l1)] [] u1 (mI Z)) ∧ (¬ l2 ≤ (3 : Int32) → Z (-1 : Int32) u1)))))) : mMT M_Mod_fetched [qr 1 (some 0), qi l1, qi l2] u (mI Z) := mb_Mod_fetched_0 h

theorem mb_Mod_fetched_35 {u : MS} {l1 : Int32} {l2 : Int32} {l3 : Int32} {l4 : Int32} {Z : Int32 → MS → Prop} (h : vp_in l1 5 ∧ ((((10 : Int32) * l1) + (u 109 l1.toNatClampNeg)) ≤ l4 → (¬ l2 = 0 → (¬ l2 = (1 : Int32) → (¬ l2 = (2 : Int32) → Z l3 u) ∧ (l2 = (2 : Int32) → ((u 111 l1.toNatClampNeg) = 0 → Z (0 : Int32) u) ∧ (¬ (u 111 l1.toNatClampNeg) = 0 → Z (1 : Int32) u))) ∧ (l2 = (1 : Int32) → mMT M_Mod_inState [qr 1 (some 0), qi l1, qi (1 : Int32)] u (mI fun r1 u1 => Z r1 u1))) ∧ (l2 = 0 → mMT M_Mod_inState [qr 1 (some 0), qi l1, qi (2 : Int32)] u (mI fun r2 u2 => Z r2 u2))) ∧ (¬ (((10 : Int32) * l1) + (u 109 l1.toNatClampNeg)) ≤ l4 → vp_in l4 50 ∧ (¬ (u 113 l4.toNatClampNeg) = (2 : Int32) → mWP M_Mod_fetched 35 [qr 1 (some 0), qi l1, qi l2, qi l3, qi (l4 + 1)] [] u (mI Z)) ∧ ((u 113 l4.toNatClampNeg) = (2 : Int32) → vp_in (u 115 l4.toNatClampNeg) 120 ∧ mWP M_Mod_fetched 35 [qr 1 (some 0), qi l1, qi l2, qi (l3 + (u 108 (u 115 l4.toNatClampNeg).toNatClampNeg)), qi (l4 + 1)] [] u (mI Z)))) : mWP M_Mod_fetched 35 [qr 1 (some 0), qi l1, qi l2, qi l3, qi l4] [] u (mI Z) := by
  refine mp_iload (i := 4) (x := l4) (dz dl_Mod_fetched_0 21 35 (.iload 4) 2 rfl) rfl ?_
  refine mp_bipush (dz dl_Mod_fetched_0 22 37 (.bipush (10)) 2 rfl) (v := (10 : Int32)) (by decide) ?_
  refine mp_iload_n (i := 1) (x := l1) (dz dl_Mod_fetched_0 23 39 (.iload_n 1) 1 rfl) rfl rfl ?_
  refine mp_imul (dz dl_Mod_fetched_0 24 40 (.imul) 1 rfl) ?_
  refine mp_aload_n (i := 0) (v := qr 1 (some 0)) (dz dl_Mod_fetched_0 25 41 (.aload_n 0) 1 rfl) rfl rfl trivial ?_
  refine mp_getA (dz dl_Mod_fetched_0 26 42 (.getfield 127) 3 rfl) lk_Mod_127 (q := 0) kd_109 rfl sm_109 ?_
  refine mp_iload_n (i := 1) (x := l1) (dz dl_Mod_fetched_0 27 45 (.iload_n 1) 1 rfl) rfl rfl ?_
  obtain ⟨i1, h⟩ := h
  refine mp_iald (dz dl_Mod_fetched_0 28 46 (.iaload) 1 rfl) kd_109 rfl sm_109 i1 ?_
  refine mp_iadd (dz dl_Mod_fetched_0 29 47 (.iadd) 1 rfl) ?_
  refine mp_icmp_ge (tgt := 87) (dz dl_Mod_fetched_0 30 48 (.if_icmp .ge (39)) 3 rfl) (by decide) (fun hc => ?_) (fun hc => ?_)
  · replace h := h.1 hc
    refine mp_iload_n (i := 2) (x := l2) (dz dl_Mod_fetched_1 11 87 (.iload_n 2) 1 rfl) rfl rfl ?_
    refine mp_if_ne (tgt := 100) (dz dl_Mod_fetched_1 12 88 (.ifCond .ne (12)) 3 rfl) (by decide) (fun hc => ?_) (fun hc => ?_)
    · replace h := h.1 hc
      refine mp_iload_n (i := 2) (x := l2) (dz dl_Mod_fetched_1 18 100 (.iload_n 2) 1 rfl) rfl rfl ?_
      refine mp_iconst (dz dl_Mod_fetched_1 19 101 (.iconst (1)) 1 rfl) (v := (1 : Int32)) (by decide) ?_
      refine mp_icmp_ne (tgt := 114) (dz dl_Mod_fetched_1 20 102 (.if_icmp .ne (12)) 3 rfl) (by decide) (fun hc => ?_) (fun hc => ?_)
      · replace h := h.1 hc
        refine mp_iload_n (i := 2) (x := l2) (dz dl_Mod_fetched_1 26 114 (.iload_n 2) 1 rfl) rfl rfl ?_
        refine mp_iconst (dz dl_Mod_fetched_1 27 115 (.iconst (2)) 1 rfl) (v := (2 : Int32)) (by decide) ?_
        refine mp_icmp_ne (tgt := 136) (dz dl_Mod_fetched_1 28 116 (.if_icmp .ne (20)) 3 rfl) (by decide) (fun hc => ?_) (fun hc => ?_)
        · replace h := h.1 hc
          refine mp_iload_n (i := 3) (x := l3) (dz dl_Mod_fetched_1 38 136 (.iload_n 3) 1 rfl) rfl rfl ?_
          exact mp_rt (qi _) (rt_I rfl (dz dl_Mod_fetched_1 39 137 (.ireturn) 1 rfl)) ⟨_, rfl, h⟩
        · replace h := h.2 hc
          refine mp_aload_n (i := 0) (v := qr 1 (some 0)) (dz dl_Mod_fetched_1 29 119 (.aload_n 0) 1 rfl) rfl rfl trivial ?_
          refine mp_getA (dz dl_Mod_fetched_1 30 120 (.getfield 133) 3 rfl) lk_Mod_133 (q := 0) kd_111 rfl sm_111 ?_
          refine mp_iload_n (i := 1) (x := l1) (dz dl_Mod_fetched_1 31 123 (.iload_n 1) 1 rfl) rfl rfl ?_
          refine mp_zald (dz dl_Mod_fetched_1 32 124 (.baload) 1 rfl) kd_111 rfl sm_111 i1 ?_
          refine mp_if_eq (tgt := 132) (dz dl_Mod_fetched_1 33 125 (.ifCond .eq (7)) 3 rfl) (by decide) (fun hc => ?_) (fun hc => ?_)
          · replace h := h.1 hc
            refine mp_iconst (dz dl_Mod_fetched_1 36 132 (.iconst (0)) 1 rfl) (v := (0 : Int32)) (by decide) ?_
            refine mp_goto (tgt := 137) (dz dl_Mod_fetched_1 37 133 (.goto (4)) 3 rfl) (by decide) ?_
            exact mp_rt (qi _) (rt_I rfl (dz dl_Mod_fetched_1 39 137 (.ireturn) 1 rfl)) ⟨_, rfl, h⟩
          · replace h := h.2 hc
            refine mp_iconst (dz dl_Mod_fetched_1 34 128 (.iconst (1)) 1 rfl) (v := (1 : Int32)) (by decide) ?_
            refine mp_goto (tgt := 137) (dz dl_Mod_fetched_1 35 129 (.goto (8)) 3 rfl) (by decide) ?_
            exact mp_rt (qi _) (rt_I rfl (dz dl_Mod_fetched_1 39 137 (.ireturn) 1 rfl)) ⟨_, rfl, h⟩
      · replace h := h.2 hc
        refine mp_aload_n (i := 0) (v := qr 1 (some 0)) (dz dl_Mod_fetched_1 21 105 (.aload_n 0) 1 rfl) rfl rfl trivial ?_
        refine mp_iload_n (i := 1) (x := l1) (dz dl_Mod_fetched_1 22 106 (.iload_n 1) 1 rfl) rfl rfl ?_
        refine mp_iconst (dz dl_Mod_fetched_1 23 107 (.iconst (1)) 1 rfl) (v := (1 : Int32)) (by decide) ?_
        refine mp_callV [qi l1, qi (1 : Int32)] [] (dz dl_Mod_fetched_1 24 108 (.invokevirtual 312) 3 rfl) ok_Mod_inState lm_Mod_312 ws_Mod_inState wv_Mod_inState ⟨Nat.le_of_ble_eq_true rfl, Nat.le_of_ble_eq_true rfl⟩ pn_Mod_inState (Nat.le_of_ble_eq_true rfl) (Nat.le_of_ble_eq_true rfl) (Or.inl rfl) (mmono h ?_)
        rintro _ u1 ⟨r1, rfl, h⟩
        show mWP _ _ _ [qi r1] _ _
        refine mp_goto (tgt := 137) (dz dl_Mod_fetched_1 25 111 (.goto (26)) 3 rfl) (by decide) ?_
        exact mp_rt (qi _) (rt_I rfl (dz dl_Mod_fetched_1 39 137 (.ireturn) 1 rfl)) ⟨_, rfl, h⟩
    · replace h := h.2 hc
      refine mp_aload_n (i := 0) (v := qr 1 (some 0)) (dz dl_Mod_fetched_1 13 91 (.aload_n 0) 1 rfl) rfl rfl trivial ?_
      refine mp_iload_n (i := 1) (x := l1) (dz dl_Mod_fetched_1 14 92 (.iload_n 1) 1 rfl) rfl rfl ?_
      refine mp_iconst (dz dl_Mod_fetched_1 15 93 (.iconst (2)) 1 rfl) (v := (2 : Int32)) (by decide) ?_
      refine mp_callV [qi l1, qi (2 : Int32)] [] (dz dl_Mod_fetched_1 16 94 (.invokevirtual 312) 3 rfl) ok_Mod_inState lm_Mod_312 ws_Mod_inState wv_Mod_inState ⟨Nat.le_of_ble_eq_true rfl, Nat.le_of_ble_eq_true rfl⟩ pn_Mod_inState (Nat.le_of_ble_eq_true rfl) (Nat.le_of_ble_eq_true rfl) (Or.inl rfl) (mmono h ?_)
      rintro _ u2 ⟨r2, rfl, h⟩
      show mWP _ _ _ [qi r2] _ _
      refine mp_goto (tgt := 137) (dz dl_Mod_fetched_1 17 97 (.goto (40)) 3 rfl) (by decide) ?_
      exact mp_rt (qi _) (rt_I rfl (dz dl_Mod_fetched_1 39 137 (.ireturn) 1 rfl)) ⟨_, rfl, h⟩
  · replace h := h.2 hc
    refine mp_aload_n (i := 0) (v := qr 1 (some 0)) (dz dl_Mod_fetched_0 31 51 (.aload_n 0) 1 rfl) rfl rfl trivial ?_
    refine mp_getA (dz dl_Mod_fetched_0 32 52 (.getfield 139) 3 rfl) lk_Mod_139 (q := 0) kd_113 rfl sm_113 ?_
    refine mp_iload (i := 4) (x := l4) (dz dl_Mod_fetched_0 33 55 (.iload 4) 2 rfl) rfl ?_
    obtain ⟨i2, h⟩ := h
    refine mp_iald (dz dl_Mod_fetched_0 34 57 (.iaload) 1 rfl) kd_113 rfl sm_113 i2 ?_
    refine mp_iconst (dz dl_Mod_fetched_0 35 58 (.iconst (2)) 1 rfl) (v := (2 : Int32)) (by decide) ?_
    refine mp_icmp_ne (tgt := 79) (dz dl_Mod_fetched_0 36 59 (.if_icmp .ne (20)) 3 rfl) (by decide) (fun hc => ?_) (fun hc => ?_)
    · replace h := h.1 hc
      refine mp_iload_n (i := 3) (x := l3) (dz dl_Mod_fetched_1 7 79 (.iload_n 3) 1 rfl) rfl rfl ?_
      refine mp_istore_n (i := 3) (dz dl_Mod_fetched_1 8 80 (.istore_n 3) 1 rfl) rfl [qr 1 (some 0), qi l1, qi l2, qi l3, qi l4] (by decide) rfl ?_
      refine mp_iinc (i := 4) (v := l4 + 1) (dz dl_Mod_fetched_1 9 81 (.iinc 4 (1)) 3 rfl) rfl (congrArg (fun z => l4 + z) (by decide)) [qr 1 (some 0), qi l1, qi l2, qi l3, qi (l4 + 1)] (by decide) rfl ?_
      refine mp_goto (tgt := 35) (dz dl_Mod_fetched_1 10 84 (.goto (-49)) 3 rfl) (by decide) ?_
      exact mp_cut h ⟨Or.inr rfl, Or.inr rfl, Or.inr rfl, Or.inr rfl, Or.inr rfl, trivial⟩
    · replace h := h.2 hc
      refine mp_iload_n (i := 3) (x := l3) (dz dl_Mod_fetched_0 37 62 (.iload_n 3) 1 rfl) rfl rfl ?_
      refine mp_aload_n (i := 0) (v := qr 1 (some 0)) (dz dl_Mod_fetched_0 38 63 (.aload_n 0) 1 rfl) rfl rfl trivial ?_
      refine mp_getA (dz dl_Mod_fetched_0 39 64 (.getfield 124) 3 rfl) lk_Mod_124 (q := 0) kd_108 rfl sm_108 ?_
      refine mp_aload_n (i := 0) (v := qr 1 (some 0)) (dz dl_Mod_fetched_1 0 67 (.aload_n 0) 1 rfl) rfl rfl trivial ?_
      refine mp_getA (dz dl_Mod_fetched_1 1 68 (.getfield 145) 3 rfl) lk_Mod_145 (q := 0) kd_115 rfl sm_115 ?_
      refine mp_iload (i := 4) (x := l4) (dz dl_Mod_fetched_1 2 71 (.iload 4) 2 rfl) rfl ?_
      refine mp_iald (dz dl_Mod_fetched_1 3 73 (.iaload) 1 rfl) kd_115 rfl sm_115 i2 ?_
      obtain ⟨i3, h⟩ := h
      refine mp_iald (dz dl_Mod_fetched_1 4 74 (.iaload) 1 rfl) kd_108 rfl sm_108 i3 ?_
      refine mp_iadd (dz dl_Mod_fetched_1 5 75 (.iadd) 1 rfl) ?_
      refine mp_goto (tgt := 80) (dz dl_Mod_fetched_1 6 76 (.goto (4)) 3 rfl) (by decide) ?_
      refine mp_istore_n (i := 3) (dz dl_Mod_fetched_1 8 80 (.istore_n 3) 1 rfl) rfl [qr 1 (some 0), qi l1, qi l2, qi (l3 + (u 108 (u 115 l4.toNatClampNeg).toNatClampNeg)), qi l4] (by decide) rfl ?_
      refine mp_iinc (i := 4) (v := l4 + 1) (dz dl_Mod_fetched_1 9 81 (.iinc 4 (1)) 3 rfl) rfl (congrArg (fun z => l4 + z) (by decide)) [qr 1 (some 0), qi l1, qi l2, qi (l3 + (u 108 (u 115 l4.toNatClampNeg).toNatClampNeg)), qi (l4 + 1)] (by decide) rfl ?_
      refine mp_goto (tgt := 35) (dz dl_Mod_fetched_1 10 84 (.goto (-49)) 3 rfl) (by decide) ?_
      exact mp_cut h ⟨Or.inr rfl, Or.inr rfl, Or.inr rfl, Or.inr rfl, Or.inr rfl, trivial⟩

theorem mb_Mod_waiting_0 {u : MS} {l1 : Int32} {l2 : Int32} {Z : Int32 → MS → Prop} (h : mMT M_Mod_isNode [qi l1] u (mI fun r1 u1 => (r1 = 0 → Z (-1 : Int32) u1) ∧ (¬ r1 = 0 → (l2 < 0 → Z (-1 : Int32) u1) ∧ (¬ l2 < 0 → (l2 ≤ (5 : Int32) → (¬ l2 = 0 → (¬ l2 = (1 : Int32) → vp_in ((((4 : Int32) * l1) + l2) - (2 : Int32)) 20 ∧ Z (u1 76 ((((4 : Int32) * l1) + l2) - (2 : Int32)).toNatClampNeg) u1) ∧ (l2 = (1 : Int32) → vp_in l1 5 ∧ Z (u1 84 l1.toNatClampNeg) u1)) ∧ (l2 = 0 → vp_in l1 5 ∧ Z (u1 92 l1.toNatClampNeg) u1)) ∧ (¬ l2 ≤ (5 : Int32) → Z (-1 : Int32) u1))))) : mWP M_Mod_waiting 0 [qr 1 (some 0), qi l1, qi l2] [] u (mI Z) := by
  refine mp_iload_n (i := 1) (x := l1) (dz dl_Mod_waiting_0 0 0 (.iload_n 1) 1 rfl) rfl rfl ?_
  refine mp_callS [qi l1] [] (dz dl_Mod_waiting_0 1 1 (.invokestatic 161) 3 rfl) ok_Mod_isNode lm_Mod_161 ws_Mod_isNode ⟨Nat.le_of_ble_eq_true rfl, Nat.le_of_ble_eq_true rfl⟩ pn_Mod_isNode (Nat.le_of_ble_eq_true rfl) (Nat.le_of_ble_eq_true rfl) (Or.inl rfl) (mmono h ?_)
  rintro _ u1 ⟨r1, rfl, h⟩
  show mWP _ _ _ [qi r1] _ _
  refine mp_if_eq (tgt := 16) (dz dl_Mod_waiting_0 2 4 (.ifCond .eq (12)) 3 rfl) (by decide) (fun hc => ?_) (fun hc => ?_)
  · replace h := h.1 hc
    refine mp_iconst (dz dl_Mod_waiting_0 8 16 (.iconst (-1)) 1 rfl) (v := (-1 : Int32)) (by decide) ?_
    exact mp_rt (qi _) (rt_I rfl (dz dl_Mod_waiting_0 9 17 (.ireturn) 1 rfl)) ⟨_, rfl, h⟩
  · replace h := h.2 hc
    refine mp_iload_n (i := 2) (x := l2) (dz dl_Mod_waiting_0 3 7 (.iload_n 2) 1 rfl) rfl rfl ?_
    refine mp_if_lt (tgt := 16) (dz dl_Mod_waiting_0 4 8 (.ifCond .lt (8)) 3 rfl) (by decide) (fun hc => ?_) (fun hc => ?_)
    · replace h := h.1 hc
      refine mp_iconst (dz dl_Mod_waiting_0 8 16 (.iconst (-1)) 1 rfl) (v := (-1 : Int32)) (by decide) ?_
      exact mp_rt (qi _) (rt_I rfl (dz dl_Mod_waiting_0 9 17 (.ireturn) 1 rfl)) ⟨_, rfl, h⟩
    · replace h := h.2 hc
      refine mp_iload_n (i := 2) (x := l2) (dz dl_Mod_waiting_0 5 11 (.iload_n 2) 1 rfl) rfl rfl ?_
      refine mp_iconst (dz dl_Mod_waiting_0 6 12 (.iconst (5)) 1 rfl) (v := (5 : Int32)) (by decide) ?_
      refine mp_icmp_le (tgt := 18) (dz dl_Mod_waiting_0 7 13 (.if_icmp .le (5)) 3 rfl) (by decide) (fun hc => ?_) (fun hc => ?_)
      · replace h := h.1 hc
        refine mp_iload_n (i := 2) (x := l2) (dz dl_Mod_waiting_0 10 18 (.iload_n 2) 1 rfl) rfl rfl ?_
        refine mp_if_ne (tgt := 31) (dz dl_Mod_waiting_0 11 19 (.ifCond .ne (12)) 3 rfl) (by decide) (fun hc => ?_) (fun hc => ?_)
        · replace h := h.1 hc
          refine mp_iload_n (i := 2) (x := l2) (dz dl_Mod_waiting_0 17 31 (.iload_n 2) 1 rfl) rfl rfl ?_
          refine mp_iconst (dz dl_Mod_waiting_0 18 32 (.iconst (1)) 1 rfl) (v := (1 : Int32)) (by decide) ?_
          refine mp_icmp_ne (tgt := 45) (dz dl_Mod_waiting_0 19 33 (.if_icmp .ne (12)) 3 rfl) (by decide) (fun hc => ?_) (fun hc => ?_)
          · replace h := h.1 hc
            refine mp_aload_n (i := 0) (v := qr 1 (some 0)) (dz dl_Mod_waiting_0 25 45 (.aload_n 0) 1 rfl) rfl rfl trivial ?_
            refine mp_getA (dz dl_Mod_waiting_0 26 46 (.getfield 34) 3 rfl) lk_Mod_34 (q := 0) kd_76 rfl sm_76 ?_
            refine mp_iconst (dz dl_Mod_waiting_0 27 49 (.iconst (4)) 1 rfl) (v := (4 : Int32)) (by decide) ?_
            refine mp_iload_n (i := 1) (x := l1) (dz dl_Mod_waiting_0 28 50 (.iload_n 1) 1 rfl) rfl rfl ?_
            refine mp_imul (dz dl_Mod_waiting_0 29 51 (.imul) 1 rfl) ?_
            refine mp_iload_n (i := 2) (x := l2) (dz dl_Mod_waiting_0 30 52 (.iload_n 2) 1 rfl) rfl rfl ?_
            refine mp_iadd (dz dl_Mod_waiting_0 31 53 (.iadd) 1 rfl) ?_
            refine mp_iconst (dz dl_Mod_waiting_0 32 54 (.iconst (2)) 1 rfl) (v := (2 : Int32)) (by decide) ?_
            refine mp_isub (dz dl_Mod_waiting_0 33 55 (.isub) 1 rfl) ?_
            obtain ⟨i1, h⟩ := h
            refine mp_iald (dz dl_Mod_waiting_0 34 56 (.iaload) 1 rfl) kd_76 rfl sm_76 i1 ?_
            exact mp_rt (qi _) (rt_I rfl (dz dl_Mod_waiting_0 35 57 (.ireturn) 1 rfl)) ⟨_, rfl, h⟩
          · replace h := h.2 hc
            refine mp_aload_n (i := 0) (v := qr 1 (some 0)) (dz dl_Mod_waiting_0 20 36 (.aload_n 0) 1 rfl) rfl rfl trivial ?_
            refine mp_getA (dz dl_Mod_waiting_0 21 37 (.getfield 55) 3 rfl) lk_Mod_55 (q := 0) kd_84 rfl sm_84 ?_
            refine mp_iload_n (i := 1) (x := l1) (dz dl_Mod_waiting_0 22 40 (.iload_n 1) 1 rfl) rfl rfl ?_
            obtain ⟨i2, h⟩ := h
            refine mp_iald (dz dl_Mod_waiting_0 23 41 (.iaload) 1 rfl) kd_84 rfl sm_84 i2 ?_
            refine mp_goto (tgt := 57) (dz dl_Mod_waiting_0 24 42 (.goto (15)) 3 rfl) (by decide) ?_
            exact mp_rt (qi _) (rt_I rfl (dz dl_Mod_waiting_0 35 57 (.ireturn) 1 rfl)) ⟨_, rfl, h⟩
        · replace h := h.2 hc
          refine mp_aload_n (i := 0) (v := qr 1 (some 0)) (dz dl_Mod_waiting_0 12 22 (.aload_n 0) 1 rfl) rfl rfl trivial ?_
          refine mp_getA (dz dl_Mod_waiting_0 13 23 (.getfield 79) 3 rfl) lk_Mod_79 (q := 0) kd_92 rfl sm_92 ?_
          refine mp_iload_n (i := 1) (x := l1) (dz dl_Mod_waiting_0 14 26 (.iload_n 1) 1 rfl) rfl rfl ?_
          obtain ⟨i3, h⟩ := h
          refine mp_iald (dz dl_Mod_waiting_0 15 27 (.iaload) 1 rfl) kd_92 rfl sm_92 i3 ?_
          refine mp_goto (tgt := 57) (dz dl_Mod_waiting_0 16 28 (.goto (29)) 3 rfl) (by decide) ?_
          exact mp_rt (qi _) (rt_I rfl (dz dl_Mod_waiting_0 35 57 (.ireturn) 1 rfl)) ⟨_, rfl, h⟩
      · replace h := h.2 hc
        refine mp_iconst (dz dl_Mod_waiting_0 8 16 (.iconst (-1)) 1 rfl) (v := (-1 : Int32)) (by decide) ?_
        exact mp_rt (qi _) (rt_I rfl (dz dl_Mod_waiting_0 9 17 (.ireturn) 1 rfl)) ⟨_, rfl, h⟩
theorem mt_Mod_waiting {u : MS} {l1 : Int32} {l2 : Int32} {Z : Int32 → MS → Prop} (h : mMT M_Mod_isNode [qi l1] u (mI fun r1 u1 => (r1 = 0 → Z (-1 : Int32) u1) ∧ (¬ r1 = 0 → (l2 < 0 → Z (-1 : Int32) u1) ∧ (¬ l2 < 0 → (l2 ≤ (5 : Int32) → (¬ l2 = 0 → (¬ l2 = (1 : Int32) → vp_in ((((4 : Int32) * l1) + l2) - (2 : Int32)) 20 ∧ Z (u1 76 ((((4 : Int32) * l1) + l2) - (2 : Int32)).toNatClampNeg) u1) ∧ (l2 = (1 : Int32) → vp_in l1 5 ∧ Z (u1 84 l1.toNatClampNeg) u1)) ∧ (l2 = 0 → vp_in l1 5 ∧ Z (u1 92 l1.toNatClampNeg) u1)) ∧ (¬ l2 ≤ (5 : Int32) → Z (-1 : Int32) u1))))) : mMT M_Mod_waiting [qr 1 (some 0), qi l1, qi l2] u (mI Z) := mb_Mod_waiting_0 h

theorem mb_Mod_request_0 {u : MS} {l1 : Int32} {l2 : Int32} {Z : Int32 → MS → Prop} (h : (l1 < 0 → Z (-1 : Int32) u) ∧ (¬ l1 < 0 → ((u 101 0) ≤ l1 → Z (-1 : Int32) u) ∧ (¬ (u 101 0) ≤ l1 → (l2 < 0 → Z (-1 : Int32) u) ∧ (¬ l2 < 0 → (l2 ≤ (2 : Int32) → (¬ l2 = 0 → (¬ l2 = (1 : Int32) → vp_in l1 120 ∧ Z (u 108 l1.toNatClampNeg) u) ∧ (l2 = (1 : Int32) → vp_in l1 120 ∧ Z (u 107 l1.toNatClampNeg) u)) ∧ (l2 = 0 → vp_in l1 120 ∧ Z (u 105 l1.toNatClampNeg) u)) ∧ (¬ l2 ≤ (2 : Int32) → Z (-1 : Int32) u))))) : mWP M_Mod_request 0 [qr 1 (some 0), qi l1, qi l2] [] u (mI Z) := by
  refine mp_iload_n (i := 1) (x := l1) (dz dl_Mod_request_0 0 0 (.iload_n 1) 1 rfl) rfl rfl ?_
  refine mp_if_lt (tgt := 21) (dz dl_Mod_request_0 1 1 (.ifCond .lt (20)) 3 rfl) (by decide) (fun hc => ?_) (fun hc => ?_)
  · replace h := h.1 hc
    refine mp_iconst (dz dl_Mod_request_0 11 21 (.iconst (-1)) 1 rfl) (v := (-1 : Int32)) (by decide) ?_
    exact mp_rt (qi _) (rt_I rfl (dz dl_Mod_request_0 12 22 (.ireturn) 1 rfl)) ⟨_, rfl, h⟩
  · replace h := h.2 hc
    refine mp_iload_n (i := 1) (x := l1) (dz dl_Mod_request_0 2 4 (.iload_n 1) 1 rfl) rfl rfl ?_
    refine mp_aload_n (i := 0) (v := qr 1 (some 0)) (dz dl_Mod_request_0 3 5 (.aload_n 0) 1 rfl) rfl rfl trivial ?_
    refine mp_getI (dz dl_Mod_request_0 4 6 (.getfield 260) 3 rfl) lk_Mod_260 kd_101 rfl ?_
    refine mp_icmp_ge (tgt := 21) (dz dl_Mod_request_0 5 9 (.if_icmp .ge (12)) 3 rfl) (by decide) (fun hc => ?_) (fun hc => ?_)
    · replace h := h.1 hc
      refine mp_iconst (dz dl_Mod_request_0 11 21 (.iconst (-1)) 1 rfl) (v := (-1 : Int32)) (by decide) ?_
      exact mp_rt (qi _) (rt_I rfl (dz dl_Mod_request_0 12 22 (.ireturn) 1 rfl)) ⟨_, rfl, h⟩
    · replace h := h.2 hc
      refine mp_iload_n (i := 2) (x := l2) (dz dl_Mod_request_0 6 12 (.iload_n 2) 1 rfl) rfl rfl ?_
      refine mp_if_lt (tgt := 21) (dz dl_Mod_request_0 7 13 (.ifCond .lt (8)) 3 rfl) (by decide) (fun hc => ?_) (fun hc => ?_)
      · replace h := h.1 hc
        refine mp_iconst (dz dl_Mod_request_0 11 21 (.iconst (-1)) 1 rfl) (v := (-1 : Int32)) (by decide) ?_
        exact mp_rt (qi _) (rt_I rfl (dz dl_Mod_request_0 12 22 (.ireturn) 1 rfl)) ⟨_, rfl, h⟩
      · replace h := h.2 hc
        refine mp_iload_n (i := 2) (x := l2) (dz dl_Mod_request_0 8 16 (.iload_n 2) 1 rfl) rfl rfl ?_
        refine mp_iconst (dz dl_Mod_request_0 9 17 (.iconst (2)) 1 rfl) (v := (2 : Int32)) (by decide) ?_
        refine mp_icmp_le (tgt := 23) (dz dl_Mod_request_0 10 18 (.if_icmp .le (5)) 3 rfl) (by decide) (fun hc => ?_) (fun hc => ?_)
        · replace h := h.1 hc
          refine mp_iload_n (i := 2) (x := l2) (dz dl_Mod_request_0 13 23 (.iload_n 2) 1 rfl) rfl rfl ?_
          refine mp_if_ne (tgt := 36) (dz dl_Mod_request_0 14 24 (.ifCond .ne (12)) 3 rfl) (by decide) (fun hc => ?_) (fun hc => ?_)
          · replace h := h.1 hc
            refine mp_iload_n (i := 2) (x := l2) (dz dl_Mod_request_0 20 36 (.iload_n 2) 1 rfl) rfl rfl ?_
            refine mp_iconst (dz dl_Mod_request_0 21 37 (.iconst (1)) 1 rfl) (v := (1 : Int32)) (by decide) ?_
            refine mp_icmp_ne (tgt := 50) (dz dl_Mod_request_0 22 38 (.if_icmp .ne (12)) 3 rfl) (by decide) (fun hc => ?_) (fun hc => ?_)
            · replace h := h.1 hc
              refine mp_aload_n (i := 0) (v := qr 1 (some 0)) (dz dl_Mod_request_0 28 50 (.aload_n 0) 1 rfl) rfl rfl trivial ?_
              refine mp_getA (dz dl_Mod_request_0 29 51 (.getfield 124) 3 rfl) lk_Mod_124 (q := 0) kd_108 rfl sm_108 ?_
              refine mp_iload_n (i := 1) (x := l1) (dz dl_Mod_request_0 30 54 (.iload_n 1) 1 rfl) rfl rfl ?_
              obtain ⟨i1, h⟩ := h
              refine mp_iald (dz dl_Mod_request_0 31 55 (.iaload) 1 rfl) kd_108 rfl sm_108 i1 ?_
              exact mp_rt (qi _) (rt_I rfl (dz dl_Mod_request_0 32 56 (.ireturn) 1 rfl)) ⟨_, rfl, h⟩
            · replace h := h.2 hc
              refine mp_aload_n (i := 0) (v := qr 1 (some 0)) (dz dl_Mod_request_0 23 41 (.aload_n 0) 1 rfl) rfl rfl trivial ?_
              refine mp_getA (dz dl_Mod_request_0 24 42 (.getfield 121) 3 rfl) lk_Mod_121 (q := 0) kd_107 rfl sm_107 ?_
              refine mp_iload_n (i := 1) (x := l1) (dz dl_Mod_request_0 25 45 (.iload_n 1) 1 rfl) rfl rfl ?_
              obtain ⟨i2, h⟩ := h
              refine mp_iald (dz dl_Mod_request_0 26 46 (.iaload) 1 rfl) kd_107 rfl sm_107 i2 ?_
              refine mp_goto (tgt := 56) (dz dl_Mod_request_0 27 47 (.goto (9)) 3 rfl) (by decide) ?_
              exact mp_rt (qi _) (rt_I rfl (dz dl_Mod_request_0 32 56 (.ireturn) 1 rfl)) ⟨_, rfl, h⟩
          · replace h := h.2 hc
            refine mp_aload_n (i := 0) (v := qr 1 (some 0)) (dz dl_Mod_request_0 15 27 (.aload_n 0) 1 rfl) rfl rfl trivial ?_
            refine mp_getA (dz dl_Mod_request_0 16 28 (.getfield 115) 3 rfl) lk_Mod_115 (q := 0) kd_105 rfl sm_105 ?_
            refine mp_iload_n (i := 1) (x := l1) (dz dl_Mod_request_0 17 31 (.iload_n 1) 1 rfl) rfl rfl ?_
            obtain ⟨i3, h⟩ := h
            refine mp_iald (dz dl_Mod_request_0 18 32 (.iaload) 1 rfl) kd_105 rfl sm_105 i3 ?_
            refine mp_goto (tgt := 56) (dz dl_Mod_request_0 19 33 (.goto (23)) 3 rfl) (by decide) ?_
            exact mp_rt (qi _) (rt_I rfl (dz dl_Mod_request_0 32 56 (.ireturn) 1 rfl)) ⟨_, rfl, h⟩
        · replace h := h.2 hc
          refine mp_iconst (dz dl_Mod_request_0 11 21 (.iconst (-1)) 1 rfl) (v := (-1 : Int32)) (by decide) ?_
          exact mp_rt (qi _) (rt_I rfl (dz dl_Mod_request_0 12 22 (.ireturn) 1 rfl)) ⟨_, rfl, h⟩
theorem mt_Mod_request {u : MS} {l1 : Int32} {l2 : Int32} {Z : Int32 → MS → Prop} (h : (l1 < 0 → Z (-1 : Int32) u) ∧ (¬ l1 < 0 → ((u 101 0) ≤ l1 → Z (-1 : Int32) u) ∧ (¬ (u 101 0) ≤ l1 → (l2 < 0 → Z (-1 : Int32) u) ∧ (¬ l2 < 0 → (l2 ≤ (2 : Int32) → (¬ l2 = 0 → (¬ l2 = (1 : Int32) → vp_in l1 120 ∧ Z (u 108 l1.toNatClampNeg) u) ∧ (l2 = (1 : Int32) → vp_in l1 120 ∧ Z (u 107 l1.toNatClampNeg) u)) ∧ (l2 = 0 → vp_in l1 120 ∧ Z (u 105 l1.toNatClampNeg) u)) ∧ (¬ l2 ≤ (2 : Int32) → Z (-1 : Int32) u))))) : mMT M_Mod_request [qr 1 (some 0), qi l1, qi l2] u (mI Z) := mb_Mod_request_0 h
