theorem b_Entry_init_0 {X : Nat × (Nat → Int32)} {k : Nat} {g : sg} {l0 : Nat} {Z : sg → Prop} (h : 1 ≤ k ∧ gA g 131 l0 = none ∧ ∀ g1, g1 = pA g 131 l0 5 → 1 ≤ (k - 1) ∧ gA g1 132 l0 = none ∧ ∀ g2, g2 = pA g1 132 l0 5 → 1 ≤ (k - 1 - 1) ∧ gA g2 133 l0 = none ∧ ∀ g3, g3 = pA g2 133 l0 5 → 1 ≤ (k - 1 - 1 - 1) ∧ gA g3 134 l0 = none ∧ ∀ g4, g4 = pA g3 134 l0 5 → Z g4) : nnWP X M_Entry_init k 0 [qr 2 (some l0)] [] g (zV Z) := by
  refine wp_aload_n (i := 0) (v := qr 2 (some l0)) (dz dl_Entry_init_0 0 0 (.aload_n 0) 1 rfl) rfl rfl trivial ?_
  refine wp_objInit l0 (dz dl_Entry_init_0 1 1 (.invokespecial 3) 3 rfl) wm_Entry_3 w_oi w_oc (by decide) (by decide) (Nat.le_of_ble_eq_true rfl) rfl ?_
  refine wp_aload_n (i := 0) (v := qr 2 (some l0)) (dz dl_Entry_init_0 2 4 (.aload_n 0) 1 rfl) rfl rfl trivial ?_
  refine wp_iconst (dz dl_Entry_init_0 3 5 (.iconst (5)) 1 rfl) (v := (5 : Int32)) (by decide) ?_
  obtain ⟨u1, h⟩ := h
  obtain ⟨q1, h⟩ := h
  have h := h _ rfl
  refine wp_newA (n := 5) l0 1 (dz dl_Entry_init_0 4 6 (.newarray .int) 2 rfl) (dz dl_Entry_init_0 5 8 (.putfield 9) 3 rfl) wf_Entry_9 kd_131 rfl (by decide) (by decide) wa_0 rfl rfl rfl (by decide) (by decide) (by decide) u1 q1 rfl ?_
  refine wp_aload_n (i := 0) (v := qr 2 (some l0)) (dz dl_Entry_init_0 6 11 (.aload_n 0) 1 rfl) rfl rfl trivial ?_
  refine wp_iconst (dz dl_Entry_init_0 7 12 (.iconst (5)) 1 rfl) (v := (5 : Int32)) (by decide) ?_
  obtain ⟨u2, h⟩ := h
  obtain ⟨q2, h⟩ := h
  have h := h _ rfl
  refine wp_newA (n := 5) l0 1 (dz dl_Entry_init_0 8 13 (.newarray .int) 2 rfl) (dz dl_Entry_init_0 9 15 (.putfield 15) 3 rfl) wf_Entry_15 kd_132 rfl (by decide) (by decide) wa_0 rfl rfl rfl (by decide) (by decide) (by decide) u2 q2 rfl ?_
  refine wp_aload_n (i := 0) (v := qr 2 (some l0)) (dz dl_Entry_init_0 10 18 (.aload_n 0) 1 rfl) rfl rfl trivial ?_
  refine wp_iconst (dz dl_Entry_init_0 11 19 (.iconst (5)) 1 rfl) (v := (5 : Int32)) (by decide) ?_
  obtain ⟨u3, h⟩ := h
  obtain ⟨q3, h⟩ := h
  have h := h _ rfl
  refine wp_newA (n := 5) l0 1 (dz dl_Entry_init_0 12 20 (.newarray .int) 2 rfl) (dz dl_Entry_init_0 13 22 (.putfield 18) 3 rfl) wf_Entry_18 kd_133 rfl (by decide) (by decide) wa_0 rfl rfl rfl (by decide) (by decide) (by decide) u3 q3 rfl ?_
  refine wp_aload_n (i := 0) (v := qr 2 (some l0)) (dz dl_Entry_init_0 14 25 (.aload_n 0) 1 rfl) rfl rfl trivial ?_
  refine wp_iconst (dz dl_Entry_init_0 15 26 (.iconst (5)) 1 rfl) (v := (5 : Int32)) (by decide) ?_
  obtain ⟨u4, h⟩ := h
  obtain ⟨q4, h⟩ := h
  have h := h _ rfl
  refine wp_newA (n := 5) l0 1 (dz dl_Entry_init_0 16 27 (.newarray .boolean) 2 rfl) (dz dl_Entry_init_0 17 29 (.putfield 21) 3 rfl) wf_Entry_21 kd_134 rfl (by decide) (by decide) wa_2 rfl rfl rfl (by decide) (by decide) (by decide) u4 q4 rfl ?_
  exact wp_rt none (rt_V rfl (dz dl_Entry_init_0 18 32 (.return_) 1 rfl)) ⟨rfl, h⟩
theorem t_Entry_init {X : Nat × (Nat → Int32)} {k : Nat} {g : sg} {l0 : Nat} {Z : sg → Prop} (h : 1 ≤ k ∧ gA g 131 l0 = none ∧ ∀ g1, g1 = pA g 131 l0 5 → 1 ≤ (k - 1) ∧ gA g1 132 l0 = none ∧ ∀ g2, g2 = pA g1 132 l0 5 → 1 ≤ (k - 1 - 1) ∧ gA g2 133 l0 = none ∧ ∀ g3, g3 = pA g2 133 l0 5 → 1 ≤ (k - 1 - 1 - 1) ∧ gA g3 134 l0 = none ∧ ∀ g4, g4 = pA g3 134 l0 5 → Z g4) : nnMT X M_Entry_init k [qr 2 (some l0)] g (zV Z) := b_Entry_init_0 h

theorem b_Entry_begin_0 {X : Nat × (Nat → Int32)} {k : Nat} {g : sg} {l0 : Nat} {l1 : Int32} {l2 : Int32} {Z : sg → Prop} (h : ∀ g1, g1 = pI g 128 l0 0 l1 → ∀ g2, g2 = pI g1 129 l0 0 l2 → nnWP X M_Entry_begin k 12 [qr 2 (some l0), none, none, qi (0 : Int32)] [] g2 (zV Z)) : nnWP X M_Entry_begin k 0 [qr 2 (some l0), qi l1, qi l2, none] [] g (zV Z) := by
  refine wp_aload_n (i := 0) (v := qr 2 (some l0)) (dz dl_Entry_begin_0 0 0 (.aload_n 0) 1 rfl) rfl rfl trivial ?_
  refine wp_iload_n (i := 1) (x := l1) (dz dl_Entry_begin_0 1 1 (.iload_n 1) 1 rfl) rfl rfl ?_
  have h := h _ rfl
  refine wp_putI l0 (dz dl_Entry_begin_0 2 2 (.putfield 25) 3 rfl) lk_Entry_25 kd_128 rfl rfl rfl (okI_0 _) rfl ?_
  refine wp_aload_n (i := 0) (v := qr 2 (some l0)) (dz dl_Entry_begin_0 3 5 (.aload_n 0) 1 rfl) rfl rfl trivial ?_
  refine wp_iload_n (i := 2) (x := l2) (dz dl_Entry_begin_0 4 6 (.iload_n 2) 1 rfl) rfl rfl ?_
  have h := h _ rfl
  refine wp_putI l0 (dz dl_Entry_begin_0 5 7 (.putfield 29) 3 rfl) lk_Entry_29 kd_129 rfl rfl rfl (okI_0 _) rfl ?_
  refine wp_iconst (dz dl_Entry_begin_0 6 10 (.iconst (0)) 1 rfl) (v := (0 : Int32)) (by decide) ?_
  refine wp_istore_n (i := 3) (dz dl_Entry_begin_0 7 11 (.istore_n 3) 1 rfl) rfl [qr 2 (some l0), qi l1, qi l2, qi (0 : Int32)] (by decide) rfl ?_
  exact wp_cut h ⟨Or.inr rfl, Or.inl rfl, Or.inl rfl, Or.inr rfl, trivial⟩
theorem t_Entry_begin {X : Nat × (Nat → Int32)} {k : Nat} {g : sg} {l0 : Nat} {l1 : Int32} {l2 : Int32} {Z : sg → Prop} (h : ∀ g1, g1 = pI g 128 l0 0 l1 → ∀ g2, g2 = pI g1 129 l0 0 l2 → nnWP X M_Entry_begin k 12 [qr 2 (some l0), none, none, qi (0 : Int32)] [] g2 (zV Z)) : nnMT X M_Entry_begin k [qr 2 (some l0), qi l1, qi l2] g (zV Z) := b_Entry_begin_0 h

theorem b_Entry_begin_12 {X : Nat × (Nat → Int32)} {k : Nat} {g : sg} {l0 : Nat} {l3 : Int32} {Z : sg → Prop} (h : ((5 : Int32) ≤ l3 → Z g) ∧ (¬ (5 : Int32) ≤ l3 → gA g 131 l0 = some 5 ∧ vp_in l3 5 ∧ ∀ g1, g1 = pI g 131 l0 l3.toNatClampNeg (-1 : Int32) → gA g1 133 l0 = some 5 ∧ ∀ g2, g2 = pI g1 133 l0 l3.toNatClampNeg (-1 : Int32) → nnWP X M_Entry_begin k 12 [qr 2 (some l0), none, none, qi (l3 + 1)] [] g2 (zV Z))) : nnWP X M_Entry_begin k 12 [qr 2 (some l0), none, none, qi l3] [] g (zV Z) := by
  refine wp_iload_n (i := 3) (x := l3) (dz dl_Entry_begin_0 8 12 (.iload_n 3) 1 rfl) rfl rfl ?_
  refine wp_iconst (dz dl_Entry_begin_0 9 13 (.iconst (5)) 1 rfl) (v := (5 : Int32)) (by decide) ?_
  refine wp_icmp_ge (tgt := 37) (dz dl_Entry_begin_0 10 14 (.if_icmp .ge (23)) 3 rfl) (by decide) (fun hc => ?_) (fun hc => ?_)
  · replace h := h.1 hc
    exact wp_rt none (rt_V rfl (dz dl_Entry_begin_0 23 37 (.return_) 1 rfl)) ⟨rfl, h⟩
  · replace h := h.2 hc
    refine wp_aload_n (i := 0) (v := qr 2 (some l0)) (dz dl_Entry_begin_0 11 17 (.aload_n 0) 1 rfl) rfl rfl trivial ?_
    obtain ⟨n1, h⟩ := h
    refine wp_getA l0 5 (dz dl_Entry_begin_0 12 18 (.getfield 9) 3 rfl) lk_Entry_9 (q := 0) kd_131 rfl rfl n1 ?_
    refine wp_iload_n (i := 3) (x := l3) (dz dl_Entry_begin_0 13 21 (.iload_n 3) 1 rfl) rfl rfl ?_
    refine wp_iconst (dz dl_Entry_begin_0 14 22 (.iconst (-1)) 1 rfl) (v := (-1 : Int32)) (by decide) ?_
    obtain ⟨i1, h⟩ := h
    have h := h _ rfl
    refine wp_iast 5 (dz dl_Entry_begin_0 15 23 (.iastore) 1 rfl) kd_131 n1 i1 rfl ?_
    refine wp_aload_n (i := 0) (v := qr 2 (some l0)) (dz dl_Entry_begin_0 16 24 (.aload_n 0) 1 rfl) rfl rfl trivial ?_
    obtain ⟨n2, h⟩ := h
    refine wp_getA l0 5 (dz dl_Entry_begin_0 17 25 (.getfield 18) 3 rfl) lk_Entry_18 (q := 0) kd_133 rfl rfl n2 ?_
    refine wp_iload_n (i := 3) (x := l3) (dz dl_Entry_begin_0 18 28 (.iload_n 3) 1 rfl) rfl rfl ?_
    refine wp_iconst (dz dl_Entry_begin_0 19 29 (.iconst (-1)) 1 rfl) (v := (-1 : Int32)) (by decide) ?_
    have h := h _ rfl
    refine wp_iast 5 (dz dl_Entry_begin_0 20 30 (.iastore) 1 rfl) kd_133 n2 i1 rfl ?_
    refine wp_iinc (i := 3) (v := l3 + 1) (dz dl_Entry_begin_0 21 31 (.iinc 3 (1)) 3 rfl) rfl (congrArg (fun z => l3 + z) (by decide)) [qr 2 (some l0), none, none, qi (l3 + 1)] (by decide) rfl ?_
    refine wp_goto (tgt := 12) (dz dl_Entry_begin_0 22 34 (.goto (-22)) 3 rfl) (by decide) ?_
    exact wp_cut h ⟨Or.inr rfl, Or.inl rfl, Or.inl rfl, Or.inr rfl, trivial⟩

theorem b_Entry_hasAsk_0 {X : Nat × (Nat → Int32)} {k : Nat} {g : sg} {l0 : Nat} {l1 : Int32} {Z : Int32 → sg → Prop} (h : gA g 131 l0 = some 5 ∧ vp_in l1 5 ∧ ((gI g 131 l0 l1.toNatClampNeg) = (-1 : Int32) → Z (0 : Int32) g) ∧ (¬ (gI g 131 l0 l1.toNatClampNeg) = (-1 : Int32) → Z (1 : Int32) g)) : nnWP X M_Entry_hasAsk k 0 [qr 2 (some l0), qi l1] [] g (zI Z) := by
  refine wp_aload_n (i := 0) (v := qr 2 (some l0)) (dz dl_Entry_hasAsk_0 0 0 (.aload_n 0) 1 rfl) rfl rfl trivial ?_
  obtain ⟨n1, h⟩ := h
  refine wp_getA l0 5 (dz dl_Entry_hasAsk_0 1 1 (.getfield 9) 3 rfl) lk_Entry_9 (q := 0) kd_131 rfl rfl n1 ?_
  refine wp_iload_n (i := 1) (x := l1) (dz dl_Entry_hasAsk_0 2 4 (.iload_n 1) 1 rfl) rfl rfl ?_
  obtain ⟨i1, h⟩ := h
  refine wp_iald 5 (dz dl_Entry_hasAsk_0 3 5 (.iaload) 1 rfl) kd_131 n1 i1 ?_
  refine wp_iconst (dz dl_Entry_hasAsk_0 4 6 (.iconst (-1)) 1 rfl) (v := (-1 : Int32)) (by decide) ?_
  refine wp_icmp_eq (tgt := 14) (dz dl_Entry_hasAsk_0 5 7 (.if_icmp .eq (7)) 3 rfl) (by decide) (fun hc => ?_) (fun hc => ?_)
  · replace h := h.1 hc
    refine wp_iconst (dz dl_Entry_hasAsk_0 8 14 (.iconst (0)) 1 rfl) (v := (0 : Int32)) (by decide) ?_
    exact wp_rt (qi _) (rt_Z rfl (Or.inl rfl) (dz dl_Entry_hasAsk_0 9 15 (.ireturn) 1 rfl)) ⟨_, rfl, h⟩
  · replace h := h.2 hc
    refine wp_iconst (dz dl_Entry_hasAsk_0 6 10 (.iconst (1)) 1 rfl) (v := (1 : Int32)) (by decide) ?_
    refine wp_goto (tgt := 15) (dz dl_Entry_hasAsk_0 7 11 (.goto (4)) 3 rfl) (by decide) ?_
    exact wp_rt (qi _) (rt_Z rfl (Or.inr rfl) (dz dl_Entry_hasAsk_0 9 15 (.ireturn) 1 rfl)) ⟨_, rfl, h⟩
theorem t_Entry_hasAsk {X : Nat × (Nat → Int32)} {k : Nat} {g : sg} {l0 : Nat} {l1 : Int32} {Z : Int32 → sg → Prop} (h : gA g 131 l0 = some 5 ∧ vp_in l1 5 ∧ ((gI g 131 l0 l1.toNatClampNeg) = (-1 : Int32) → Z (0 : Int32) g) ∧ (¬ (gI g 131 l0 l1.toNatClampNeg) = (-1 : Int32) → Z (1 : Int32) g)) : nnMT X M_Entry_hasAsk k [qr 2 (some l0), qi l1] g (zI Z) := b_Entry_hasAsk_0 h

theorem b_Entry_hasErrand_0 {X : Nat × (Nat → Int32)} {k : Nat} {g : sg} {l0 : Nat} {l1 : Int32} {Z : Int32 → sg → Prop} (h : gA g 133 l0 = some 5 ∧ vp_in l1 5 ∧ ((gI g 133 l0 l1.toNatClampNeg) = (-1 : Int32) → Z (0 : Int32) g) ∧ (¬ (gI g 133 l0 l1.toNatClampNeg) = (-1 : Int32) → Z (1 : Int32) g)) : nnWP X M_Entry_hasErrand k 0 [qr 2 (some l0), qi l1] [] g (zI Z) := by
  refine wp_aload_n (i := 0) (v := qr 2 (some l0)) (dz dl_Entry_hasErrand_0 0 0 (.aload_n 0) 1 rfl) rfl rfl trivial ?_
  obtain ⟨n1, h⟩ := h
  refine wp_getA l0 5 (dz dl_Entry_hasErrand_0 1 1 (.getfield 18) 3 rfl) lk_Entry_18 (q := 0) kd_133 rfl rfl n1 ?_
  refine wp_iload_n (i := 1) (x := l1) (dz dl_Entry_hasErrand_0 2 4 (.iload_n 1) 1 rfl) rfl rfl ?_
  obtain ⟨i1, h⟩ := h
  refine wp_iald 5 (dz dl_Entry_hasErrand_0 3 5 (.iaload) 1 rfl) kd_133 n1 i1 ?_
  refine wp_iconst (dz dl_Entry_hasErrand_0 4 6 (.iconst (-1)) 1 rfl) (v := (-1 : Int32)) (by decide) ?_
  refine wp_icmp_eq (tgt := 14) (dz dl_Entry_hasErrand_0 5 7 (.if_icmp .eq (7)) 3 rfl) (by decide) (fun hc => ?_) (fun hc => ?_)
  · replace h := h.1 hc
    refine wp_iconst (dz dl_Entry_hasErrand_0 8 14 (.iconst (0)) 1 rfl) (v := (0 : Int32)) (by decide) ?_
    exact wp_rt (qi _) (rt_Z rfl (Or.inl rfl) (dz dl_Entry_hasErrand_0 9 15 (.ireturn) 1 rfl)) ⟨_, rfl, h⟩
  · replace h := h.2 hc
    refine wp_iconst (dz dl_Entry_hasErrand_0 6 10 (.iconst (1)) 1 rfl) (v := (1 : Int32)) (by decide) ?_
    refine wp_goto (tgt := 15) (dz dl_Entry_hasErrand_0 7 11 (.goto (4)) 3 rfl) (by decide) ?_
    exact wp_rt (qi _) (rt_Z rfl (Or.inr rfl) (dz dl_Entry_hasErrand_0 9 15 (.ireturn) 1 rfl)) ⟨_, rfl, h⟩
theorem t_Entry_hasErrand {X : Nat × (Nat → Int32)} {k : Nat} {g : sg} {l0 : Nat} {l1 : Int32} {Z : Int32 → sg → Prop} (h : gA g 133 l0 = some 5 ∧ vp_in l1 5 ∧ ((gI g 133 l0 l1.toNatClampNeg) = (-1 : Int32) → Z (0 : Int32) g) ∧ (¬ (gI g 133 l0 l1.toNatClampNeg) = (-1 : Int32) → Z (1 : Int32) g)) : nnMT X M_Entry_hasErrand k [qr 2 (some l0), qi l1] g (zI Z) := b_Entry_hasErrand_0 h

theorem b_Entry_putAsk_0 {X : Nat × (Nat → Int32)} {k : Nat} {g : sg} {l0 : Nat} {l1 : Int32} {l2 : Int32} {l3 : Int32} {Z : sg → Prop} (h : gA g 131 l0 = some 5 ∧ vp_in l1 5 ∧ ∀ g1, g1 = pI g 131 l0 l1.toNatClampNeg l2 → gA g1 132 l0 = some 5 ∧ ∀ g2, g2 = pI g1 132 l0 l1.toNatClampNeg l3 → Z g2) : nnWP X M_Entry_putAsk k 0 [qr 2 (some l0), qi l1, qi l2, qi l3] [] g (zV Z) := by
  refine wp_aload_n (i := 0) (v := qr 2 (some l0)) (dz dl_Entry_putAsk_0 0 0 (.aload_n 0) 1 rfl) rfl rfl trivial ?_
  obtain ⟨n1, h⟩ := h
  refine wp_getA l0 5 (dz dl_Entry_putAsk_0 1 1 (.getfield 9) 3 rfl) lk_Entry_9 (q := 0) kd_131 rfl rfl n1 ?_
  refine wp_iload_n (i := 1) (x := l1) (dz dl_Entry_putAsk_0 2 4 (.iload_n 1) 1 rfl) rfl rfl ?_
  refine wp_iload_n (i := 2) (x := l2) (dz dl_Entry_putAsk_0 3 5 (.iload_n 2) 1 rfl) rfl rfl ?_
  obtain ⟨i1, h⟩ := h
  have h := h _ rfl
  refine wp_iast 5 (dz dl_Entry_putAsk_0 4 6 (.iastore) 1 rfl) kd_131 n1 i1 rfl ?_
  refine wp_aload_n (i := 0) (v := qr 2 (some l0)) (dz dl_Entry_putAsk_0 5 7 (.aload_n 0) 1 rfl) rfl rfl trivial ?_
  obtain ⟨n2, h⟩ := h
  refine wp_getA l0 5 (dz dl_Entry_putAsk_0 6 8 (.getfield 15) 3 rfl) lk_Entry_15 (q := 0) kd_132 rfl rfl n2 ?_
  refine wp_iload_n (i := 1) (x := l1) (dz dl_Entry_putAsk_0 7 11 (.iload_n 1) 1 rfl) rfl rfl ?_
  refine wp_iload_n (i := 3) (x := l3) (dz dl_Entry_putAsk_0 8 12 (.iload_n 3) 1 rfl) rfl rfl ?_
  have h := h _ rfl
  refine wp_iast 5 (dz dl_Entry_putAsk_0 9 13 (.iastore) 1 rfl) kd_132 n2 i1 rfl ?_
  exact wp_rt none (rt_V rfl (dz dl_Entry_putAsk_0 10 14 (.return_) 1 rfl)) ⟨rfl, h⟩
theorem t_Entry_putAsk {X : Nat × (Nat → Int32)} {k : Nat} {g : sg} {l0 : Nat} {l1 : Int32} {l2 : Int32} {l3 : Int32} {Z : sg → Prop} (h : gA g 131 l0 = some 5 ∧ vp_in l1 5 ∧ ∀ g1, g1 = pI g 131 l0 l1.toNatClampNeg l2 → gA g1 132 l0 = some 5 ∧ ∀ g2, g2 = pI g1 132 l0 l1.toNatClampNeg l3 → Z g2) : nnMT X M_Entry_putAsk k [qr 2 (some l0), qi l1, qi l2, qi l3] g (zV Z) := b_Entry_putAsk_0 h

theorem b_Entry_putErrand_0 {X : Nat × (Nat → Int32)} {k : Nat} {g : sg} {l0 : Nat} {l1 : Int32} {l2 : Int32} {Z : sg → Prop} (h : gA g 133 l0 = some 5 ∧ vp_in l1 5 ∧ ∀ g1, g1 = pI g 133 l0 l1.toNatClampNeg l2 → gA g1 134 l0 = some 5 ∧ ∀ g2, g2 = pI g1 134 l0 l1.toNatClampNeg (0 : Int32) → Z g2) : nnWP X M_Entry_putErrand k 0 [qr 2 (some l0), qi l1, qi l2] [] g (zV Z) := by
  refine wp_aload_n (i := 0) (v := qr 2 (some l0)) (dz dl_Entry_putErrand_0 0 0 (.aload_n 0) 1 rfl) rfl rfl trivial ?_
  obtain ⟨n1, h⟩ := h
  refine wp_getA l0 5 (dz dl_Entry_putErrand_0 1 1 (.getfield 18) 3 rfl) lk_Entry_18 (q := 0) kd_133 rfl rfl n1 ?_
  refine wp_iload_n (i := 1) (x := l1) (dz dl_Entry_putErrand_0 2 4 (.iload_n 1) 1 rfl) rfl rfl ?_
  refine wp_iload_n (i := 2) (x := l2) (dz dl_Entry_putErrand_0 3 5 (.iload_n 2) 1 rfl) rfl rfl ?_
  obtain ⟨i1, h⟩ := h
  have h := h _ rfl
  refine wp_iast 5 (dz dl_Entry_putErrand_0 4 6 (.iastore) 1 rfl) kd_133 n1 i1 rfl ?_
  refine wp_aload_n (i := 0) (v := qr 2 (some l0)) (dz dl_Entry_putErrand_0 5 7 (.aload_n 0) 1 rfl) rfl rfl trivial ?_
  obtain ⟨n2, h⟩ := h
  refine wp_getA l0 5 (dz dl_Entry_putErrand_0 6 8 (.getfield 21) 3 rfl) lk_Entry_21 (q := 0) kd_134 rfl rfl n2 ?_
  refine wp_iload_n (i := 1) (x := l1) (dz dl_Entry_putErrand_0 7 11 (.iload_n 1) 1 rfl) rfl rfl ?_
  refine wp_iconst (dz dl_Entry_putErrand_0 8 12 (.iconst (0)) 1 rfl) (v := (0 : Int32)) (by decide) ?_
  have h := h _ rfl
  refine wp_zast 5 (dz dl_Entry_putErrand_0 9 13 (.bastore) 1 rfl) kd_134 n2 i1 (okI_2 (Or.inl rfl)) rfl ?_
  exact wp_rt none (rt_V rfl (dz dl_Entry_putErrand_0 10 14 (.return_) 1 rfl)) ⟨rfl, h⟩
theorem t_Entry_putErrand {X : Nat × (Nat → Int32)} {k : Nat} {g : sg} {l0 : Nat} {l1 : Int32} {l2 : Int32} {Z : sg → Prop} (h : gA g 133 l0 = some 5 ∧ vp_in l1 5 ∧ ∀ g1, g1 = pI g 133 l0 l1.toNatClampNeg l2 → gA g1 134 l0 = some 5 ∧ ∀ g2, g2 = pI g1 134 l0 l1.toNatClampNeg (0 : Int32) → Z g2) : nnMT X M_Entry_putErrand k [qr 2 (some l0), qi l1, qi l2] g (zV Z) := b_Entry_putErrand_0 h

theorem b_Entry_nackErrand_0 {X : Nat × (Nat → Int32)} {k : Nat} {g : sg} {l0 : Nat} {l1 : Int32} {Z : sg → Prop} (h : gA g 134 l0 = some 5 ∧ vp_in l1 5 ∧ ∀ g1, g1 = pI g 134 l0 l1.toNatClampNeg (1 : Int32) → Z g1) : nnWP X M_Entry_nackErrand k 0 [qr 2 (some l0), qi l1] [] g (zV Z) := by
  refine wp_aload_n (i := 0) (v := qr 2 (some l0)) (dz dl_Entry_nackErrand_0 0 0 (.aload_n 0) 1 rfl) rfl rfl trivial ?_
  obtain ⟨n1, h⟩ := h
  refine wp_getA l0 5 (dz dl_Entry_nackErrand_0 1 1 (.getfield 21) 3 rfl) lk_Entry_21 (q := 0) kd_134 rfl rfl n1 ?_
  refine wp_iload_n (i := 1) (x := l1) (dz dl_Entry_nackErrand_0 2 4 (.iload_n 1) 1 rfl) rfl rfl ?_
  refine wp_iconst (dz dl_Entry_nackErrand_0 3 5 (.iconst (1)) 1 rfl) (v := (1 : Int32)) (by decide) ?_
  obtain ⟨i1, h⟩ := h
  have h := h _ rfl
  refine wp_zast 5 (dz dl_Entry_nackErrand_0 4 6 (.bastore) 1 rfl) kd_134 n1 i1 (okI_2 (Or.inr rfl)) rfl ?_
  exact wp_rt none (rt_V rfl (dz dl_Entry_nackErrand_0 5 7 (.return_) 1 rfl)) ⟨rfl, h⟩
theorem t_Entry_nackErrand {X : Nat × (Nat → Int32)} {k : Nat} {g : sg} {l0 : Nat} {l1 : Int32} {Z : sg → Prop} (h : gA g 134 l0 = some 5 ∧ vp_in l1 5 ∧ ∀ g1, g1 = pI g 134 l0 l1.toNatClampNeg (1 : Int32) → Z g1) : nnMT X M_Entry_nackErrand k [qr 2 (some l0), qi l1] g (zV Z) := b_Entry_nackErrand_0 h

theorem b_Entry_awaits_0 {X : Nat × (Nat → Int32)} {k : Nat} {g : sg} {l0 : Nat} {l1 : Int32} {l2 : Int32} {Z : Int32 → sg → Prop} (h : gA g 133 l0 = some 5 ∧ vp_in l2 5 ∧ (¬ (gI g 133 l0 l2.toNatClampNeg) = l1 → Z (0 : Int32) g) ∧ ((gI g 133 l0 l2.toNatClampNeg) = l1 → gA g 134 l0 = some 5 ∧ (¬ (gI g 134 l0 l2.toNatClampNeg) = 0 → Z (0 : Int32) g) ∧ ((gI g 134 l0 l2.toNatClampNeg) = 0 → Z (1 : Int32) g))) : nnWP X M_Entry_awaits k 0 [qr 2 (some l0), qi l1, qi l2] [] g (zI Z) := by
  refine wp_aload_n (i := 0) (v := qr 2 (some l0)) (dz dl_Entry_awaits_0 0 0 (.aload_n 0) 1 rfl) rfl rfl trivial ?_
  obtain ⟨n1, h⟩ := h
  refine wp_getA l0 5 (dz dl_Entry_awaits_0 1 1 (.getfield 18) 3 rfl) lk_Entry_18 (q := 0) kd_133 rfl rfl n1 ?_
  refine wp_iload_n (i := 2) (x := l2) (dz dl_Entry_awaits_0 2 4 (.iload_n 2) 1 rfl) rfl rfl ?_
  obtain ⟨i1, h⟩ := h
  refine wp_iald 5 (dz dl_Entry_awaits_0 3 5 (.iaload) 1 rfl) kd_133 n1 i1 ?_
  refine wp_iload_n (i := 1) (x := l1) (dz dl_Entry_awaits_0 4 6 (.iload_n 1) 1 rfl) rfl rfl ?_
  refine wp_icmp_ne (tgt := 23) (dz dl_Entry_awaits_0 5 7 (.if_icmp .ne (16)) 3 rfl) (by decide) (fun hc => ?_) (fun hc => ?_)
  · replace h := h.1 hc
    refine wp_iconst (dz dl_Entry_awaits_0 13 23 (.iconst (0)) 1 rfl) (v := (0 : Int32)) (by decide) ?_
    exact wp_rt (qi _) (rt_Z rfl (Or.inl rfl) (dz dl_Entry_awaits_0 14 24 (.ireturn) 1 rfl)) ⟨_, rfl, h⟩
  · replace h := h.2 hc
    refine wp_aload_n (i := 0) (v := qr 2 (some l0)) (dz dl_Entry_awaits_0 6 10 (.aload_n 0) 1 rfl) rfl rfl trivial ?_
    obtain ⟨n2, h⟩ := h
    refine wp_getA l0 5 (dz dl_Entry_awaits_0 7 11 (.getfield 21) 3 rfl) lk_Entry_21 (q := 0) kd_134 rfl rfl n2 ?_
    refine wp_iload_n (i := 2) (x := l2) (dz dl_Entry_awaits_0 8 14 (.iload_n 2) 1 rfl) rfl rfl ?_
    refine wp_zald 5 (dz dl_Entry_awaits_0 9 15 (.baload) 1 rfl) kd_134 n2 i1 ?_
    refine wp_if_ne (tgt := 23) (dz dl_Entry_awaits_0 10 16 (.ifCond .ne (7)) 3 rfl) (by decide) (fun hc => ?_) (fun hc => ?_)
    · replace h := h.1 hc
      refine wp_iconst (dz dl_Entry_awaits_0 13 23 (.iconst (0)) 1 rfl) (v := (0 : Int32)) (by decide) ?_
      exact wp_rt (qi _) (rt_Z rfl (Or.inl rfl) (dz dl_Entry_awaits_0 14 24 (.ireturn) 1 rfl)) ⟨_, rfl, h⟩
    · replace h := h.2 hc
      refine wp_iconst (dz dl_Entry_awaits_0 11 19 (.iconst (1)) 1 rfl) (v := (1 : Int32)) (by decide) ?_
      refine wp_goto (tgt := 24) (dz dl_Entry_awaits_0 12 20 (.goto (4)) 3 rfl) (by decide) ?_
      exact wp_rt (qi _) (rt_Z rfl (Or.inr rfl) (dz dl_Entry_awaits_0 14 24 (.ireturn) 1 rfl)) ⟨_, rfl, h⟩
theorem t_Entry_awaits {X : Nat × (Nat → Int32)} {k : Nat} {g : sg} {l0 : Nat} {l1 : Int32} {l2 : Int32} {Z : Int32 → sg → Prop} (h : gA g 133 l0 = some 5 ∧ vp_in l2 5 ∧ (¬ (gI g 133 l0 l2.toNatClampNeg) = l1 → Z (0 : Int32) g) ∧ ((gI g 133 l0 l2.toNatClampNeg) = l1 → gA g 134 l0 = some 5 ∧ (¬ (gI g 134 l0 l2.toNatClampNeg) = 0 → Z (0 : Int32) g) ∧ ((gI g 134 l0 l2.toNatClampNeg) = 0 → Z (1 : Int32) g))) : nnMT X M_Entry_awaits k [qr 2 (some l0), qi l1, qi l2] g (zI Z) := b_Entry_awaits_0 h

theorem b_Entry_hasSeen_0 {X : Nat × (Nat → Int32)} {k : Nat} {g : sg} {l0 : Nat} {l1 : Int32} {l2 : Int32} {Z : Int32 → sg → Prop} (h : nnWP X M_Entry_hasSeen k 2 [qr 2 (some l0), qi l1, qi l2, qi (0 : Int32)] [] g (zI Z)) : nnWP X M_Entry_hasSeen k 0 [qr 2 (some l0), qi l1, qi l2, none] [] g (zI Z) := by
  refine wp_iconst (dz dl_Entry_hasSeen_0 0 0 (.iconst (0)) 1 rfl) (v := (0 : Int32)) (by decide) ?_
  refine wp_istore_n (i := 3) (dz dl_Entry_hasSeen_0 1 1 (.istore_n 3) 1 rfl) rfl [qr 2 (some l0), qi l1, qi l2, qi (0 : Int32)] (by decide) rfl ?_
  exact wp_cut h ⟨Or.inr rfl, Or.inr rfl, Or.inr rfl, Or.inr rfl, trivial⟩
theorem t_Entry_hasSeen {X : Nat × (Nat → Int32)} {k : Nat} {g : sg} {l0 : Nat} {l1 : Int32} {l2 : Int32} {Z : Int32 → sg → Prop} (h : nnWP X M_Entry_hasSeen k 2 [qr 2 (some l0), qi l1, qi l2, qi (0 : Int32)] [] g (zI Z)) : nnMT X M_Entry_hasSeen k [qr 2 (some l0), qi l1, qi l2] g (zI Z) := b_Entry_hasSeen_0 h

theorem b_Entry_hasSeen_2 {X : Nat × (Nat → Int32)} {k : Nat} {g : sg} {l0 : Nat} {l1 : Int32} {l2 : Int32} {l3 : Int32} {Z : Int32 → sg → Prop} (h : ((5 : Int32) ≤ l3 → Z (0 : Int32) g) ∧ (¬ (5 : Int32) ≤ l3 → gA g 133 l0 = some 5 ∧ vp_in l3 5 ∧ ((gI g 133 l0 l3.toNatClampNeg) = l1 → Z (1 : Int32) g) ∧ (¬ (gI g 133 l0 l3.toNatClampNeg) = l1 → (l3 = l2 → nnWP X M_Entry_hasSeen k 2 [qr 2 (some l0), qi l1, qi l2, qi (l3 + 1)] [] g (zI Z)) ∧ (¬ l3 = l2 → gA g 131 l0 = some 5 ∧ (¬ (gI g 131 l0 l3.toNatClampNeg) = l1 → nnWP X M_Entry_hasSeen k 2 [qr 2 (some l0), qi l1, qi l2, qi (l3 + 1)] [] g (zI Z)) ∧ ((gI g 131 l0 l3.toNatClampNeg) = l1 → Z (1 : Int32) g))))) : nnWP X M_Entry_hasSeen k 2 [qr 2 (some l0), qi l1, qi l2, qi l3] [] g (zI Z) := by
  refine wp_iload_n (i := 3) (x := l3) (dz dl_Entry_hasSeen_0 2 2 (.iload_n 3) 1 rfl) rfl rfl ?_
  refine wp_iconst (dz dl_Entry_hasSeen_0 3 3 (.iconst (5)) 1 rfl) (v := (5 : Int32)) (by decide) ?_
  refine wp_icmp_ge (tgt := 40) (dz dl_Entry_hasSeen_0 4 4 (.if_icmp .ge (36)) 3 rfl) (by decide) (fun hc => ?_) (fun hc => ?_)
  · replace h := h.1 hc
    refine wp_iconst (dz dl_Entry_hasSeen_0 24 40 (.iconst (0)) 1 rfl) (v := (0 : Int32)) (by decide) ?_
    exact wp_rt (qi _) (rt_Z rfl (Or.inl rfl) (dz dl_Entry_hasSeen_0 25 41 (.ireturn) 1 rfl)) ⟨_, rfl, h⟩
  · replace h := h.2 hc
    refine wp_aload_n (i := 0) (v := qr 2 (some l0)) (dz dl_Entry_hasSeen_0 5 7 (.aload_n 0) 1 rfl) rfl rfl trivial ?_
    obtain ⟨n1, h⟩ := h
    refine wp_getA l0 5 (dz dl_Entry_hasSeen_0 6 8 (.getfield 18) 3 rfl) lk_Entry_18 (q := 0) kd_133 rfl rfl n1 ?_
    refine wp_iload_n (i := 3) (x := l3) (dz dl_Entry_hasSeen_0 7 11 (.iload_n 3) 1 rfl) rfl rfl ?_
    obtain ⟨i1, h⟩ := h
    refine wp_iald 5 (dz dl_Entry_hasSeen_0 8 12 (.iaload) 1 rfl) kd_133 n1 i1 ?_
    refine wp_iload_n (i := 1) (x := l1) (dz dl_Entry_hasSeen_0 9 13 (.iload_n 1) 1 rfl) rfl rfl ?_
    refine wp_icmp_eq (tgt := 32) (dz dl_Entry_hasSeen_0 10 14 (.if_icmp .eq (18)) 3 rfl) (by decide) (fun hc => ?_) (fun hc => ?_)
    · replace h := h.1 hc
      refine wp_iconst (dz dl_Entry_hasSeen_0 20 32 (.iconst (1)) 1 rfl) (v := (1 : Int32)) (by decide) ?_
      exact wp_rt (qi _) (rt_Z rfl (Or.inr rfl) (dz dl_Entry_hasSeen_0 21 33 (.ireturn) 1 rfl)) ⟨_, rfl, h⟩
    · replace h := h.2 hc
      refine wp_iload_n (i := 3) (x := l3) (dz dl_Entry_hasSeen_0 11 17 (.iload_n 3) 1 rfl) rfl rfl ?_
      refine wp_iload_n (i := 2) (x := l2) (dz dl_Entry_hasSeen_0 12 18 (.iload_n 2) 1 rfl) rfl rfl ?_
      refine wp_icmp_eq (tgt := 34) (dz dl_Entry_hasSeen_0 13 19 (.if_icmp .eq (15)) 3 rfl) (by decide) (fun hc => ?_) (fun hc => ?_)
      · replace h := h.1 hc
        refine wp_iinc (i := 3) (v := l3 + 1) (dz dl_Entry_hasSeen_0 22 34 (.iinc 3 (1)) 3 rfl) rfl (congrArg (fun z => l3 + z) (by decide)) [qr 2 (some l0), qi l1, qi l2, qi (l3 + 1)] (by decide) rfl ?_
        refine wp_goto (tgt := 2) (dz dl_Entry_hasSeen_0 23 37 (.goto (-35)) 3 rfl) (by decide) ?_
        exact wp_cut h ⟨Or.inr rfl, Or.inr rfl, Or.inr rfl, Or.inr rfl, trivial⟩
      · replace h := h.2 hc
        refine wp_aload_n (i := 0) (v := qr 2 (some l0)) (dz dl_Entry_hasSeen_0 14 22 (.aload_n 0) 1 rfl) rfl rfl trivial ?_
        obtain ⟨n2, h⟩ := h
        refine wp_getA l0 5 (dz dl_Entry_hasSeen_0 15 23 (.getfield 9) 3 rfl) lk_Entry_9 (q := 0) kd_131 rfl rfl n2 ?_
        refine wp_iload_n (i := 3) (x := l3) (dz dl_Entry_hasSeen_0 16 26 (.iload_n 3) 1 rfl) rfl rfl ?_
        refine wp_iald 5 (dz dl_Entry_hasSeen_0 17 27 (.iaload) 1 rfl) kd_131 n2 i1 ?_
        refine wp_iload_n (i := 1) (x := l1) (dz dl_Entry_hasSeen_0 18 28 (.iload_n 1) 1 rfl) rfl rfl ?_
        refine wp_icmp_ne (tgt := 34) (dz dl_Entry_hasSeen_0 19 29 (.if_icmp .ne (5)) 3 rfl) (by decide) (fun hc => ?_) (fun hc => ?_)
        · replace h := h.1 hc
          refine wp_iinc (i := 3) (v := l3 + 1) (dz dl_Entry_hasSeen_0 22 34 (.iinc 3 (1)) 3 rfl) rfl (congrArg (fun z => l3 + z) (by decide)) [qr 2 (some l0), qi l1, qi l2, qi (l3 + 1)] (by decide) rfl ?_
          refine wp_goto (tgt := 2) (dz dl_Entry_hasSeen_0 23 37 (.goto (-35)) 3 rfl) (by decide) ?_
          exact wp_cut h ⟨Or.inr rfl, Or.inr rfl, Or.inr rfl, Or.inr rfl, trivial⟩
        · replace h := h.2 hc
          refine wp_iconst (dz dl_Entry_hasSeen_0 20 32 (.iconst (1)) 1 rfl) (v := (1 : Int32)) (by decide) ?_
          exact wp_rt (qi _) (rt_Z rfl (Or.inr rfl) (dz dl_Entry_hasSeen_0 21 33 (.ireturn) 1 rfl)) ⟨_, rfl, h⟩

theorem b_Entry_allNacked_0 {X : Nat × (Nat → Int32)} {k : Nat} {g : sg} {l0 : Nat} {Z : Int32 → sg → Prop} (h : nnWP X M_Entry_allNacked k 2 [qr 2 (some l0), qi (0 : Int32)] [] g (zI Z)) : nnWP X M_Entry_allNacked k 0 [qr 2 (some l0), none] [] g (zI Z) := by
  refine wp_iconst (dz dl_Entry_allNacked_0 0 0 (.iconst (0)) 1 rfl) (v := (0 : Int32)) (by decide) ?_
  refine wp_istore_n (i := 1) (dz dl_Entry_allNacked_0 1 1 (.istore_n 1) 1 rfl) rfl [qr 2 (some l0), qi (0 : Int32)] (by decide) rfl ?_
  exact wp_cut h ⟨Or.inr rfl, Or.inr rfl, trivial⟩
theorem t_Entry_allNacked {X : Nat × (Nat → Int32)} {k : Nat} {g : sg} {l0 : Nat} {Z : Int32 → sg → Prop} (h : nnWP X M_Entry_allNacked k 2 [qr 2 (some l0), qi (0 : Int32)] [] g (zI Z)) : nnMT X M_Entry_allNacked k [qr 2 (some l0)] g (zI Z) := b_Entry_allNacked_0 h

theorem b_Entry_allNacked_2 {X : Nat × (Nat → Int32)} {k : Nat} {g : sg} {l0 : Nat} {l1 : Int32} {Z : Int32 → sg → Prop} (h : ((5 : Int32) ≤ l1 → Z (1 : Int32) g) ∧ (¬ (5 : Int32) ≤ l1 → nnMT X M_Entry_hasErrand 0 [qr 2 (some l0), qi l1] g (zI fun r1 g1 => gExt g g1 → (r1 = 0 → nnWP X M_Entry_allNacked k 2 [qr 2 (some l0), qi (l1 + 1)] [] g1 (zI Z)) ∧ (¬ r1 = 0 → gA g1 134 l0 = some 5 ∧ vp_in l1 5 ∧ (¬ (gI g1 134 l0 l1.toNatClampNeg) = 0 → nnWP X M_Entry_allNacked k 2 [qr 2 (some l0), qi (l1 + 1)] [] g1 (zI Z)) ∧ ((gI g1 134 l0 l1.toNatClampNeg) = 0 → Z (0 : Int32) g1))))) : nnWP X M_Entry_allNacked k 2 [qr 2 (some l0), qi l1] [] g (zI Z) := by
  refine wp_iload_n (i := 1) (x := l1) (dz dl_Entry_allNacked_0 2 2 (.iload_n 1) 1 rfl) rfl rfl ?_
  refine wp_iconst (dz dl_Entry_allNacked_0 3 3 (.iconst (5)) 1 rfl) (v := (5 : Int32)) (by decide) ?_
  refine wp_icmp_ge (tgt := 32) (dz dl_Entry_allNacked_0 4 4 (.if_icmp .ge (28)) 3 rfl) (by decide) (fun hc => ?_) (fun hc => ?_)
  · replace h := h.1 hc
    refine wp_iconst (dz dl_Entry_allNacked_0 18 32 (.iconst (1)) 1 rfl) (v := (1 : Int32)) (by decide) ?_
    exact wp_rt (qi _) (rt_Z rfl (Or.inr rfl) (dz dl_Entry_allNacked_0 19 33 (.ireturn) 1 rfl)) ⟨_, rfl, h⟩
  · replace h := h.2 hc
    refine wp_aload_n (i := 0) (v := qr 2 (some l0)) (dz dl_Entry_allNacked_0 5 7 (.aload_n 0) 1 rfl) rfl rfl trivial ?_
    refine wp_iload_n (i := 1) (x := l1) (dz dl_Entry_allNacked_0 6 8 (.iload_n 1) 1 rfl) rfl rfl ?_
    refine wp_callV l0 0 [qi l1] [] (dz dl_Entry_allNacked_0 7 9 (.invokevirtual 32) 3 rfl) ok_Entry_hasErrand lm_Entry_32 (by decide) ws_Entry_hasErrand wv_Entry_hasErrand ⟨Nat.le_of_ble_eq_true rfl, Nat.le_of_ble_eq_true rfl⟩ pn_Entry_hasErrand (Nat.le_of_ble_eq_true rfl) (Nat.le_of_ble_eq_true rfl) rfl (Or.inl rfl) (Nat.zero_le _) (mt_mono h ?_)
    rintro _ g1 ⟨r1, rfl, h⟩ y1
    replace h := h y1.1
    show nnWP _ _ _ _ _ [qi r1] _ _
    refine wp_if_eq (tgt := 26) (dz dl_Entry_allNacked_0 8 12 (.ifCond .eq (14)) 3 rfl) (by decide) (fun hc => ?_) (fun hc => ?_)
    · replace h := h.1 hc
      refine wp_iinc (i := 1) (v := l1 + 1) (dz dl_Entry_allNacked_0 16 26 (.iinc 1 (1)) 3 rfl) rfl (congrArg (fun z => l1 + z) (by decide)) [qr 2 (some l0), qi (l1 + 1)] (by decide) rfl ?_
      refine wp_goto (tgt := 2) (dz dl_Entry_allNacked_0 17 29 (.goto (-27)) 3 rfl) (by decide) ?_
      exact wp_cut h ⟨Or.inr rfl, Or.inr rfl, trivial⟩
    · replace h := h.2 hc
      refine wp_aload_n (i := 0) (v := qr 2 (some l0)) (dz dl_Entry_allNacked_0 9 15 (.aload_n 0) 1 rfl) rfl rfl trivial ?_
      obtain ⟨n1, h⟩ := h
      refine wp_getA l0 5 (dz dl_Entry_allNacked_0 10 16 (.getfield 21) 3 rfl) lk_Entry_21 (q := 0) kd_134 rfl rfl n1 ?_
      refine wp_iload_n (i := 1) (x := l1) (dz dl_Entry_allNacked_0 11 19 (.iload_n 1) 1 rfl) rfl rfl ?_
      obtain ⟨i1, h⟩ := h
      refine wp_zald 5 (dz dl_Entry_allNacked_0 12 20 (.baload) 1 rfl) kd_134 n1 i1 ?_
      refine wp_if_ne (tgt := 26) (dz dl_Entry_allNacked_0 13 21 (.ifCond .ne (5)) 3 rfl) (by decide) (fun hc => ?_) (fun hc => ?_)
      · replace h := h.1 hc
        refine wp_iinc (i := 1) (v := l1 + 1) (dz dl_Entry_allNacked_0 16 26 (.iinc 1 (1)) 3 rfl) rfl (congrArg (fun z => l1 + z) (by decide)) [qr 2 (some l0), qi (l1 + 1)] (by decide) rfl ?_
        refine wp_goto (tgt := 2) (dz dl_Entry_allNacked_0 17 29 (.goto (-27)) 3 rfl) (by decide) ?_
        exact wp_cut h ⟨Or.inr rfl, Or.inr rfl, trivial⟩
      · replace h := h.2 hc
        refine wp_iconst (dz dl_Entry_allNacked_0 14 24 (.iconst (0)) 1 rfl) (v := (0 : Int32)) (by decide) ?_
        exact wp_rt (qi _) (rt_Z rfl (Or.inl rfl) (dz dl_Entry_allNacked_0 15 25 (.ireturn) 1 rfl)) ⟨_, rfl, h⟩

theorem b_Entry_dropAsksEnded_0 {X : Nat × (Nat → Int32)} {k : Nat} {g : sg} {l0 : Nat} {l1 : Int32} {Z : Int32 → sg → Prop} (h : nnWP X M_Entry_dropAsksEnded k 4 [qr 2 (some l0), qi l1, qi (0 : Int32), qi (0 : Int32)] [] g (zI Z)) : nnWP X M_Entry_dropAsksEnded k 0 [qr 2 (some l0), qi l1, none, none] [] g (zI Z) := by
  refine wp_iconst (dz dl_Entry_dropAsksEnded_0 0 0 (.iconst (0)) 1 rfl) (v := (0 : Int32)) (by decide) ?_
  refine wp_istore_n (i := 2) (dz dl_Entry_dropAsksEnded_0 1 1 (.istore_n 2) 1 rfl) rfl [qr 2 (some l0), qi l1, qi (0 : Int32), none] (by decide) rfl ?_
  refine wp_iconst (dz dl_Entry_dropAsksEnded_0 2 2 (.iconst (0)) 1 rfl) (v := (0 : Int32)) (by decide) ?_
  refine wp_istore_n (i := 3) (dz dl_Entry_dropAsksEnded_0 3 3 (.istore_n 3) 1 rfl) rfl [qr 2 (some l0), qi l1, qi (0 : Int32), qi (0 : Int32)] (by decide) rfl ?_
  exact wp_cut h ⟨Or.inr rfl, Or.inr rfl, Or.inr rfl, Or.inr rfl, trivial⟩
theorem t_Entry_dropAsksEnded {X : Nat × (Nat → Int32)} {k : Nat} {g : sg} {l0 : Nat} {l1 : Int32} {Z : Int32 → sg → Prop} (h : nnWP X M_Entry_dropAsksEnded k 4 [qr 2 (some l0), qi l1, qi (0 : Int32), qi (0 : Int32)] [] g (zI Z)) : nnMT X M_Entry_dropAsksEnded k [qr 2 (some l0), qi l1] g (zI Z) := b_Entry_dropAsksEnded_0 h

theorem b_Entry_dropAsksEnded_4 {X : Nat × (Nat → Int32)} {k : Nat} {g : sg} {l0 : Nat} {l1 : Int32} {l2 : Int32} {l3 : Int32} {Z : Int32 → sg → Prop} (h : ((5 : Int32) ≤ l3 → (l2 = 0 ∨ l2 = 1) ∧ Z l2 g) ∧ (¬ (5 : Int32) ≤ l3 → nnMT X M_Entry_hasAsk 0 [qr 2 (some l0), qi l3] g (zI fun r1 g1 => gExt g g1 → (r1 = 0 → (¬ l2 = 0 → nnWP X M_Entry_dropAsksEnded k 4 [qr 2 (some l0), qi l1, qi (1 : Int32), qi (l3 + 1)] [] g1 (zI Z)) ∧ (l2 = 0 → nnMT X M_Entry_hasAsk 0 [qr 2 (some l0), qi l3] g1 (zI fun r2 g2 => gExt g1 g2 → (r2 = 0 → nnWP X M_Entry_dropAsksEnded k 4 [qr 2 (some l0), qi l1, qi (0 : Int32), qi (l3 + 1)] [] g2 (zI Z)) ∧ (¬ r2 = 0 → nnWP X M_Entry_dropAsksEnded k 4 [qr 2 (some l0), qi l1, qi (1 : Int32), qi (l3 + 1)] [] g2 (zI Z))))) ∧ (¬ r1 = 0 → gA g1 132 l0 = some 5 ∧ vp_in l3 5 ∧ (l1 < (gI g1 132 l0 l3.toNatClampNeg) → (¬ l2 = 0 → nnWP X M_Entry_dropAsksEnded k 4 [qr 2 (some l0), qi l1, qi (1 : Int32), qi (l3 + 1)] [] g1 (zI Z)) ∧ (l2 = 0 → nnMT X M_Entry_hasAsk 0 [qr 2 (some l0), qi l3] g1 (zI fun r3 g3 => gExt g1 g3 → (r3 = 0 → nnWP X M_Entry_dropAsksEnded k 4 [qr 2 (some l0), qi l1, qi (0 : Int32), qi (l3 + 1)] [] g3 (zI Z)) ∧ (¬ r3 = 0 → nnWP X M_Entry_dropAsksEnded k 4 [qr 2 (some l0), qi l1, qi (1 : Int32), qi (l3 + 1)] [] g3 (zI Z))))) ∧ (¬ l1 < (gI g1 132 l0 l3.toNatClampNeg) → gA g1 131 l0 = some 5 ∧ ∀ g4, g4 = pI g1 131 l0 l3.toNatClampNeg (-1 : Int32) → (¬ l2 = 0 → nnWP X M_Entry_dropAsksEnded k 4 [qr 2 (some l0), qi l1, qi (1 : Int32), qi (l3 + 1)] [] g4 (zI Z)) ∧ (l2 = 0 → nnMT X M_Entry_hasAsk 0 [qr 2 (some l0), qi l3] g4 (zI fun r4 g5 => gExt g4 g5 → (r4 = 0 → nnWP X M_Entry_dropAsksEnded k 4 [qr 2 (some l0), qi l1, qi (0 : Int32), qi (l3 + 1)] [] g5 (zI Z)) ∧ (¬ r4 = 0 → nnWP X M_Entry_dropAsksEnded k 4 [qr 2 (some l0), qi l1, qi (1 : Int32), qi (l3 + 1)] [] g5 (zI Z))))))))) : nnWP X M_Entry_dropAsksEnded k 4 [qr 2 (some l0), qi l1, qi l2, qi l3] [] g (zI Z) := by
  refine wp_iload_n (i := 3) (x := l3) (dz dl_Entry_dropAsksEnded_0 4 4 (.iload_n 3) 1 rfl) rfl rfl ?_
  refine wp_iconst (dz dl_Entry_dropAsksEnded_0 5 5 (.iconst (5)) 1 rfl) (v := (5 : Int32)) (by decide) ?_
  refine wp_icmp_ge (tgt := 58) (dz dl_Entry_dropAsksEnded_0 6 6 (.if_icmp .ge (52)) 3 rfl) (by decide) (fun hc => ?_) (fun hc => ?_)
  · replace h := h.1 hc
    refine wp_iload_n (i := 2) (x := l2) (dz dl_Entry_dropAsksEnded_0 34 58 (.iload_n 2) 1 rfl) rfl rfl ?_
    exact wp_rt (qi _) (rt_Z rfl h.1 (dz dl_Entry_dropAsksEnded_0 35 59 (.ireturn) 1 rfl)) ⟨_, rfl, h.2⟩
  · replace h := h.2 hc
    refine wp_aload_n (i := 0) (v := qr 2 (some l0)) (dz dl_Entry_dropAsksEnded_0 7 9 (.aload_n 0) 1 rfl) rfl rfl trivial ?_
    refine wp_iload_n (i := 3) (x := l3) (dz dl_Entry_dropAsksEnded_0 8 10 (.iload_n 3) 1 rfl) rfl rfl ?_
    refine wp_callV l0 0 [qi l3] [] (dz dl_Entry_dropAsksEnded_0 9 11 (.invokevirtual 36) 3 rfl) ok_Entry_hasAsk lm_Entry_36 (by decide) ws_Entry_hasAsk wv_Entry_hasAsk ⟨Nat.le_of_ble_eq_true rfl, Nat.le_of_ble_eq_true rfl⟩ pn_Entry_hasAsk (Nat.le_of_ble_eq_true rfl) (Nat.le_of_ble_eq_true rfl) rfl (Or.inl rfl) (Nat.zero_le _) (mt_mono h ?_)
    rintro _ g1 ⟨r1, rfl, h⟩ y1
    replace h := h y1.1
    show nnWP _ _ _ _ _ [qi r1] _ _
    refine wp_if_eq (tgt := 34) (dz dl_Entry_dropAsksEnded_0 10 14 (.ifCond .eq (20)) 3 rfl) (by decide) (fun hc => ?_) (fun hc => ?_)
    · replace h := h.1 hc
      refine wp_iload_n (i := 2) (x := l2) (dz dl_Entry_dropAsksEnded_0 22 34 (.iload_n 2) 1 rfl) rfl rfl ?_
      refine wp_if_ne (tgt := 46) (dz dl_Entry_dropAsksEnded_0 23 35 (.ifCond .ne (11)) 3 rfl) (by decide) (fun hc => ?_) (fun hc => ?_)
      · replace h := h.1 hc
        refine wp_iconst (dz dl_Entry_dropAsksEnded_0 28 46 (.iconst (1)) 1 rfl) (v := (1 : Int32)) (by decide) ?_
        refine wp_goto (tgt := 51) (dz dl_Entry_dropAsksEnded_0 29 47 (.goto (4)) 3 rfl) (by decide) ?_
        refine wp_istore_n (i := 2) (dz dl_Entry_dropAsksEnded_0 31 51 (.istore_n 2) 1 rfl) rfl [qr 2 (some l0), qi l1, qi (1 : Int32), qi l3] (by decide) rfl ?_
        refine wp_iinc (i := 3) (v := l3 + 1) (dz dl_Entry_dropAsksEnded_0 32 52 (.iinc 3 (1)) 3 rfl) rfl (congrArg (fun z => l3 + z) (by decide)) [qr 2 (some l0), qi l1, qi (1 : Int32), qi (l3 + 1)] (by decide) rfl ?_
        refine wp_goto (tgt := 4) (dz dl_Entry_dropAsksEnded_0 33 55 (.goto (-51)) 3 rfl) (by decide) ?_
        exact wp_cut h ⟨Or.inr rfl, Or.inr rfl, Or.inr rfl, Or.inr rfl, trivial⟩
      · replace h := h.2 hc
        refine wp_aload_n (i := 0) (v := qr 2 (some l0)) (dz dl_Entry_dropAsksEnded_0 24 38 (.aload_n 0) 1 rfl) rfl rfl trivial ?_
        refine wp_iload_n (i := 3) (x := l3) (dz dl_Entry_dropAsksEnded_0 25 39 (.iload_n 3) 1 rfl) rfl rfl ?_
        refine wp_callV l0 0 [qi l3] [] (dz dl_Entry_dropAsksEnded_0 26 40 (.invokevirtual 36) 3 rfl) ok_Entry_hasAsk lm_Entry_36 (by decide) ws_Entry_hasAsk wv_Entry_hasAsk ⟨Nat.le_of_ble_eq_true rfl, Nat.le_of_ble_eq_true rfl⟩ pn_Entry_hasAsk (Nat.le_of_ble_eq_true rfl) (Nat.le_of_ble_eq_true rfl) rfl (Or.inl rfl) (Nat.zero_le _) (mt_mono h ?_)
        rintro _ g2 ⟨r2, rfl, h⟩ y2
        replace h := h y2.1
        show nnWP _ _ _ _ _ [qi r2] _ _
        refine wp_if_eq (tgt := 50) (dz dl_Entry_dropAsksEnded_0 27 43 (.ifCond .eq (7)) 3 rfl) (by decide) (fun hc => ?_) (fun hc => ?_)
        · replace h := h.1 hc
          refine wp_iconst (dz dl_Entry_dropAsksEnded_0 30 50 (.iconst (0)) 1 rfl) (v := (0 : Int32)) (by decide) ?_
          refine wp_istore_n (i := 2) (dz dl_Entry_dropAsksEnded_0 31 51 (.istore_n 2) 1 rfl) rfl [qr 2 (some l0), qi l1, qi (0 : Int32), qi l3] (by decide) rfl ?_
          refine wp_iinc (i := 3) (v := l3 + 1) (dz dl_Entry_dropAsksEnded_0 32 52 (.iinc 3 (1)) 3 rfl) rfl (congrArg (fun z => l3 + z) (by decide)) [qr 2 (some l0), qi l1, qi (0 : Int32), qi (l3 + 1)] (by decide) rfl ?_
          refine wp_goto (tgt := 4) (dz dl_Entry_dropAsksEnded_0 33 55 (.goto (-51)) 3 rfl) (by decide) ?_
          exact wp_cut h ⟨Or.inr rfl, Or.inr rfl, Or.inr rfl, Or.inr rfl, trivial⟩
        · replace h := h.2 hc
          refine wp_iconst (dz dl_Entry_dropAsksEnded_0 28 46 (.iconst (1)) 1 rfl) (v := (1 : Int32)) (by decide) ?_
          refine wp_goto (tgt := 51) (dz dl_Entry_dropAsksEnded_0 29 47 (.goto (4)) 3 rfl) (by decide) ?_
          refine wp_istore_n (i := 2) (dz dl_Entry_dropAsksEnded_0 31 51 (.istore_n 2) 1 rfl) rfl [qr 2 (some l0), qi l1, qi (1 : Int32), qi l3] (by decide) rfl ?_
          refine wp_iinc (i := 3) (v := l3 + 1) (dz dl_Entry_dropAsksEnded_0 32 52 (.iinc 3 (1)) 3 rfl) rfl (congrArg (fun z => l3 + z) (by decide)) [qr 2 (some l0), qi l1, qi (1 : Int32), qi (l3 + 1)] (by decide) rfl ?_
          refine wp_goto (tgt := 4) (dz dl_Entry_dropAsksEnded_0 33 55 (.goto (-51)) 3 rfl) (by decide) ?_
          exact wp_cut h ⟨Or.inr rfl, Or.inr rfl, Or.inr rfl, Or.inr rfl, trivial⟩
    · replace h := h.2 hc
      refine wp_aload_n (i := 0) (v := qr 2 (some l0)) (dz dl_Entry_dropAsksEnded_0 11 17 (.aload_n 0) 1 rfl) rfl rfl trivial ?_
      obtain ⟨n1, h⟩ := h
      refine wp_getA l0 5 (dz dl_Entry_dropAsksEnded_0 12 18 (.getfield 15) 3 rfl) lk_Entry_15 (q := 0) kd_132 rfl rfl n1 ?_
      refine wp_iload_n (i := 3) (x := l3) (dz dl_Entry_dropAsksEnded_0 13 21 (.iload_n 3) 1 rfl) rfl rfl ?_
      obtain ⟨i1, h⟩ := h
      refine wp_iald 5 (dz dl_Entry_dropAsksEnded_0 14 22 (.iaload) 1 rfl) kd_132 n1 i1 ?_
      refine wp_iload_n (i := 1) (x := l1) (dz dl_Entry_dropAsksEnded_0 15 23 (.iload_n 1) 1 rfl) rfl rfl ?_
      refine wp_icmp_gt (tgt := 34) (dz dl_Entry_dropAsksEnded_0 16 24 (.if_icmp .gt (10)) 3 rfl) (by decide) (fun hc => ?_) (fun hc => ?_)
      · replace h := h.1 hc
        refine wp_iload_n (i := 2) (x := l2) (dz dl_Entry_dropAsksEnded_0 22 34 (.iload_n 2) 1 rfl) rfl rfl ?_
        refine wp_if_ne (tgt := 46) (dz dl_Entry_dropAsksEnded_0 23 35 (.ifCond .ne (11)) 3 rfl) (by decide) (fun hc => ?_) (fun hc => ?_)
        · replace h := h.1 hc
          refine wp_iconst (dz dl_Entry_dropAsksEnded_0 28 46 (.iconst (1)) 1 rfl) (v := (1 : Int32)) (by decide) ?_
          refine wp_goto (tgt := 51) (dz dl_Entry_dropAsksEnded_0 29 47 (.goto (4)) 3 rfl) (by decide) ?_
          refine wp_istore_n (i := 2) (dz dl_Entry_dropAsksEnded_0 31 51 (.istore_n 2) 1 rfl) rfl [qr 2 (some l0), qi l1, qi (1 : Int32), qi l3] (by decide) rfl ?_
          refine wp_iinc (i := 3) (v := l3 + 1) (dz dl_Entry_dropAsksEnded_0 32 52 (.iinc 3 (1)) 3 rfl) rfl (congrArg (fun z => l3 + z) (by decide)) [qr 2 (some l0), qi l1, qi (1 : Int32), qi (l3 + 1)] (by decide) rfl ?_
          refine wp_goto (tgt := 4) (dz dl_Entry_dropAsksEnded_0 33 55 (.goto (-51)) 3 rfl) (by decide) ?_
          exact wp_cut h ⟨Or.inr rfl, Or.inr rfl, Or.inr rfl, Or.inr rfl, trivial⟩
        · replace h := h.2 hc
          refine wp_aload_n (i := 0) (v := qr 2 (some l0)) (dz dl_Entry_dropAsksEnded_0 24 38 (.aload_n 0) 1 rfl) rfl rfl trivial ?_
          refine wp_iload_n (i := 3) (x := l3) (dz dl_Entry_dropAsksEnded_0 25 39 (.iload_n 3) 1 rfl) rfl rfl ?_
          refine wp_callV l0 0 [qi l3] [] (dz dl_Entry_dropAsksEnded_0 26 40 (.invokevirtual 36) 3 rfl) ok_Entry_hasAsk lm_Entry_36 (by decide) ws_Entry_hasAsk wv_Entry_hasAsk ⟨Nat.le_of_ble_eq_true rfl, Nat.le_of_ble_eq_true rfl⟩ pn_Entry_hasAsk (Nat.le_of_ble_eq_true rfl) (Nat.le_of_ble_eq_true rfl) rfl (Or.inl rfl) (Nat.zero_le _) (mt_mono h ?_)
          rintro _ g3 ⟨r3, rfl, h⟩ y3
          replace h := h y3.1
          show nnWP _ _ _ _ _ [qi r3] _ _
          refine wp_if_eq (tgt := 50) (dz dl_Entry_dropAsksEnded_0 27 43 (.ifCond .eq (7)) 3 rfl) (by decide) (fun hc => ?_) (fun hc => ?_)
          · replace h := h.1 hc
            refine wp_iconst (dz dl_Entry_dropAsksEnded_0 30 50 (.iconst (0)) 1 rfl) (v := (0 : Int32)) (by decide) ?_
            refine wp_istore_n (i := 2) (dz dl_Entry_dropAsksEnded_0 31 51 (.istore_n 2) 1 rfl) rfl [qr 2 (some l0), qi l1, qi (0 : Int32), qi l3] (by decide) rfl ?_
            refine wp_iinc (i := 3) (v := l3 + 1) (dz dl_Entry_dropAsksEnded_0 32 52 (.iinc 3 (1)) 3 rfl) rfl (congrArg (fun z => l3 + z) (by decide)) [qr 2 (some l0), qi l1, qi (0 : Int32), qi (l3 + 1)] (by decide) rfl ?_
            refine wp_goto (tgt := 4) (dz dl_Entry_dropAsksEnded_0 33 55 (.goto (-51)) 3 rfl) (by decide) ?_
            exact wp_cut h ⟨Or.inr rfl, Or.inr rfl, Or.inr rfl, Or.inr rfl, trivial⟩
          · replace h := h.2 hc
            refine wp_iconst (dz dl_Entry_dropAsksEnded_0 28 46 (.iconst (1)) 1 rfl) (v := (1 : Int32)) (by decide) ?_
            refine wp_goto (tgt := 51) (dz dl_Entry_dropAsksEnded_0 29 47 (.goto (4)) 3 rfl) (by decide) ?_
            refine wp_istore_n (i := 2) (dz dl_Entry_dropAsksEnded_0 31 51 (.istore_n 2) 1 rfl) rfl [qr 2 (some l0), qi l1, qi (1 : Int32), qi l3] (by decide) rfl ?_
            refine wp_iinc (i := 3) (v := l3 + 1) (dz dl_Entry_dropAsksEnded_0 32 52 (.iinc 3 (1)) 3 rfl) rfl (congrArg (fun z => l3 + z) (by decide)) [qr 2 (some l0), qi l1, qi (1 : Int32), qi (l3 + 1)] (by decide) rfl ?_
            refine wp_goto (tgt := 4) (dz dl_Entry_dropAsksEnded_0 33 55 (.goto (-51)) 3 rfl) (by decide) ?_
            exact wp_cut h ⟨Or.inr rfl, Or.inr rfl, Or.inr rfl, Or.inr rfl, trivial⟩
      · replace h := h.2 hc
        refine wp_aload_n (i := 0) (v := qr 2 (some l0)) (dz dl_Entry_dropAsksEnded_0 17 27 (.aload_n 0) 1 rfl) rfl rfl trivial ?_
        obtain ⟨n2, h⟩ := h
        refine wp_getA l0 5 (dz dl_Entry_dropAsksEnded_0 18 28 (.getfield 9) 3 rfl) lk_Entry_9 (q := 0) kd_131 rfl rfl n2 ?_
        refine wp_iload_n (i := 3) (x := l3) (dz dl_Entry_dropAsksEnded_0 19 31 (.iload_n 3) 1 rfl) rfl rfl ?_
        refine wp_iconst (dz dl_Entry_dropAsksEnded_0 20 32 (.iconst (-1)) 1 rfl) (v := (-1 : Int32)) (by decide) ?_
        have h := h _ rfl
        refine wp_iast 5 (dz dl_Entry_dropAsksEnded_0 21 33 (.iastore) 1 rfl) kd_131 n2 i1 rfl ?_
        refine wp_iload_n (i := 2) (x := l2) (dz dl_Entry_dropAsksEnded_0 22 34 (.iload_n 2) 1 rfl) rfl rfl ?_
        refine wp_if_ne (tgt := 46) (dz dl_Entry_dropAsksEnded_0 23 35 (.ifCond .ne (11)) 3 rfl) (by decide) (fun hc => ?_) (fun hc => ?_)
        · replace h := h.1 hc
          refine wp_iconst (dz dl_Entry_dropAsksEnded_0 28 46 (.iconst (1)) 1 rfl) (v := (1 : Int32)) (by decide) ?_
          refine wp_goto (tgt := 51) (dz dl_Entry_dropAsksEnded_0 29 47 (.goto (4)) 3 rfl) (by decide) ?_
          refine wp_istore_n (i := 2) (dz dl_Entry_dropAsksEnded_0 31 51 (.istore_n 2) 1 rfl) rfl [qr 2 (some l0), qi l1, qi (1 : Int32), qi l3] (by decide) rfl ?_
          refine wp_iinc (i := 3) (v := l3 + 1) (dz dl_Entry_dropAsksEnded_0 32 52 (.iinc 3 (1)) 3 rfl) rfl (congrArg (fun z => l3 + z) (by decide)) [qr 2 (some l0), qi l1, qi (1 : Int32), qi (l3 + 1)] (by decide) rfl ?_
          refine wp_goto (tgt := 4) (dz dl_Entry_dropAsksEnded_0 33 55 (.goto (-51)) 3 rfl) (by decide) ?_
          exact wp_cut h ⟨Or.inr rfl, Or.inr rfl, Or.inr rfl, Or.inr rfl, trivial⟩
        · replace h := h.2 hc
          refine wp_aload_n (i := 0) (v := qr 2 (some l0)) (dz dl_Entry_dropAsksEnded_0 24 38 (.aload_n 0) 1 rfl) rfl rfl trivial ?_
          refine wp_iload_n (i := 3) (x := l3) (dz dl_Entry_dropAsksEnded_0 25 39 (.iload_n 3) 1 rfl) rfl rfl ?_
          refine wp_callV l0 0 [qi l3] [] (dz dl_Entry_dropAsksEnded_0 26 40 (.invokevirtual 36) 3 rfl) ok_Entry_hasAsk lm_Entry_36 (by decide) ws_Entry_hasAsk wv_Entry_hasAsk ⟨Nat.le_of_ble_eq_true rfl, Nat.le_of_ble_eq_true rfl⟩ pn_Entry_hasAsk (Nat.le_of_ble_eq_true rfl) (Nat.le_of_ble_eq_true rfl) rfl (Or.inl rfl) (Nat.zero_le _) (mt_mono h ?_)
          rintro _ g5 ⟨r4, rfl, h⟩ y4
          replace h := h y4.1
          show nnWP _ _ _ _ _ [qi r4] _ _
          refine wp_if_eq (tgt := 50) (dz dl_Entry_dropAsksEnded_0 27 43 (.ifCond .eq (7)) 3 rfl) (by decide) (fun hc => ?_) (fun hc => ?_)
          · replace h := h.1 hc
            refine wp_iconst (dz dl_Entry_dropAsksEnded_0 30 50 (.iconst (0)) 1 rfl) (v := (0 : Int32)) (by decide) ?_
            refine wp_istore_n (i := 2) (dz dl_Entry_dropAsksEnded_0 31 51 (.istore_n 2) 1 rfl) rfl [qr 2 (some l0), qi l1, qi (0 : Int32), qi l3] (by decide) rfl ?_
            refine wp_iinc (i := 3) (v := l3 + 1) (dz dl_Entry_dropAsksEnded_0 32 52 (.iinc 3 (1)) 3 rfl) rfl (congrArg (fun z => l3 + z) (by decide)) [qr 2 (some l0), qi l1, qi (0 : Int32), qi (l3 + 1)] (by decide) rfl ?_
            refine wp_goto (tgt := 4) (dz dl_Entry_dropAsksEnded_0 33 55 (.goto (-51)) 3 rfl) (by decide) ?_
            exact wp_cut h ⟨Or.inr rfl, Or.inr rfl, Or.inr rfl, Or.inr rfl, trivial⟩
          · replace h := h.2 hc
            refine wp_iconst (dz dl_Entry_dropAsksEnded_0 28 46 (.iconst (1)) 1 rfl) (v := (1 : Int32)) (by decide) ?_
            refine wp_goto (tgt := 51) (dz dl_Entry_dropAsksEnded_0 29 47 (.goto (4)) 3 rfl) (by decide) ?_
            refine wp_istore_n (i := 2) (dz dl_Entry_dropAsksEnded_0 31 51 (.istore_n 2) 1 rfl) rfl [qr 2 (some l0), qi l1, qi (1 : Int32), qi l3] (by decide) rfl ?_
            refine wp_iinc (i := 3) (v := l3 + 1) (dz dl_Entry_dropAsksEnded_0 32 52 (.iinc 3 (1)) 3 rfl) rfl (congrArg (fun z => l3 + z) (by decide)) [qr 2 (some l0), qi l1, qi (1 : Int32), qi (l3 + 1)] (by decide) rfl ?_
            refine wp_goto (tgt := 4) (dz dl_Entry_dropAsksEnded_0 33 55 (.goto (-51)) 3 rfl) (by decide) ?_
            exact wp_cut h ⟨Or.inr rfl, Or.inr rfl, Or.inr rfl, Or.inr rfl, trivial⟩

theorem b_Face_init_0 {X : Nat × (Nat → Int32)} {k : Nat} {g : sg} {l0 : Nat} {Z : sg → Prop} (h : ∀ g1, g1 = pI g 192 l0 0 (-1 : Int32) → ∀ g2, g2 = pI g1 193 l0 0 (-1 : Int32) → 1 ≤ k ∧ gA g2 195 l0 = none ∧ ∀ g3, g3 = pA g2 195 l0 8 → Z g3) : nnWP X M_Face_init k 0 [qr 3 (some l0)] [] g (zV Z) := by
  refine wp_aload_n (i := 0) (v := qr 3 (some l0)) (dz dl_Face_init_0 0 0 (.aload_n 0) 1 rfl) rfl rfl trivial ?_
  refine wp_objInit l0 (dz dl_Face_init_0 1 1 (.invokespecial 3) 3 rfl) wm_Face_3 w_oi w_oc (by decide) (by decide) (Nat.le_of_ble_eq_true rfl) rfl ?_
  refine wp_aload_n (i := 0) (v := qr 3 (some l0)) (dz dl_Face_init_0 2 4 (.aload_n 0) 1 rfl) rfl rfl trivial ?_
  refine wp_iconst (dz dl_Face_init_0 3 5 (.iconst (-1)) 1 rfl) (v := (-1 : Int32)) (by decide) ?_
  have h := h _ rfl
  refine wp_putI l0 (dz dl_Face_init_0 4 6 (.putfield 9) 3 rfl) lk_Face_9 kd_192 rfl rfl rfl (okI_0 _) rfl ?_
  refine wp_aload_n (i := 0) (v := qr 3 (some l0)) (dz dl_Face_init_0 5 9 (.aload_n 0) 1 rfl) rfl rfl trivial ?_
  refine wp_iconst (dz dl_Face_init_0 6 10 (.iconst (-1)) 1 rfl) (v := (-1 : Int32)) (by decide) ?_
  have h := h _ rfl
  refine wp_putI l0 (dz dl_Face_init_0 7 11 (.putfield 15) 3 rfl) lk_Face_15 kd_193 rfl rfl rfl (okI_0 _) rfl ?_
  refine wp_aload_n (i := 0) (v := qr 3 (some l0)) (dz dl_Face_init_0 8 14 (.aload_n 0) 1 rfl) rfl rfl trivial ?_
  refine wp_bipush (dz dl_Face_init_0 9 15 (.bipush (8)) 2 rfl) (v := (8 : Int32)) (by decide) ?_
  obtain ⟨u1, h⟩ := h
  obtain ⟨q1, h⟩ := h
  have h := h _ rfl
  refine wp_newR (n := 8) l0 1 (dz dl_Face_init_0 10 17 (.anewarray 18) 3 rfl) (dz dl_Face_init_0 11 20 (.putfield 20) 3 rfl) wf_Face_20 kd_195 (by decide) wc_Face_18 (by decide) rfl rfl rfl (by decide) (by decide) (by decide) u1 q1 rfl ?_
  exact wp_rt none (rt_V rfl (dz dl_Face_init_0 12 23 (.return_) 1 rfl)) ⟨rfl, h⟩
theorem t_Face_init {X : Nat × (Nat → Int32)} {k : Nat} {g : sg} {l0 : Nat} {Z : sg → Prop} (h : ∀ g1, g1 = pI g 192 l0 0 (-1 : Int32) → ∀ g2, g2 = pI g1 193 l0 0 (-1 : Int32) → 1 ≤ k ∧ gA g2 195 l0 = none ∧ ∀ g3, g3 = pA g2 195 l0 8 → Z g3) : nnMT X M_Face_init k [qr 3 (some l0)] g (zV Z) := b_Face_init_0 h

theorem b_Face_isLinked_0 {X : Nat × (Nat → Int32)} {k : Nat} {g : sg} {l0 : Nat} {Z : Int32 → sg → Prop} (h : ((gI g 192 l0 0) = (-1 : Int32) → Z (0 : Int32) g) ∧ (¬ (gI g 192 l0 0) = (-1 : Int32) → Z (1 : Int32) g)) : nnWP X M_Face_isLinked k 0 [qr 3 (some l0)] [] g (zI Z) := by
  refine wp_aload_n (i := 0) (v := qr 3 (some l0)) (dz dl_Face_isLinked_0 0 0 (.aload_n 0) 1 rfl) rfl rfl trivial ?_
  refine wp_getI l0 (dz dl_Face_isLinked_0 1 1 (.getfield 9) 3 rfl) lk_Face_9 kd_192 rfl rfl ?_
  refine wp_iconst (dz dl_Face_isLinked_0 2 4 (.iconst (-1)) 1 rfl) (v := (-1 : Int32)) (by decide) ?_
  refine wp_icmp_eq (tgt := 12) (dz dl_Face_isLinked_0 3 5 (.if_icmp .eq (7)) 3 rfl) (by decide) (fun hc => ?_) (fun hc => ?_)
  · replace h := h.1 hc
    refine wp_iconst (dz dl_Face_isLinked_0 6 12 (.iconst (0)) 1 rfl) (v := (0 : Int32)) (by decide) ?_
    exact wp_rt (qi _) (rt_Z rfl (Or.inl rfl) (dz dl_Face_isLinked_0 7 13 (.ireturn) 1 rfl)) ⟨_, rfl, h⟩
  · replace h := h.2 hc
    refine wp_iconst (dz dl_Face_isLinked_0 4 8 (.iconst (1)) 1 rfl) (v := (1 : Int32)) (by decide) ?_
    refine wp_goto (tgt := 13) (dz dl_Face_isLinked_0 5 9 (.goto (4)) 3 rfl) (by decide) ?_
    exact wp_rt (qi _) (rt_Z rfl (Or.inr rfl) (dz dl_Face_isLinked_0 7 13 (.ireturn) 1 rfl)) ⟨_, rfl, h⟩
theorem t_Face_isLinked {X : Nat × (Nat → Int32)} {k : Nat} {g : sg} {l0 : Nat} {Z : Int32 → sg → Prop} (h : ((gI g 192 l0 0) = (-1 : Int32) → Z (0 : Int32) g) ∧ (¬ (gI g 192 l0 0) = (-1 : Int32) → Z (1 : Int32) g)) : nnMT X M_Face_isLinked k [qr 3 (some l0)] g (zI Z) := b_Face_isLinked_0 h

theorem b_Face_join_0 {X : Nat × (Nat → Int32)} {k : Nat} {g : sg} {l0 : Nat} {l1 : Int32} {l2 : Int32} {Z : sg → Prop} (h : ∀ g1, g1 = pI g 192 l0 0 l1 → ∀ g2, g2 = pI g1 193 l0 0 l2 → ∀ g3, g3 = pI g2 194 l0 0 (1 : Int32) → Z g3) : nnWP X M_Face_join k 0 [qr 3 (some l0), qi l1, qi l2] [] g (zV Z) := by
  refine wp_aload_n (i := 0) (v := qr 3 (some l0)) (dz dl_Face_join_0 0 0 (.aload_n 0) 1 rfl) rfl rfl trivial ?_
  refine wp_iload_n (i := 1) (x := l1) (dz dl_Face_join_0 1 1 (.iload_n 1) 1 rfl) rfl rfl ?_
  have h := h _ rfl
  refine wp_putI l0 (dz dl_Face_join_0 2 2 (.putfield 9) 3 rfl) lk_Face_9 kd_192 rfl rfl rfl (okI_0 _) rfl ?_
  refine wp_aload_n (i := 0) (v := qr 3 (some l0)) (dz dl_Face_join_0 3 5 (.aload_n 0) 1 rfl) rfl rfl trivial ?_
  refine wp_iload_n (i := 2) (x := l2) (dz dl_Face_join_0 4 6 (.iload_n 2) 1 rfl) rfl rfl ?_
  have h := h _ rfl
  refine wp_putI l0 (dz dl_Face_join_0 5 7 (.putfield 15) 3 rfl) lk_Face_15 kd_193 rfl rfl rfl (okI_0 _) rfl ?_
  refine wp_aload_n (i := 0) (v := qr 3 (some l0)) (dz dl_Face_join_0 6 10 (.aload_n 0) 1 rfl) rfl rfl trivial ?_
  refine wp_iconst (dz dl_Face_join_0 7 11 (.iconst (1)) 1 rfl) (v := (1 : Int32)) (by decide) ?_
  have h := h _ rfl
  refine wp_putI l0 (dz dl_Face_join_0 8 12 (.putfield 24) 3 rfl) lk_Face_24 kd_194 rfl rfl rfl (okI_2 (Or.inr rfl)) rfl ?_
  exact wp_rt none (rt_V rfl (dz dl_Face_join_0 9 15 (.return_) 1 rfl)) ⟨rfl, h⟩
theorem t_Face_join {X : Nat × (Nat → Int32)} {k : Nat} {g : sg} {l0 : Nat} {l1 : Int32} {l2 : Int32} {Z : sg → Prop} (h : ∀ g1, g1 = pI g 192 l0 0 l1 → ∀ g2, g2 = pI g1 193 l0 0 l2 → ∀ g3, g3 = pI g2 194 l0 0 (1 : Int32) → Z g3) : nnMT X M_Face_join k [qr 3 (some l0), qi l1, qi l2] g (zV Z) := b_Face_join_0 h

theorem b_Face_set_0 {X : Nat × (Nat → Int32)} {k : Nat} {g : sg} {l0 : Nat} {l1 : Int32} {Z : sg → Prop} (h : okI 2 l1 ∧ ∀ g1, g1 = pI g 194 l0 0 l1 → (¬ l1 = 0 → Z g1) ∧ (l1 = 0 → ∀ g2, g2 = pI g1 196 l0 0 (0 : Int32) → Z g2)) : nnWP X M_Face_set k 0 [qr 3 (some l0), qi l1] [] g (zV Z) := by
  refine wp_aload_n (i := 0) (v := qr 3 (some l0)) (dz dl_Face_set_0 0 0 (.aload_n 0) 1 rfl) rfl rfl trivial ?_
  refine wp_iload_n (i := 1) (x := l1) (dz dl_Face_set_0 1 1 (.iload_n 1) 1 rfl) rfl rfl ?_
  obtain ⟨o1, h⟩ := h
  have h := h _ rfl
  refine wp_putI l0 (dz dl_Face_set_0 2 2 (.putfield 24) 3 rfl) lk_Face_24 kd_194 rfl rfl rfl o1 rfl ?_
  refine wp_iload_n (i := 1) (x := l1) (dz dl_Face_set_0 3 5 (.iload_n 1) 1 rfl) rfl rfl ?_
  refine wp_if_ne (tgt := 14) (dz dl_Face_set_0 4 6 (.ifCond .ne (8)) 3 rfl) (by decide) (fun hc => ?_) (fun hc => ?_)
  · replace h := h.1 hc
    exact wp_rt none (rt_V rfl (dz dl_Face_set_0 8 14 (.return_) 1 rfl)) ⟨rfl, h⟩
  · replace h := h.2 hc
    refine wp_aload_n (i := 0) (v := qr 3 (some l0)) (dz dl_Face_set_0 5 9 (.aload_n 0) 1 rfl) rfl rfl trivial ?_
    refine wp_iconst (dz dl_Face_set_0 6 10 (.iconst (0)) 1 rfl) (v := (0 : Int32)) (by decide) ?_
    have h := h _ rfl
    refine wp_putI l0 (dz dl_Face_set_0 7 11 (.putfield 28) 3 rfl) lk_Face_28 kd_196 rfl rfl rfl (okI_0 _) rfl ?_
    exact wp_rt none (rt_V rfl (dz dl_Face_set_0 8 14 (.return_) 1 rfl)) ⟨rfl, h⟩
theorem t_Face_set {X : Nat × (Nat → Int32)} {k : Nat} {g : sg} {l0 : Nat} {l1 : Int32} {Z : sg → Prop} (h : okI 2 l1 ∧ ∀ g1, g1 = pI g 194 l0 0 l1 → (¬ l1 = 0 → Z g1) ∧ (l1 = 0 → ∀ g2, g2 = pI g1 196 l0 0 (0 : Int32) → Z g2)) : nnMT X M_Face_set k [qr 3 (some l0), qi l1] g (zV Z) := b_Face_set_0 h

theorem b_Face_put_0 {X : Nat × (Nat → Int32)} {k : Nat} {g : sg} {l0 : Nat} {l1 : Option Nat} {Z : Int32 → sg → Prop} (h : ((gI g 194 l0 0) = 0 → Z (0 : Int32) g) ∧ (¬ (gI g 194 l0 0) = 0 → ((gI g 196 l0 0) < (8 : Int32) → gA g 195 l0 = some 8 ∧ vp_in (gI g 196 l0 0) 8 ∧ ∀ g1, g1 = pR g 195 l0 (gI g 196 l0 0).toNatClampNeg l1 → ∀ g2, g2 = pI g1 196 l0 0 ((gI g1 196 l0 0) + (1 : Int32)) → Z (1 : Int32) g2) ∧ (¬ (gI g 196 l0 0) < (8 : Int32) → Z (0 : Int32) g))) : nnWP X M_Face_put k 0 [qr 3 (some l0), qr 7 l1] [] g (zI Z) := by
  refine wp_aload_n (i := 0) (v := qr 3 (some l0)) (dz dl_Face_put_0 0 0 (.aload_n 0) 1 rfl) rfl rfl trivial ?_
  refine wp_getI l0 (dz dl_Face_put_0 1 1 (.getfield 24) 3 rfl) lk_Face_24 kd_194 rfl rfl ?_
  refine wp_if_eq (tgt := 16) (dz dl_Face_put_0 2 4 (.ifCond .eq (12)) 3 rfl) (by decide) (fun hc => ?_) (fun hc => ?_)
  · replace h := h.1 hc
    refine wp_iconst (dz dl_Face_put_0 7 16 (.iconst (0)) 1 rfl) (v := (0 : Int32)) (by decide) ?_
    exact wp_rt (qi _) (rt_Z rfl (Or.inl rfl) (dz dl_Face_put_0 8 17 (.ireturn) 1 rfl)) ⟨_, rfl, h⟩
  · replace h := h.2 hc
    refine wp_aload_n (i := 0) (v := qr 3 (some l0)) (dz dl_Face_put_0 3 7 (.aload_n 0) 1 rfl) rfl rfl trivial ?_
    refine wp_getI l0 (dz dl_Face_put_0 4 8 (.getfield 28) 3 rfl) lk_Face_28 kd_196 rfl rfl ?_
    refine wp_bipush (dz dl_Face_put_0 5 11 (.bipush (8)) 2 rfl) (v := (8 : Int32)) (by decide) ?_
    refine wp_icmp_lt (tgt := 18) (dz dl_Face_put_0 6 13 (.if_icmp .lt (5)) 3 rfl) (by decide) (fun hc => ?_) (fun hc => ?_)
    · replace h := h.1 hc
      refine wp_aload_n (i := 0) (v := qr 3 (some l0)) (dz dl_Face_put_0 9 18 (.aload_n 0) 1 rfl) rfl rfl trivial ?_
      obtain ⟨n1, h⟩ := h
      refine wp_getA l0 8 (dz dl_Face_put_0 10 19 (.getfield 20) 3 rfl) lk_Face_20 (q := 1) kd_195 rfl rfl n1 ?_
      refine wp_aload_n (i := 0) (v := qr 3 (some l0)) (dz dl_Face_put_0 11 22 (.aload_n 0) 1 rfl) rfl rfl trivial ?_
      refine wp_getI l0 (dz dl_Face_put_0 12 23 (.getfield 28) 3 rfl) lk_Face_28 kd_196 rfl rfl ?_
      refine wp_aload_n (i := 1) (v := qr 7 l1) (dz dl_Face_put_0 13 26 (.aload_n 1) 1 rfl) rfl rfl trivial ?_
      obtain ⟨i1, h⟩ := h
      have h := h _ rfl
      refine wp_aast 8 (dz dl_Face_put_0 14 27 (.aastore) 1 rfl) kd_195 (by decide) n1 i1 rfl ?_
      refine wp_aload_n (i := 0) (v := qr 3 (some l0)) (dz dl_Face_put_0 15 28 (.aload_n 0) 1 rfl) rfl rfl trivial ?_
      refine wp_dup (dz dl_Face_put_0 16 29 (.dup) 1 rfl) ?_
      refine wp_getI l0 (dz dl_Face_put_0 17 30 (.getfield 28) 3 rfl) lk_Face_28 kd_196 rfl rfl ?_
      refine wp_iconst (dz dl_Face_put_0 18 33 (.iconst (1)) 1 rfl) (v := (1 : Int32)) (by decide) ?_
      refine wp_iadd (dz dl_Face_put_0 19 34 (.iadd) 1 rfl) ?_
      have h := h _ rfl
      refine wp_putI l0 (dz dl_Face_put_0 20 35 (.putfield 28) 3 rfl) lk_Face_28 kd_196 rfl rfl rfl (okI_0 _) rfl ?_
      refine wp_iconst (dz dl_Face_put_0 21 38 (.iconst (1)) 1 rfl) (v := (1 : Int32)) (by decide) ?_
      exact wp_rt (qi _) (rt_Z rfl (Or.inr rfl) (dz dl_Face_put_0 22 39 (.ireturn) 1 rfl)) ⟨_, rfl, h⟩
    · replace h := h.2 hc
      refine wp_iconst (dz dl_Face_put_0 7 16 (.iconst (0)) 1 rfl) (v := (0 : Int32)) (by decide) ?_
      exact wp_rt (qi _) (rt_Z rfl (Or.inl rfl) (dz dl_Face_put_0 8 17 (.ireturn) 1 rfl)) ⟨_, rfl, h⟩
theorem t_Face_put {X : Nat × (Nat → Int32)} {k : Nat} {g : sg} {l0 : Nat} {l1 : Option Nat} {Z : Int32 → sg → Prop} (h : ((gI g 194 l0 0) = 0 → Z (0 : Int32) g) ∧ (¬ (gI g 194 l0 0) = 0 → ((gI g 196 l0 0) < (8 : Int32) → gA g 195 l0 = some 8 ∧ vp_in (gI g 196 l0 0) 8 ∧ ∀ g1, g1 = pR g 195 l0 (gI g 196 l0 0).toNatClampNeg l1 → ∀ g2, g2 = pI g1 196 l0 0 ((gI g1 196 l0 0) + (1 : Int32)) → Z (1 : Int32) g2) ∧ (¬ (gI g 196 l0 0) < (8 : Int32) → Z (0 : Int32) g))) : nnMT X M_Face_put k [qr 3 (some l0), qr 7 l1] g (zI Z) := b_Face_put_0 h

theorem b_Face_first_0 {X : Nat × (Nat → Int32)} {k : Nat} {g : sg} {l0 : Nat} {Z : Option Nat → sg → Prop} (h : ((gI g 196 l0 0) ≤ 0 → Z none g) ∧ (¬ (gI g 196 l0 0) ≤ 0 → gA g 195 l0 = some 8 ∧ Z (gR g 195 l0 (0 : Int32).toNatClampNeg) g)) : nnWP X M_Face_first k 0 [qr 3 (some l0)] [] g (zR 7 Z) := by
  refine wp_aload_n (i := 0) (v := qr 3 (some l0)) (dz dl_Face_first_0 0 0 (.aload_n 0) 1 rfl) rfl rfl trivial ?_
  refine wp_getI l0 (dz dl_Face_first_0 1 1 (.getfield 28) 3 rfl) lk_Face_28 kd_196 rfl rfl ?_
  refine wp_if_le (tgt := 16) (dz dl_Face_first_0 2 4 (.ifCond .le (12)) 3 rfl) (by decide) (fun hc => ?_) (fun hc => ?_)
  · replace h := h.1 hc
    refine wp_null 7 (dz dl_Face_first_0 8 16 (.aconst_null) 1 rfl) ?_
    exact wp_rt (qr 7 _) (rt_R rfl (dz dl_Face_first_0 9 17 (.areturn) 1 rfl)) ⟨_, rfl, h⟩
  · replace h := h.2 hc
    refine wp_aload_n (i := 0) (v := qr 3 (some l0)) (dz dl_Face_first_0 3 7 (.aload_n 0) 1 rfl) rfl rfl trivial ?_
    obtain ⟨n1, h⟩ := h
    refine wp_getA l0 8 (dz dl_Face_first_0 4 8 (.getfield 20) 3 rfl) lk_Face_20 (q := 1) kd_195 rfl rfl n1 ?_
    refine wp_iconst (dz dl_Face_first_0 5 11 (.iconst (0)) 1 rfl) (v := (0 : Int32)) (by decide) ?_
    refine wp_aald 8 (dz dl_Face_first_0 6 12 (.aaload) 1 rfl) kd_195 n1 (show ¬ ((0 : Int32) < 0 ∨ 8 ≤ (0 : Int32).toNatClampNeg) by decide) ?_
    refine wp_goto (tgt := 17) (dz dl_Face_first_0 7 13 (.goto (4)) 3 rfl) (by decide) ?_
    exact wp_rt (qr 7 _) (rt_R rfl (dz dl_Face_first_0 9 17 (.areturn) 1 rfl)) ⟨_, rfl, h⟩
theorem t_Face_first {X : Nat × (Nat → Int32)} {k : Nat} {g : sg} {l0 : Nat} {Z : Option Nat → sg → Prop} (h : ((gI g 196 l0 0) ≤ 0 → Z none g) ∧ (¬ (gI g 196 l0 0) ≤ 0 → gA g 195 l0 = some 8 ∧ Z (gR g 195 l0 (0 : Int32).toNatClampNeg) g)) : nnMT X M_Face_first k [qr 3 (some l0)] g (zR 7 Z) := b_Face_first_0 h

theorem b_Face_dropFirst_0 {X : Nat × (Nat → Int32)} {k : Nat} {g : sg} {l0 : Nat} {Z : sg → Prop} (h : ((gI g 196 l0 0) ≤ 0 → Z g) ∧ (¬ (gI g 196 l0 0) ≤ 0 → ∀ g1, g1 = pI g 196 l0 0 ((gI g 196 l0 0) - (1 : Int32)) → nnWP X M_Face_dropFirst k 19 [qr 3 (some l0), qi (0 : Int32)] [] g1 (zV Z))) : nnWP X M_Face_dropFirst k 0 [qr 3 (some l0), none] [] g (zV Z) := by
  refine wp_aload_n (i := 0) (v := qr 3 (some l0)) (dz dl_Face_dropFirst_0 0 0 (.aload_n 0) 1 rfl) rfl rfl trivial ?_
  refine wp_getI l0 (dz dl_Face_dropFirst_0 1 1 (.getfield 28) 3 rfl) lk_Face_28 kd_196 rfl rfl ?_
  refine wp_if_le (tgt := 47) (dz dl_Face_dropFirst_0 2 4 (.ifCond .le (43)) 3 rfl) (by decide) (fun hc => ?_) (fun hc => ?_)
  · replace h := h.1 hc
    exact wp_rt none (rt_V rfl (dz dl_Face_dropFirst_0 27 47 (.return_) 1 rfl)) ⟨rfl, h⟩
  · replace h := h.2 hc
    refine wp_aload_n (i := 0) (v := qr 3 (some l0)) (dz dl_Face_dropFirst_0 3 7 (.aload_n 0) 1 rfl) rfl rfl trivial ?_
    refine wp_dup (dz dl_Face_dropFirst_0 4 8 (.dup) 1 rfl) ?_
    refine wp_getI l0 (dz dl_Face_dropFirst_0 5 9 (.getfield 28) 3 rfl) lk_Face_28 kd_196 rfl rfl ?_
    refine wp_iconst (dz dl_Face_dropFirst_0 6 12 (.iconst (1)) 1 rfl) (v := (1 : Int32)) (by decide) ?_
    refine wp_isub (dz dl_Face_dropFirst_0 7 13 (.isub) 1 rfl) ?_
    have h := h _ rfl
    refine wp_putI l0 (dz dl_Face_dropFirst_0 8 14 (.putfield 28) 3 rfl) lk_Face_28 kd_196 rfl rfl rfl (okI_0 _) rfl ?_
    refine wp_iconst (dz dl_Face_dropFirst_0 9 17 (.iconst (0)) 1 rfl) (v := (0 : Int32)) (by decide) ?_
    refine wp_istore_n (i := 1) (dz dl_Face_dropFirst_0 10 18 (.istore_n 1) 1 rfl) rfl [qr 3 (some l0), qi (0 : Int32)] (by decide) rfl ?_
    exact wp_cut h ⟨Or.inr rfl, Or.inr rfl, trivial⟩
theorem t_Face_dropFirst {X : Nat × (Nat → Int32)} {k : Nat} {g : sg} {l0 : Nat} {Z : sg → Prop} (h : ((gI g 196 l0 0) ≤ 0 → Z g) ∧ (¬ (gI g 196 l0 0) ≤ 0 → ∀ g1, g1 = pI g 196 l0 0 ((gI g 196 l0 0) - (1 : Int32)) → nnWP X M_Face_dropFirst k 19 [qr 3 (some l0), qi (0 : Int32)] [] g1 (zV Z))) : nnMT X M_Face_dropFirst k [qr 3 (some l0)] g (zV Z) := b_Face_dropFirst_0 h

theorem b_Face_dropFirst_19 {X : Nat × (Nat → Int32)} {k : Nat} {g : sg} {l0 : Nat} {l1 : Int32} {Z : sg → Prop} (h : ((gI g 196 l0 0) ≤ l1 → Z g) ∧ (¬ (gI g 196 l0 0) ≤ l1 → gA g 195 l0 = some 8 ∧ vp_in (l1 + (1 : Int32)) 8 ∧ vp_in l1 8 ∧ ∀ g1, g1 = pR g 195 l0 l1.toNatClampNeg (gR g 195 l0 (l1 + (1 : Int32)).toNatClampNeg) → nnWP X M_Face_dropFirst k 19 [qr 3 (some l0), qi (l1 + 1)] [] g1 (zV Z))) : nnWP X M_Face_dropFirst k 19 [qr 3 (some l0), qi l1] [] g (zV Z) := by
  refine wp_iload_n (i := 1) (x := l1) (dz dl_Face_dropFirst_0 11 19 (.iload_n 1) 1 rfl) rfl rfl ?_
  refine wp_aload_n (i := 0) (v := qr 3 (some l0)) (dz dl_Face_dropFirst_0 12 20 (.aload_n 0) 1 rfl) rfl rfl trivial ?_
  refine wp_getI l0 (dz dl_Face_dropFirst_0 13 21 (.getfield 28) 3 rfl) lk_Face_28 kd_196 rfl rfl ?_
  refine wp_icmp_ge (tgt := 47) (dz dl_Face_dropFirst_0 14 24 (.if_icmp .ge (23)) 3 rfl) (by decide) (fun hc => ?_) (fun hc => ?_)
  · replace h := h.1 hc
    exact wp_rt none (rt_V rfl (dz dl_Face_dropFirst_0 27 47 (.return_) 1 rfl)) ⟨rfl, h⟩
  · replace h := h.2 hc
    refine wp_aload_n (i := 0) (v := qr 3 (some l0)) (dz dl_Face_dropFirst_0 15 27 (.aload_n 0) 1 rfl) rfl rfl trivial ?_
    obtain ⟨n1, h⟩ := h
    refine wp_getA l0 8 (dz dl_Face_dropFirst_0 16 28 (.getfield 20) 3 rfl) lk_Face_20 (q := 1) kd_195 rfl rfl n1 ?_
    refine wp_iload_n (i := 1) (x := l1) (dz dl_Face_dropFirst_0 17 31 (.iload_n 1) 1 rfl) rfl rfl ?_
    refine wp_aload_n (i := 0) (v := qr 3 (some l0)) (dz dl_Face_dropFirst_0 18 32 (.aload_n 0) 1 rfl) rfl rfl trivial ?_
    refine wp_getA l0 8 (dz dl_Face_dropFirst_0 19 33 (.getfield 20) 3 rfl) lk_Face_20 (q := 1) kd_195 rfl rfl n1 ?_
    refine wp_iload_n (i := 1) (x := l1) (dz dl_Face_dropFirst_0 20 36 (.iload_n 1) 1 rfl) rfl rfl ?_
    refine wp_iconst (dz dl_Face_dropFirst_0 21 37 (.iconst (1)) 1 rfl) (v := (1 : Int32)) (by decide) ?_
    refine wp_iadd (dz dl_Face_dropFirst_0 22 38 (.iadd) 1 rfl) ?_
    obtain ⟨i1, h⟩ := h
    refine wp_aald 8 (dz dl_Face_dropFirst_0 23 39 (.aaload) 1 rfl) kd_195 n1 i1 ?_
    obtain ⟨i2, h⟩ := h
    have h := h _ rfl
    refine wp_aast 8 (dz dl_Face_dropFirst_0 24 40 (.aastore) 1 rfl) kd_195 (by decide) n1 i2 rfl ?_
    refine wp_iinc (i := 1) (v := l1 + 1) (dz dl_Face_dropFirst_0 25 41 (.iinc 1 (1)) 3 rfl) rfl (congrArg (fun z => l1 + z) (by decide)) [qr 3 (some l0), qi (l1 + 1)] (by decide) rfl ?_
    refine wp_goto (tgt := 19) (dz dl_Face_dropFirst_0 26 44 (.goto (-25)) 3 rfl) (by decide) ?_
    exact wp_cut h ⟨Or.inr rfl, Or.inr rfl, trivial⟩

theorem b_Fetch_init_0 {X : Nat × (Nat → Int32)} {k : Nat} {g : sg} {l0 : Nat} {Z : sg → Prop} (h : 1 ≤ k ∧ gA g 259 l0 = none ∧ ∀ g1, g1 = pA g 259 l0 10 → 1 ≤ (k - 1) ∧ gA g1 260 l0 = none ∧ ∀ g2, g2 = pA g1 260 l0 10 → 1 ≤ (k - 1 - 1) ∧ gA g2 261 l0 = none ∧ ∀ g3, g3 = pA g2 261 l0 10 → 1 ≤ (k - 1 - 1 - 1) ∧ gA g3 262 l0 = none ∧ ∀ g4, g4 = pA g3 262 l0 10 → Z g4) : nnWP X M_Fetch_init k 0 [qr 4 (some l0)] [] g (zV Z) := by
  refine wp_aload_n (i := 0) (v := qr 4 (some l0)) (dz dl_Fetch_init_0 0 0 (.aload_n 0) 1 rfl) rfl rfl trivial ?_
  refine wp_objInit l0 (dz dl_Fetch_init_0 1 1 (.invokespecial 3) 3 rfl) wm_Fetch_3 w_oi w_oc (by decide) (by decide) (Nat.le_of_ble_eq_true rfl) rfl ?_
  refine wp_aload_n (i := 0) (v := qr 4 (some l0)) (dz dl_Fetch_init_0 2 4 (.aload_n 0) 1 rfl) rfl rfl trivial ?_
  refine wp_bipush (dz dl_Fetch_init_0 3 5 (.bipush (10)) 2 rfl) (v := (10 : Int32)) (by decide) ?_
  obtain ⟨u1, h⟩ := h
  obtain ⟨q1, h⟩ := h
  have h := h _ rfl
  refine wp_newA (n := 10) l0 1 (dz dl_Fetch_init_0 4 7 (.newarray .int) 2 rfl) (dz dl_Fetch_init_0 5 9 (.putfield 9) 3 rfl) wf_Fetch_9 kd_259 rfl (by decide) (by decide) wa_0 rfl rfl rfl (by decide) (by decide) (by decide) u1 q1 rfl ?_
  refine wp_aload_n (i := 0) (v := qr 4 (some l0)) (dz dl_Fetch_init_0 6 12 (.aload_n 0) 1 rfl) rfl rfl trivial ?_
  refine wp_bipush (dz dl_Fetch_init_0 7 13 (.bipush (10)) 2 rfl) (v := (10 : Int32)) (by decide) ?_
  obtain ⟨u2, h⟩ := h
  obtain ⟨q2, h⟩ := h
  have h := h _ rfl
  refine wp_newA (n := 10) l0 1 (dz dl_Fetch_init_0 8 15 (.newarray .int) 2 rfl) (dz dl_Fetch_init_0 9 17 (.putfield 15) 3 rfl) wf_Fetch_15 kd_260 rfl (by decide) (by decide) wa_0 rfl rfl rfl (by decide) (by decide) (by decide) u2 q2 rfl ?_
  refine wp_aload_n (i := 0) (v := qr 4 (some l0)) (dz dl_Fetch_init_0 10 20 (.aload_n 0) 1 rfl) rfl rfl trivial ?_
  refine wp_bipush (dz dl_Fetch_init_0 11 21 (.bipush (10)) 2 rfl) (v := (10 : Int32)) (by decide) ?_
  obtain ⟨u3, h⟩ := h
  obtain ⟨q3, h⟩ := h
  have h := h _ rfl
  refine wp_newA (n := 10) l0 1 (dz dl_Fetch_init_0 12 23 (.newarray .int) 2 rfl) (dz dl_Fetch_init_0 13 25 (.putfield 18) 3 rfl) wf_Fetch_18 kd_261 rfl (by decide) (by decide) wa_0 rfl rfl rfl (by decide) (by decide) (by decide) u3 q3 rfl ?_
  refine wp_aload_n (i := 0) (v := qr 4 (some l0)) (dz dl_Fetch_init_0 14 28 (.aload_n 0) 1 rfl) rfl rfl trivial ?_
  refine wp_bipush (dz dl_Fetch_init_0 15 29 (.bipush (10)) 2 rfl) (v := (10 : Int32)) (by decide) ?_
  obtain ⟨u4, h⟩ := h
  obtain ⟨q4, h⟩ := h
  have h := h _ rfl
  refine wp_newR (n := 10) l0 1 (dz dl_Fetch_init_0 16 31 (.anewarray 21) 3 rfl) (dz dl_Fetch_init_0 17 34 (.putfield 23) 3 rfl) wf_Fetch_23 kd_262 (by decide) wc_Fetch_21 (by decide) rfl rfl rfl (by decide) (by decide) (by decide) u4 q4 rfl ?_
  exact wp_rt none (rt_V rfl (dz dl_Fetch_init_0 18 37 (.return_) 1 rfl)) ⟨rfl, h⟩
theorem t_Fetch_init {X : Nat × (Nat → Int32)} {k : Nat} {g : sg} {l0 : Nat} {Z : sg → Prop} (h : 1 ≤ k ∧ gA g 259 l0 = none ∧ ∀ g1, g1 = pA g 259 l0 10 → 1 ≤ (k - 1) ∧ gA g1 260 l0 = none ∧ ∀ g2, g2 = pA g1 260 l0 10 → 1 ≤ (k - 1 - 1) ∧ gA g2 261 l0 = none ∧ ∀ g3, g3 = pA g2 261 l0 10 → 1 ≤ (k - 1 - 1 - 1) ∧ gA g3 262 l0 = none ∧ ∀ g4, g4 = pA g3 262 l0 10 → Z g4) : nnMT X M_Fetch_init k [qr 4 (some l0)] g (zV Z) := b_Fetch_init_0 h

theorem b_Fetch_isThere_0 {X : Nat × (Nat → Int32)} {k : Nat} {g : sg} {l0 : Nat} {Z : Int32 → sg → Prop} (h : ((gI g 256 l0 0) ≤ 0 → Z (0 : Int32) g) ∧ (¬ (gI g 256 l0 0) ≤ 0 → Z (1 : Int32) g)) : nnWP X M_Fetch_isThere k 0 [qr 4 (some l0)] [] g (zI Z) := by
  refine wp_aload_n (i := 0) (v := qr 4 (some l0)) (dz dl_Fetch_isThere_0 0 0 (.aload_n 0) 1 rfl) rfl rfl trivial ?_
  refine wp_getI l0 (dz dl_Fetch_isThere_0 1 1 (.getfield 27) 3 rfl) lk_Fetch_27 kd_256 rfl rfl ?_
  refine wp_if_le (tgt := 11) (dz dl_Fetch_isThere_0 2 4 (.ifCond .le (7)) 3 rfl) (by decide) (fun hc => ?_) (fun hc => ?_)
  · replace h := h.1 hc
    refine wp_iconst (dz dl_Fetch_isThere_0 5 11 (.iconst (0)) 1 rfl) (v := (0 : Int32)) (by decide) ?_
    exact wp_rt (qi _) (rt_Z rfl (Or.inl rfl) (dz dl_Fetch_isThere_0 6 12 (.ireturn) 1 rfl)) ⟨_, rfl, h⟩
  · replace h := h.2 hc
    refine wp_iconst (dz dl_Fetch_isThere_0 3 7 (.iconst (1)) 1 rfl) (v := (1 : Int32)) (by decide) ?_
    refine wp_goto (tgt := 12) (dz dl_Fetch_isThere_0 4 8 (.goto (4)) 3 rfl) (by decide) ?_
    exact wp_rt (qi _) (rt_Z rfl (Or.inr rfl) (dz dl_Fetch_isThere_0 6 12 (.ireturn) 1 rfl)) ⟨_, rfl, h⟩
theorem t_Fetch_isThere {X : Nat × (Nat → Int32)} {k : Nat} {g : sg} {l0 : Nat} {Z : Int32 → sg → Prop} (h : ((gI g 256 l0 0) ≤ 0 → Z (0 : Int32) g) ∧ (¬ (gI g 256 l0 0) ≤ 0 → Z (1 : Int32) g)) : nnMT X M_Fetch_isThere k [qr 4 (some l0)] g (zI Z) := b_Fetch_isThere_0 h

theorem b_Fetch_begin_0 {X : Nat × (Nat → Int32)} {k : Nat} {g : sg} {l0 : Nat} {l1 : Int32} {l2 : Int32} {Z : sg → Prop} (h : ∀ g1, g1 = pI g 256 l0 0 l1 → ∀ g2, g2 = pI g1 257 l0 0 l2 → ∀ g3, g3 = pI g2 258 l0 0 (0 : Int32) → nnWP X M_Fetch_begin k 17 [qr 4 (some l0), none, none, qi (0 : Int32)] [] g3 (zV Z)) : nnWP X M_Fetch_begin k 0 [qr 4 (some l0), qi l1, qi l2, none] [] g (zV Z) := by
  refine wp_aload_n (i := 0) (v := qr 4 (some l0)) (dz dl_Fetch_begin_0 0 0 (.aload_n 0) 1 rfl) rfl rfl trivial ?_
  refine wp_iload_n (i := 1) (x := l1) (dz dl_Fetch_begin_0 1 1 (.iload_n 1) 1 rfl) rfl rfl ?_
  have h := h _ rfl
  refine wp_putI l0 (dz dl_Fetch_begin_0 2 2 (.putfield 27) 3 rfl) lk_Fetch_27 kd_256 rfl rfl rfl (okI_0 _) rfl ?_
  refine wp_aload_n (i := 0) (v := qr 4 (some l0)) (dz dl_Fetch_begin_0 3 5 (.aload_n 0) 1 rfl) rfl rfl trivial ?_
  refine wp_iload_n (i := 2) (x := l2) (dz dl_Fetch_begin_0 4 6 (.iload_n 2) 1 rfl) rfl rfl ?_
  have h := h _ rfl
  refine wp_putI l0 (dz dl_Fetch_begin_0 5 7 (.putfield 31) 3 rfl) lk_Fetch_31 kd_257 rfl rfl rfl (okI_0 _) rfl ?_
  refine wp_aload_n (i := 0) (v := qr 4 (some l0)) (dz dl_Fetch_begin_0 6 10 (.aload_n 0) 1 rfl) rfl rfl trivial ?_
  refine wp_iconst (dz dl_Fetch_begin_0 7 11 (.iconst (0)) 1 rfl) (v := (0 : Int32)) (by decide) ?_
  have h := h _ rfl
  refine wp_putI l0 (dz dl_Fetch_begin_0 8 12 (.putfield 34) 3 rfl) lk_Fetch_34 kd_258 rfl rfl rfl (okI_2 (Or.inl rfl)) rfl ?_
  refine wp_iconst (dz dl_Fetch_begin_0 9 15 (.iconst (0)) 1 rfl) (v := (0 : Int32)) (by decide) ?_
  refine wp_istore_n (i := 3) (dz dl_Fetch_begin_0 10 16 (.istore_n 3) 1 rfl) rfl [qr 4 (some l0), qi l1, qi l2, qi (0 : Int32)] (by decide) rfl ?_
  exact wp_cut h ⟨Or.inr rfl, Or.inl rfl, Or.inl rfl, Or.inr rfl, trivial⟩
theorem t_Fetch_begin {X : Nat × (Nat → Int32)} {k : Nat} {g : sg} {l0 : Nat} {l1 : Int32} {l2 : Int32} {Z : sg → Prop} (h : ∀ g1, g1 = pI g 256 l0 0 l1 → ∀ g2, g2 = pI g1 257 l0 0 l2 → ∀ g3, g3 = pI g2 258 l0 0 (0 : Int32) → nnWP X M_Fetch_begin k 17 [qr 4 (some l0), none, none, qi (0 : Int32)] [] g3 (zV Z)) : nnMT X M_Fetch_begin k [qr 4 (some l0), qi l1, qi l2] g (zV Z) := b_Fetch_begin_0 h

theorem b_Fetch_begin_17 {X : Nat × (Nat → Int32)} {k : Nat} {g : sg} {l0 : Nat} {l3 : Int32} {Z : sg → Prop} (h : ((10 : Int32) ≤ l3 → Z g) ∧ (¬ (10 : Int32) ≤ l3 → gA g 260 l0 = some 10 ∧ vp_in l3 10 ∧ ∀ g1, g1 = pI g 260 l0 l3.toNatClampNeg (0 : Int32) → gA g1 261 l0 = some 10 ∧ ∀ g2, g2 = pI g1 261 l0 l3.toNatClampNeg (0 : Int32) → gA g2 262 l0 = some 10 ∧ ∀ g3, g3 = pR g2 262 l0 l3.toNatClampNeg none → nnWP X M_Fetch_begin k 17 [qr 4 (some l0), none, none, qi (l3 + 1)] [] g3 (zV Z))) : nnWP X M_Fetch_begin k 17 [qr 4 (some l0), none, none, qi l3] [] g (zV Z) := by
  refine wp_iload_n (i := 3) (x := l3) (dz dl_Fetch_begin_0 11 17 (.iload_n 3) 1 rfl) rfl rfl ?_
  refine wp_bipush (dz dl_Fetch_begin_0 12 18 (.bipush (10)) 2 rfl) (v := (10 : Int32)) (by decide) ?_
  refine wp_icmp_ge (tgt := 50) (dz dl_Fetch_begin_0 13 20 (.if_icmp .ge (30)) 3 rfl) (by decide) (fun hc => ?_) (fun hc => ?_)
  · replace h := h.1 hc
    exact wp_rt none (rt_V rfl (dz dl_Fetch_begin_0 31 50 (.return_) 1 rfl)) ⟨rfl, h⟩
  · replace h := h.2 hc
    refine wp_aload_n (i := 0) (v := qr 4 (some l0)) (dz dl_Fetch_begin_0 14 23 (.aload_n 0) 1 rfl) rfl rfl trivial ?_
    obtain ⟨n1, h⟩ := h
    refine wp_getA l0 10 (dz dl_Fetch_begin_0 15 24 (.getfield 15) 3 rfl) lk_Fetch_15 (q := 0) kd_260 rfl rfl n1 ?_
    refine wp_iload_n (i := 3) (x := l3) (dz dl_Fetch_begin_0 16 27 (.iload_n 3) 1 rfl) rfl rfl ?_
    refine wp_iconst (dz dl_Fetch_begin_0 17 28 (.iconst (0)) 1 rfl) (v := (0 : Int32)) (by decide) ?_
    obtain ⟨i1, h⟩ := h
    have h := h _ rfl
    refine wp_iast 10 (dz dl_Fetch_begin_0 18 29 (.iastore) 1 rfl) kd_260 n1 i1 rfl ?_
    refine wp_aload_n (i := 0) (v := qr 4 (some l0)) (dz dl_Fetch_begin_0 19 30 (.aload_n 0) 1 rfl) rfl rfl trivial ?_
    obtain ⟨n2, h⟩ := h
    refine wp_getA l0 10 (dz dl_Fetch_begin_0 20 31 (.getfield 18) 3 rfl) lk_Fetch_18 (q := 0) kd_261 rfl rfl n2 ?_
    refine wp_iload_n (i := 3) (x := l3) (dz dl_Fetch_begin_0 21 34 (.iload_n 3) 1 rfl) rfl rfl ?_
    refine wp_iconst (dz dl_Fetch_begin_0 22 35 (.iconst (0)) 1 rfl) (v := (0 : Int32)) (by decide) ?_
    have h := h _ rfl
    refine wp_iast 10 (dz dl_Fetch_begin_0 23 36 (.iastore) 1 rfl) kd_261 n2 i1 rfl ?_
    refine wp_aload_n (i := 0) (v := qr 4 (some l0)) (dz dl_Fetch_begin_0 24 37 (.aload_n 0) 1 rfl) rfl rfl trivial ?_
    obtain ⟨n3, h⟩ := h
    refine wp_getA l0 10 (dz dl_Fetch_begin_0 25 38 (.getfield 23) 3 rfl) lk_Fetch_23 (q := 1) kd_262 rfl rfl n3 ?_
    refine wp_iload_n (i := 3) (x := l3) (dz dl_Fetch_begin_0 26 41 (.iload_n 3) 1 rfl) rfl rfl ?_
    refine wp_null 9 (dz dl_Fetch_begin_0 27 42 (.aconst_null) 1 rfl) ?_
    have h := h _ rfl
    refine wp_aast 10 (dz dl_Fetch_begin_0 28 43 (.aastore) 1 rfl) kd_262 (by decide) n3 i1 rfl ?_
    refine wp_iinc (i := 3) (v := l3 + 1) (dz dl_Fetch_begin_0 29 44 (.iinc 3 (1)) 3 rfl) rfl (congrArg (fun z => l3 + z) (by decide)) [qr 4 (some l0), none, none, qi (l3 + 1)] (by decide) rfl ?_
    refine wp_goto (tgt := 17) (dz dl_Fetch_begin_0 30 47 (.goto (-30)) 3 rfl) (by decide) ?_
    exact wp_cut h ⟨Or.inr rfl, Or.inl rfl, Or.inl rfl, Or.inr rfl, trivial⟩

theorem b_Fetch_countOf_0 {X : Nat × (Nat → Int32)} {k : Nat} {g : sg} {l0 : Nat} {l1 : Int32} {Z : Int32 → sg → Prop} (h : nnWP X M_Fetch_countOf k 4 [qr 4 (some l0), qi l1, qi (0 : Int32), qi (0 : Int32)] [] g (zI Z)) : nnWP X M_Fetch_countOf k 0 [qr 4 (some l0), qi l1, none, none] [] g (zI Z) := by
  refine wp_iconst (dz dl_Fetch_countOf_0 0 0 (.iconst (0)) 1 rfl) (v := (0 : Int32)) (by decide) ?_
  refine wp_istore_n (i := 2) (dz dl_Fetch_countOf_0 1 1 (.istore_n 2) 1 rfl) rfl [qr 4 (some l0), qi l1, qi (0 : Int32), none] (by decide) rfl ?_
  refine wp_iconst (dz dl_Fetch_countOf_0 2 2 (.iconst (0)) 1 rfl) (v := (0 : Int32)) (by decide) ?_
  refine wp_istore_n (i := 3) (dz dl_Fetch_countOf_0 3 3 (.istore_n 3) 1 rfl) rfl [qr 4 (some l0), qi l1, qi (0 : Int32), qi (0 : Int32)] (by decide) rfl ?_
  exact wp_cut h ⟨Or.inr rfl, Or.inr rfl, Or.inr rfl, Or.inr rfl, trivial⟩
theorem t_Fetch_countOf {X : Nat × (Nat → Int32)} {k : Nat} {g : sg} {l0 : Nat} {l1 : Int32} {Z : Int32 → sg → Prop} (h : nnWP X M_Fetch_countOf k 4 [qr 4 (some l0), qi l1, qi (0 : Int32), qi (0 : Int32)] [] g (zI Z)) : nnMT X M_Fetch_countOf k [qr 4 (some l0), qi l1] g (zI Z) := b_Fetch_countOf_0 h

theorem b_Fetch_countOf_4 {X : Nat × (Nat → Int32)} {k : Nat} {g : sg} {l0 : Nat} {l1 : Int32} {l2 : Int32} {l3 : Int32} {Z : Int32 → sg → Prop} (h : ((gI g 256 l0 0) ≤ l3 → Z l2 g) ∧ (¬ (gI g 256 l0 0) ≤ l3 → gA g 260 l0 = some 10 ∧ vp_in l3 10 ∧ (¬ (gI g 260 l0 l3.toNatClampNeg) = l1 → nnWP X M_Fetch_countOf k 4 [qr 4 (some l0), qi l1, qi l2, qi (l3 + 1)] [] g (zI Z)) ∧ ((gI g 260 l0 l3.toNatClampNeg) = l1 → nnWP X M_Fetch_countOf k 4 [qr 4 (some l0), qi l1, qi (l2 + 1), qi (l3 + 1)] [] g (zI Z)))) : nnWP X M_Fetch_countOf k 4 [qr 4 (some l0), qi l1, qi l2, qi l3] [] g (zI Z) := by
  refine wp_iload_n (i := 3) (x := l3) (dz dl_Fetch_countOf_0 4 4 (.iload_n 3) 1 rfl) rfl rfl ?_
  refine wp_aload_n (i := 0) (v := qr 4 (some l0)) (dz dl_Fetch_countOf_0 5 5 (.aload_n 0) 1 rfl) rfl rfl trivial ?_
  refine wp_getI l0 (dz dl_Fetch_countOf_0 6 6 (.getfield 27) 3 rfl) lk_Fetch_27 kd_256 rfl rfl ?_
  refine wp_icmp_ge (tgt := 31) (dz dl_Fetch_countOf_0 7 9 (.if_icmp .ge (22)) 3 rfl) (by decide) (fun hc => ?_) (fun hc => ?_)
  · replace h := h.1 hc
    refine wp_iload_n (i := 2) (x := l2) (dz dl_Fetch_countOf_0 17 31 (.iload_n 2) 1 rfl) rfl rfl ?_
    exact wp_rt (qi _) (rt_I rfl (dz dl_Fetch_countOf_0 18 32 (.ireturn) 1 rfl)) ⟨_, rfl, h⟩
  · replace h := h.2 hc
    refine wp_aload_n (i := 0) (v := qr 4 (some l0)) (dz dl_Fetch_countOf_0 8 12 (.aload_n 0) 1 rfl) rfl rfl trivial ?_
    obtain ⟨n1, h⟩ := h
    refine wp_getA l0 10 (dz dl_Fetch_countOf_0 9 13 (.getfield 15) 3 rfl) lk_Fetch_15 (q := 0) kd_260 rfl rfl n1 ?_
    refine wp_iload_n (i := 3) (x := l3) (dz dl_Fetch_countOf_0 10 16 (.iload_n 3) 1 rfl) rfl rfl ?_
    obtain ⟨i1, h⟩ := h
    refine wp_iald 10 (dz dl_Fetch_countOf_0 11 17 (.iaload) 1 rfl) kd_260 n1 i1 ?_
    refine wp_iload_n (i := 1) (x := l1) (dz dl_Fetch_countOf_0 12 18 (.iload_n 1) 1 rfl) rfl rfl ?_
    refine wp_icmp_ne (tgt := 25) (dz dl_Fetch_countOf_0 13 19 (.if_icmp .ne (6)) 3 rfl) (by decide) (fun hc => ?_) (fun hc => ?_)
    · replace h := h.1 hc
      refine wp_iinc (i := 3) (v := l3 + 1) (dz dl_Fetch_countOf_0 15 25 (.iinc 3 (1)) 3 rfl) rfl (congrArg (fun z => l3 + z) (by decide)) [qr 4 (some l0), qi l1, qi l2, qi (l3 + 1)] (by decide) rfl ?_
      refine wp_goto (tgt := 4) (dz dl_Fetch_countOf_0 16 28 (.goto (-24)) 3 rfl) (by decide) ?_
      exact wp_cut h ⟨Or.inr rfl, Or.inr rfl, Or.inr rfl, Or.inr rfl, trivial⟩
    · replace h := h.2 hc
      refine wp_iinc (i := 2) (v := l2 + 1) (dz dl_Fetch_countOf_0 14 22 (.iinc 2 (1)) 3 rfl) rfl (congrArg (fun z => l2 + z) (by decide)) [qr 4 (some l0), qi l1, qi (l2 + 1), qi l3] (by decide) rfl ?_
      refine wp_iinc (i := 3) (v := l3 + 1) (dz dl_Fetch_countOf_0 15 25 (.iinc 3 (1)) 3 rfl) rfl (congrArg (fun z => l3 + z) (by decide)) [qr 4 (some l0), qi l1, qi (l2 + 1), qi (l3 + 1)] (by decide) rfl ?_
      refine wp_goto (tgt := 4) (dz dl_Fetch_countOf_0 16 28 (.goto (-24)) 3 rfl) (by decide) ?_
      exact wp_cut h ⟨Or.inr rfl, Or.inr rfl, Or.inr rfl, Or.inr rfl, trivial⟩

theorem b_Fetch_markAsked_0 {X : Nat × (Nat → Int32)} {k : Nat} {g : sg} {l0 : Nat} {l1 : Int32} {l2 : Option Nat} {Z : sg → Prop} (h : gA g 260 l0 = some 10 ∧ vp_in l1 10 ∧ ∀ g1, g1 = pI g 260 l0 l1.toNatClampNeg (1 : Int32) → gA g1 261 l0 = some 10 ∧ ∀ g2, g2 = pI g1 261 l0 l1.toNatClampNeg ((gI g1 261 l0 l1.toNatClampNeg) + (1 : Int32)) → gA g2 262 l0 = some 10 ∧ ∀ g3, g3 = pR g2 262 l0 l1.toNatClampNeg l2 → Z g3) : nnWP X M_Fetch_markAsked k 0 [qr 4 (some l0), qi l1, qr 9 l2] [] g (zV Z) := by
  refine wp_aload_n (i := 0) (v := qr 4 (some l0)) (dz dl_Fetch_markAsked_0 0 0 (.aload_n 0) 1 rfl) rfl rfl trivial ?_
  obtain ⟨n1, h⟩ := h
  refine wp_getA l0 10 (dz dl_Fetch_markAsked_0 1 1 (.getfield 15) 3 rfl) lk_Fetch_15 (q := 0) kd_260 rfl rfl n1 ?_
  refine wp_iload_n (i := 1) (x := l1) (dz dl_Fetch_markAsked_0 2 4 (.iload_n 1) 1 rfl) rfl rfl ?_
  refine wp_iconst (dz dl_Fetch_markAsked_0 3 5 (.iconst (1)) 1 rfl) (v := (1 : Int32)) (by decide) ?_
  obtain ⟨i1, h⟩ := h
  have h := h _ rfl
  refine wp_iast 10 (dz dl_Fetch_markAsked_0 4 6 (.iastore) 1 rfl) kd_260 n1 i1 rfl ?_
  refine wp_aload_n (i := 0) (v := qr 4 (some l0)) (dz dl_Fetch_markAsked_0 5 7 (.aload_n 0) 1 rfl) rfl rfl trivial ?_
  obtain ⟨n2, h⟩ := h
  refine wp_getA l0 10 (dz dl_Fetch_markAsked_0 6 8 (.getfield 18) 3 rfl) lk_Fetch_18 (q := 0) kd_261 rfl rfl n2 ?_
  refine wp_iload_n (i := 1) (x := l1) (dz dl_Fetch_markAsked_0 7 11 (.iload_n 1) 1 rfl) rfl rfl ?_
  refine wp_dup2 (dz dl_Fetch_markAsked_0 8 12 (.dup2) 1 rfl) ?_
  refine wp_iald 10 (dz dl_Fetch_markAsked_0 9 13 (.iaload) 1 rfl) kd_261 n2 i1 ?_
  refine wp_iconst (dz dl_Fetch_markAsked_0 10 14 (.iconst (1)) 1 rfl) (v := (1 : Int32)) (by decide) ?_
  refine wp_iadd (dz dl_Fetch_markAsked_0 11 15 (.iadd) 1 rfl) ?_
  have h := h _ rfl
  refine wp_iast 10 (dz dl_Fetch_markAsked_0 12 16 (.iastore) 1 rfl) kd_261 n2 i1 rfl ?_
  refine wp_aload_n (i := 0) (v := qr 4 (some l0)) (dz dl_Fetch_markAsked_0 13 17 (.aload_n 0) 1 rfl) rfl rfl trivial ?_
  obtain ⟨n3, h⟩ := h
  refine wp_getA l0 10 (dz dl_Fetch_markAsked_0 14 18 (.getfield 23) 3 rfl) lk_Fetch_23 (q := 1) kd_262 rfl rfl n3 ?_
  refine wp_iload_n (i := 1) (x := l1) (dz dl_Fetch_markAsked_0 15 21 (.iload_n 1) 1 rfl) rfl rfl ?_
  refine wp_aload_n (i := 2) (v := qr 9 l2) (dz dl_Fetch_markAsked_0 16 22 (.aload_n 2) 1 rfl) rfl rfl trivial ?_
  have h := h _ rfl
  refine wp_aast 10 (dz dl_Fetch_markAsked_0 17 23 (.aastore) 1 rfl) kd_262 (by decide) n3 i1 rfl ?_
  exact wp_rt none (rt_V rfl (dz dl_Fetch_markAsked_0 18 24 (.return_) 1 rfl)) ⟨rfl, h⟩
theorem t_Fetch_markAsked {X : Nat × (Nat → Int32)} {k : Nat} {g : sg} {l0 : Nat} {l1 : Int32} {l2 : Option Nat} {Z : sg → Prop} (h : gA g 260 l0 = some 10 ∧ vp_in l1 10 ∧ ∀ g1, g1 = pI g 260 l0 l1.toNatClampNeg (1 : Int32) → gA g1 261 l0 = some 10 ∧ ∀ g2, g2 = pI g1 261 l0 l1.toNatClampNeg ((gI g1 261 l0 l1.toNatClampNeg) + (1 : Int32)) → gA g2 262 l0 = some 10 ∧ ∀ g3, g3 = pR g2 262 l0 l1.toNatClampNeg l2 → Z g3) : nnMT X M_Fetch_markAsked k [qr 4 (some l0), qi l1, qr 9 l2] g (zV Z) := b_Fetch_markAsked_0 h

theorem b_Fetch_settle_0 {X : Nat × (Nat → Int32)} {k : Nat} {g : sg} {l0 : Nat} {Z : sg → Prop} (h : nnWP X M_Fetch_settle k 2 [qr 4 (some l0), qi (0 : Int32), none] [] g (zV Z)) : nnWP X M_Fetch_settle k 0 [qr 4 (some l0), none, none] [] g (zV Z) := by
  refine wp_iconst (dz dl_Fetch_settle_0 0 0 (.iconst (0)) 1 rfl) (v := (0 : Int32)) (by decide) ?_
  refine wp_istore_n (i := 1) (dz dl_Fetch_settle_0 1 1 (.istore_n 1) 1 rfl) rfl [qr 4 (some l0), qi (0 : Int32), none] (by decide) rfl ?_
  exact wp_cut h ⟨Or.inr rfl, Or.inr rfl, Or.inl rfl, trivial⟩
theorem t_Fetch_settle {X : Nat × (Nat → Int32)} {k : Nat} {g : sg} {l0 : Nat} {Z : sg → Prop} (h : nnWP X M_Fetch_settle k 2 [qr 4 (some l0), qi (0 : Int32), none] [] g (zV Z)) : nnMT X M_Fetch_settle k [qr 4 (some l0)] g (zV Z) := b_Fetch_settle_0 h

theorem b_Fetch_settle_2 {X : Nat × (Nat → Int32)} {k : Nat} {g : sg} {l0 : Nat} {l1 : Int32} {Z : sg → Prop} (h : ((gI g 256 l0 0) ≤ l1 → Z g) ∧ (¬ (gI g 256 l0 0) ≤ l1 → gA g 262 l0 = some 10 ∧ vp_in l1 10 ∧ gA g 260 l0 = some 10 ∧ (¬ (gI g 260 l0 l1.toNatClampNeg) = (1 : Int32) → nnWP X M_Fetch_settle k 2 [qr 4 (some l0), qi (l1 + 1), none] [] g (zV Z)) ∧ ((gI g 260 l0 l1.toNatClampNeg) = (1 : Int32) → (gR g 262 l0 l1.toNatClampNeg = none → nnWP X M_Fetch_settle k 2 [qr 4 (some l0), qi (l1 + 1), none] [] g (zV Z)) ∧ (∀ a1, gR g 262 l0 l1.toNatClampNeg = some a1 → (¬ (gI g 580 a1 0) = 0 → (¬ (gI g 580 a1 0) = (1 : Int32) → ∀ g1, g1 = pI g 260 l0 l1.toNatClampNeg (0 : Int32) → (¬ (gI g1 258 l0 0) = 0 → ∀ g2, g2 = pI g1 258 l0 0 (1 : Int32) → nnWP X M_Fetch_settle k 2 [qr 4 (some l0), qi (l1 + 1), none] [] g2 (zV Z)) ∧ ((gI g1 258 l0 0) = 0 → gA g1 261 l0 = some 10 ∧ ((gI g1 261 l0 l1.toNatClampNeg) < (3 : Int32) → ∀ g3, g3 = pI g1 258 l0 0 (0 : Int32) → nnWP X M_Fetch_settle k 2 [qr 4 (some l0), qi (l1 + 1), none] [] g3 (zV Z)) ∧ (¬ (gI g1 261 l0 l1.toNatClampNeg) < (3 : Int32) → ∀ g4, g4 = pI g1 258 l0 0 (1 : Int32) → nnWP X M_Fetch_settle k 2 [qr 4 (some l0), qi (l1 + 1), none] [] g4 (zV Z)))) ∧ ((gI g 580 a1 0) = (1 : Int32) → ∀ g5, g5 = pI g 260 l0 l1.toNatClampNeg (2 : Int32) → nnWP X M_Fetch_settle k 2 [qr 4 (some l0), qi (l1 + 1), none] [] g5 (zV Z))) ∧ ((gI g 580 a1 0) = 0 → nnWP X M_Fetch_settle k 2 [qr 4 (some l0), qi (l1 + 1), none] [] g (zV Z)))))) : nnWP X M_Fetch_settle k 2 [qr 4 (some l0), qi l1, none] [] g (zV Z) := by
  refine wp_iload_n (i := 1) (x := l1) (dz dl_Fetch_settle_0 2 2 (.iload_n 1) 1 rfl) rfl rfl ?_
  refine wp_aload_n (i := 0) (v := qr 4 (some l0)) (dz dl_Fetch_settle_0 3 3 (.aload_n 0) 1 rfl) rfl rfl trivial ?_
  refine wp_getI l0 (dz dl_Fetch_settle_0 4 4 (.getfield 27) 3 rfl) lk_Fetch_27 kd_256 rfl rfl ?_
  refine wp_icmp_ge (tgt := 98) (dz dl_Fetch_settle_0 5 7 (.if_icmp .ge (91)) 3 rfl) (by decide) (fun hc => ?_) (fun hc => ?_)
  · replace h := h.1 hc
    exact wp_rt none (rt_V rfl (dz dl_Fetch_settle_1 14 98 (.return_) 1 rfl)) ⟨rfl, h⟩
  · replace h := h.2 hc
    refine wp_aload_n (i := 0) (v := qr 4 (some l0)) (dz dl_Fetch_settle_0 6 10 (.aload_n 0) 1 rfl) rfl rfl trivial ?_
    obtain ⟨n1, h⟩ := h
    refine wp_getA l0 10 (dz dl_Fetch_settle_0 7 11 (.getfield 23) 3 rfl) lk_Fetch_23 (q := 1) kd_262 rfl rfl n1 ?_
    refine wp_iload_n (i := 1) (x := l1) (dz dl_Fetch_settle_0 8 14 (.iload_n 1) 1 rfl) rfl rfl ?_
    obtain ⟨i1, h⟩ := h
    refine wp_aald 10 (dz dl_Fetch_settle_0 9 15 (.aaload) 1 rfl) kd_262 n1 i1 ?_
    refine wp_astore_n (i := 2) (dz dl_Fetch_settle_0 10 16 (.astore_n 2) 1 rfl) rfl [qr 4 (some l0), qi l1, qr 9 (gR g 262 l0 l1.toNatClampNeg)] (by decide) trivial rfl ?_
    refine wp_aload_n (i := 0) (v := qr 4 (some l0)) (dz dl_Fetch_settle_0 11 17 (.aload_n 0) 1 rfl) rfl rfl trivial ?_
    obtain ⟨n2, h⟩ := h
    refine wp_getA l0 10 (dz dl_Fetch_settle_0 12 18 (.getfield 15) 3 rfl) lk_Fetch_15 (q := 0) kd_260 rfl rfl n2 ?_
    refine wp_iload_n (i := 1) (x := l1) (dz dl_Fetch_settle_0 13 21 (.iload_n 1) 1 rfl) rfl rfl ?_
    refine wp_iald 10 (dz dl_Fetch_settle_0 14 22 (.iaload) 1 rfl) kd_260 n2 i1 ?_
    refine wp_iconst (dz dl_Fetch_settle_0 15 23 (.iconst (1)) 1 rfl) (v := (1 : Int32)) (by decide) ?_
    refine wp_icmp_ne (tgt := 92) (dz dl_Fetch_settle_0 16 24 (.if_icmp .ne (68)) 3 rfl) (by decide) (fun hc => ?_) (fun hc => ?_)
    · replace h := h.1 hc
      refine wp_iinc (i := 1) (v := l1 + 1) (dz dl_Fetch_settle_1 12 92 (.iinc 1 (1)) 3 rfl) rfl (congrArg (fun z => l1 + z) (by decide)) [qr 4 (some l0), qi (l1 + 1), qr 9 (gR g 262 l0 l1.toNatClampNeg)] (by decide) rfl ?_
      refine wp_goto (tgt := 2) (dz dl_Fetch_settle_1 13 95 (.goto (-93)) 3 rfl) (by decide) ?_
      exact wp_cut h ⟨Or.inr rfl, Or.inr rfl, Or.inl rfl, trivial⟩
    · replace h := h.2 hc
      refine wp_aload_n (i := 2) (v := qr 9 (gR g 262 l0 l1.toNatClampNeg)) (dz dl_Fetch_settle_0 17 27 (.aload_n 2) 1 rfl) rfl rfl trivial ?_
      refine wp_ifnull (tgt := 92) (dz dl_Fetch_settle_0 18 28 (.ifnull (64)) 3 rfl) (by decide) (fun hc => ?_) (fun a1 e1 => ?_)
      · replace h := h.1 hc
        refine wp_iinc (i := 1) (v := l1 + 1) (dz dl_Fetch_settle_1 12 92 (.iinc 1 (1)) 3 rfl) rfl (congrArg (fun z => l1 + z) (by decide)) [qr 4 (some l0), qi (l1 + 1), qr 9 (gR g 262 l0 l1.toNatClampNeg)] (by decide) rfl ?_
        refine wp_goto (tgt := 2) (dz dl_Fetch_settle_1 13 95 (.goto (-93)) 3 rfl) (by decide) ?_
        exact wp_cut h ⟨Or.inr rfl, Or.inr rfl, Or.inl rfl, trivial⟩
      · replace h := h.2 a1 e1
        refine wp_aload_n (i := 2) (v := qr 9 (gR g 262 l0 l1.toNatClampNeg)) (dz dl_Fetch_settle_0 19 31 (.aload_n 2) 1 rfl) rfl rfl trivial ?_
        refine wp_getI a1 (dz dl_Fetch_settle_0 20 32 (.getfield 38) 3 rfl) lk_Fetch_38 kd_580 rfl e1 ?_
        refine wp_if_ne (tgt := 41) (dz dl_Fetch_settle_0 21 35 (.ifCond .ne (6)) 3 rfl) (by decide) (fun hc => ?_) (fun hc => ?_)
        · replace h := h.1 hc
          refine wp_aload_n (i := 2) (v := qr 9 (gR g 262 l0 l1.toNatClampNeg)) (dz dl_Fetch_settle_0 23 41 (.aload_n 2) 1 rfl) rfl rfl trivial ?_
          refine wp_getI a1 (dz dl_Fetch_settle_0 24 42 (.getfield 38) 3 rfl) lk_Fetch_38 kd_580 rfl e1 ?_
          refine wp_iconst (dz dl_Fetch_settle_0 25 45 (.iconst (1)) 1 rfl) (v := (1 : Int32)) (by decide) ?_
          refine wp_icmp_ne (tgt := 59) (dz dl_Fetch_settle_0 26 46 (.if_icmp .ne (13)) 3 rfl) (by decide) (fun hc => ?_) (fun hc => ?_)
          · replace h := h.1 hc
            refine wp_aload_n (i := 0) (v := qr 4 (some l0)) (dz dl_Fetch_settle_0 33 59 (.aload_n 0) 1 rfl) rfl rfl trivial ?_
            refine wp_getA l0 10 (dz dl_Fetch_settle_0 34 60 (.getfield 15) 3 rfl) lk_Fetch_15 (q := 0) kd_260 rfl rfl n2 ?_
            refine wp_iload_n (i := 1) (x := l1) (dz dl_Fetch_settle_0 35 63 (.iload_n 1) 1 rfl) rfl rfl ?_
            refine wp_iconst (dz dl_Fetch_settle_0 36 64 (.iconst (0)) 1 rfl) (v := (0 : Int32)) (by decide) ?_
            have h := h _ rfl
            refine wp_iast 10 (dz dl_Fetch_settle_0 37 65 (.iastore) 1 rfl) kd_260 n2 i1 rfl ?_
            refine wp_aload_n (i := 0) (v := qr 4 (some l0)) (dz dl_Fetch_settle_0 38 66 (.aload_n 0) 1 rfl) rfl rfl trivial ?_
            refine wp_aload_n (i := 0) (v := qr 4 (some l0)) (dz dl_Fetch_settle_0 39 67 (.aload_n 0) 1 rfl) rfl rfl trivial ?_
            refine wp_getI l0 (dz dl_Fetch_settle_1 0 68 (.getfield 34) 3 rfl) lk_Fetch_34 kd_258 rfl rfl ?_
            refine wp_if_ne (tgt := 84) (dz dl_Fetch_settle_1 1 71 (.ifCond .ne (13)) 3 rfl) (by decide) (fun hc => ?_) (fun hc => ?_)
            · replace h := h.1 hc
              refine wp_iconst (dz dl_Fetch_settle_1 8 84 (.iconst (1)) 1 rfl) (v := (1 : Int32)) (by decide) ?_
              refine wp_goto (tgt := 89) (dz dl_Fetch_settle_1 9 85 (.goto (4)) 3 rfl) (by decide) ?_
              have h := h _ rfl
              refine wp_putI l0 (dz dl_Fetch_settle_1 11 89 (.putfield 34) 3 rfl) lk_Fetch_34 kd_258 rfl rfl rfl (okI_2 (Or.inr rfl)) rfl ?_
              refine wp_iinc (i := 1) (v := l1 + 1) (dz dl_Fetch_settle_1 12 92 (.iinc 1 (1)) 3 rfl) rfl (congrArg (fun z => l1 + z) (by decide)) [qr 4 (some l0), qi (l1 + 1), qr 9 (gR g 262 l0 l1.toNatClampNeg)] (by decide) rfl ?_
              refine wp_goto (tgt := 2) (dz dl_Fetch_settle_1 13 95 (.goto (-93)) 3 rfl) (by decide) ?_
              exact wp_cut h ⟨Or.inr rfl, Or.inr rfl, Or.inl rfl, trivial⟩
            · replace h := h.2 hc
              refine wp_aload_n (i := 0) (v := qr 4 (some l0)) (dz dl_Fetch_settle_1 2 74 (.aload_n 0) 1 rfl) rfl rfl trivial ?_
              obtain ⟨n3, h⟩ := h
              refine wp_getA l0 10 (dz dl_Fetch_settle_1 3 75 (.getfield 18) 3 rfl) lk_Fetch_18 (q := 0) kd_261 rfl rfl n3 ?_
              refine wp_iload_n (i := 1) (x := l1) (dz dl_Fetch_settle_1 4 78 (.iload_n 1) 1 rfl) rfl rfl ?_
              refine wp_iald 10 (dz dl_Fetch_settle_1 5 79 (.iaload) 1 rfl) kd_261 n3 i1 ?_
              refine wp_iconst (dz dl_Fetch_settle_1 6 80 (.iconst (3)) 1 rfl) (v := (3 : Int32)) (by decide) ?_
              refine wp_icmp_lt (tgt := 88) (dz dl_Fetch_settle_1 7 81 (.if_icmp .lt (7)) 3 rfl) (by decide) (fun hc => ?_) (fun hc => ?_)
              · replace h := h.1 hc
                refine wp_iconst (dz dl_Fetch_settle_1 10 88 (.iconst (0)) 1 rfl) (v := (0 : Int32)) (by decide) ?_
                have h := h _ rfl
                refine wp_putI l0 (dz dl_Fetch_settle_1 11 89 (.putfield 34) 3 rfl) lk_Fetch_34 kd_258 rfl rfl rfl (okI_2 (Or.inl rfl)) rfl ?_
                refine wp_iinc (i := 1) (v := l1 + 1) (dz dl_Fetch_settle_1 12 92 (.iinc 1 (1)) 3 rfl) rfl (congrArg (fun z => l1 + z) (by decide)) [qr 4 (some l0), qi (l1 + 1), qr 9 (gR g 262 l0 l1.toNatClampNeg)] (by decide) rfl ?_
                refine wp_goto (tgt := 2) (dz dl_Fetch_settle_1 13 95 (.goto (-93)) 3 rfl) (by decide) ?_
                exact wp_cut h ⟨Or.inr rfl, Or.inr rfl, Or.inl rfl, trivial⟩
              · replace h := h.2 hc
                refine wp_iconst (dz dl_Fetch_settle_1 8 84 (.iconst (1)) 1 rfl) (v := (1 : Int32)) (by decide) ?_
                refine wp_goto (tgt := 89) (dz dl_Fetch_settle_1 9 85 (.goto (4)) 3 rfl) (by decide) ?_
                have h := h _ rfl
                refine wp_putI l0 (dz dl_Fetch_settle_1 11 89 (.putfield 34) 3 rfl) lk_Fetch_34 kd_258 rfl rfl rfl (okI_2 (Or.inr rfl)) rfl ?_
                refine wp_iinc (i := 1) (v := l1 + 1) (dz dl_Fetch_settle_1 12 92 (.iinc 1 (1)) 3 rfl) rfl (congrArg (fun z => l1 + z) (by decide)) [qr 4 (some l0), qi (l1 + 1), qr 9 (gR g 262 l0 l1.toNatClampNeg)] (by decide) rfl ?_
                refine wp_goto (tgt := 2) (dz dl_Fetch_settle_1 13 95 (.goto (-93)) 3 rfl) (by decide) ?_
                exact wp_cut h ⟨Or.inr rfl, Or.inr rfl, Or.inl rfl, trivial⟩
          · replace h := h.2 hc
            refine wp_aload_n (i := 0) (v := qr 4 (some l0)) (dz dl_Fetch_settle_0 27 49 (.aload_n 0) 1 rfl) rfl rfl trivial ?_
            refine wp_getA l0 10 (dz dl_Fetch_settle_0 28 50 (.getfield 15) 3 rfl) lk_Fetch_15 (q := 0) kd_260 rfl rfl n2 ?_
            refine wp_iload_n (i := 1) (x := l1) (dz dl_Fetch_settle_0 29 53 (.iload_n 1) 1 rfl) rfl rfl ?_
            refine wp_iconst (dz dl_Fetch_settle_0 30 54 (.iconst (2)) 1 rfl) (v := (2 : Int32)) (by decide) ?_
            have h := h _ rfl
            refine wp_iast 10 (dz dl_Fetch_settle_0 31 55 (.iastore) 1 rfl) kd_260 n2 i1 rfl ?_
            refine wp_goto (tgt := 92) (dz dl_Fetch_settle_0 32 56 (.goto (36)) 3 rfl) (by decide) ?_
            refine wp_iinc (i := 1) (v := l1 + 1) (dz dl_Fetch_settle_1 12 92 (.iinc 1 (1)) 3 rfl) rfl (congrArg (fun z => l1 + z) (by decide)) [qr 4 (some l0), qi (l1 + 1), qr 9 (gR g 262 l0 l1.toNatClampNeg)] (by decide) rfl ?_
            refine wp_goto (tgt := 2) (dz dl_Fetch_settle_1 13 95 (.goto (-93)) 3 rfl) (by decide) ?_
            exact wp_cut h ⟨Or.inr rfl, Or.inr rfl, Or.inl rfl, trivial⟩
        · replace h := h.2 hc
          refine wp_goto (tgt := 92) (dz dl_Fetch_settle_0 22 38 (.goto (54)) 3 rfl) (by decide) ?_
          refine wp_iinc (i := 1) (v := l1 + 1) (dz dl_Fetch_settle_1 12 92 (.iinc 1 (1)) 3 rfl) rfl (congrArg (fun z => l1 + z) (by decide)) [qr 4 (some l0), qi (l1 + 1), qr 9 (gR g 262 l0 l1.toNatClampNeg)] (by decide) rfl ?_
          refine wp_goto (tgt := 2) (dz dl_Fetch_settle_1 13 95 (.goto (-93)) 3 rfl) (by decide) ?_
          exact wp_cut h ⟨Or.inr rfl, Or.inr rfl, Or.inl rfl, trivial⟩

theorem b_Fetch_sumOfContents_0 {X : Nat × (Nat → Int32)} {k : Nat} {g : sg} {l0 : Nat} {Z : Int32 → sg → Prop} (h : nnWP X M_Fetch_sumOfContents k 4 [qr 4 (some l0), qi (0 : Int32), qi (0 : Int32), none] [] g (zI Z)) : nnWP X M_Fetch_sumOfContents k 0 [qr 4 (some l0), none, none, none] [] g (zI Z) := by
  refine wp_iconst (dz dl_Fetch_sumOfContents_0 0 0 (.iconst (0)) 1 rfl) (v := (0 : Int32)) (by decide) ?_
  refine wp_istore_n (i := 1) (dz dl_Fetch_sumOfContents_0 1 1 (.istore_n 1) 1 rfl) rfl [qr 4 (some l0), qi (0 : Int32), none, none] (by decide) rfl ?_
  refine wp_iconst (dz dl_Fetch_sumOfContents_0 2 2 (.iconst (0)) 1 rfl) (v := (0 : Int32)) (by decide) ?_
  refine wp_istore_n (i := 2) (dz dl_Fetch_sumOfContents_0 3 3 (.istore_n 2) 1 rfl) rfl [qr 4 (some l0), qi (0 : Int32), qi (0 : Int32), none] (by decide) rfl ?_
  exact wp_cut h ⟨Or.inr rfl, Or.inr rfl, Or.inr rfl, Or.inl rfl, trivial⟩
theorem t_Fetch_sumOfContents {X : Nat × (Nat → Int32)} {k : Nat} {g : sg} {l0 : Nat} {Z : Int32 → sg → Prop} (h : nnWP X M_Fetch_sumOfContents k 4 [qr 4 (some l0), qi (0 : Int32), qi (0 : Int32), none] [] g (zI Z)) : nnMT X M_Fetch_sumOfContents k [qr 4 (some l0)] g (zI Z) := b_Fetch_sumOfContents_0 h

theorem b_Fetch_sumOfContents_4 {X : Nat × (Nat → Int32)} {k : Nat} {g : sg} {l0 : Nat} {l1 : Int32} {l2 : Int32} {Z : Int32 → sg → Prop} (h : ((gI g 256 l0 0) ≤ l2 → Z l1 g) ∧ (¬ (gI g 256 l0 0) ≤ l2 → gA g 262 l0 = some 10 ∧ vp_in l2 10 ∧ gA g 260 l0 = some 10 ∧ (¬ (gI g 260 l0 l2.toNatClampNeg) = (2 : Int32) → nnWP X M_Fetch_sumOfContents k 4 [qr 4 (some l0), qi l1, qi (l2 + 1), none] [] g (zI Z)) ∧ ((gI g 260 l0 l2.toNatClampNeg) = (2 : Int32) → (gR g 262 l0 l2.toNatClampNeg = none → nnWP X M_Fetch_sumOfContents k 4 [qr 4 (some l0), qi l1, qi (l2 + 1), none] [] g (zI Z)) ∧ (∀ a1, gR g 262 l0 l2.toNatClampNeg = some a1 → (gR g 581 a1 0 = none → nnWP X M_Fetch_sumOfContents k 4 [qr 4 (some l0), qi l1, qi (l2 + 1), none] [] g (zI Z)) ∧ (∀ a2, gR g 581 a1 0 = some a2 → nnWP X M_Fetch_sumOfContents k 4 [qr 4 (some l0), qi (l1 + (gI g 453 a2 0)), qi (l2 + 1), none] [] g (zI Z)))))) : nnWP X M_Fetch_sumOfContents k 4 [qr 4 (some l0), qi l1, qi l2, none] [] g (zI Z) := by
  refine wp_iload_n (i := 2) (x := l2) (dz dl_Fetch_sumOfContents_0 4 4 (.iload_n 2) 1 rfl) rfl rfl ?_
  refine wp_aload_n (i := 0) (v := qr 4 (some l0)) (dz dl_Fetch_sumOfContents_0 5 5 (.aload_n 0) 1 rfl) rfl rfl trivial ?_
  refine wp_getI l0 (dz dl_Fetch_sumOfContents_0 6 6 (.getfield 27) 3 rfl) lk_Fetch_27 kd_256 rfl rfl ?_
  refine wp_icmp_ge (tgt := 56) (dz dl_Fetch_sumOfContents_0 7 9 (.if_icmp .ge (47)) 3 rfl) (by decide) (fun hc => ?_) (fun hc => ?_)
  · replace h := h.1 hc
    refine wp_iload_n (i := 1) (x := l1) (dz dl_Fetch_sumOfContents_0 32 56 (.iload_n 1) 1 rfl) rfl rfl ?_
    exact wp_rt (qi _) (rt_I rfl (dz dl_Fetch_sumOfContents_0 33 57 (.ireturn) 1 rfl)) ⟨_, rfl, h⟩
  · replace h := h.2 hc
    refine wp_aload_n (i := 0) (v := qr 4 (some l0)) (dz dl_Fetch_sumOfContents_0 8 12 (.aload_n 0) 1 rfl) rfl rfl trivial ?_
    obtain ⟨n1, h⟩ := h
    refine wp_getA l0 10 (dz dl_Fetch_sumOfContents_0 9 13 (.getfield 23) 3 rfl) lk_Fetch_23 (q := 1) kd_262 rfl rfl n1 ?_
    refine wp_iload_n (i := 2) (x := l2) (dz dl_Fetch_sumOfContents_0 10 16 (.iload_n 2) 1 rfl) rfl rfl ?_
    obtain ⟨i1, h⟩ := h
    refine wp_aald 10 (dz dl_Fetch_sumOfContents_0 11 17 (.aaload) 1 rfl) kd_262 n1 i1 ?_
    refine wp_astore_n (i := 3) (dz dl_Fetch_sumOfContents_0 12 18 (.astore_n 3) 1 rfl) rfl [qr 4 (some l0), qi l1, qi l2, qr 9 (gR g 262 l0 l2.toNatClampNeg)] (by decide) trivial rfl ?_
    refine wp_aload_n (i := 0) (v := qr 4 (some l0)) (dz dl_Fetch_sumOfContents_0 13 19 (.aload_n 0) 1 rfl) rfl rfl trivial ?_
    obtain ⟨n2, h⟩ := h
    refine wp_getA l0 10 (dz dl_Fetch_sumOfContents_0 14 20 (.getfield 15) 3 rfl) lk_Fetch_15 (q := 0) kd_260 rfl rfl n2 ?_
    refine wp_iload_n (i := 2) (x := l2) (dz dl_Fetch_sumOfContents_0 15 23 (.iload_n 2) 1 rfl) rfl rfl ?_
    refine wp_iald 10 (dz dl_Fetch_sumOfContents_0 16 24 (.iaload) 1 rfl) kd_260 n2 i1 ?_
    refine wp_iconst (dz dl_Fetch_sumOfContents_0 17 25 (.iconst (2)) 1 rfl) (v := (2 : Int32)) (by decide) ?_
    refine wp_icmp_ne (tgt := 50) (dz dl_Fetch_sumOfContents_0 18 26 (.if_icmp .ne (24)) 3 rfl) (by decide) (fun hc => ?_) (fun hc => ?_)
    · replace h := h.1 hc
      refine wp_iinc (i := 2) (v := l2 + 1) (dz dl_Fetch_sumOfContents_0 30 50 (.iinc 2 (1)) 3 rfl) rfl (congrArg (fun z => l2 + z) (by decide)) [qr 4 (some l0), qi l1, qi (l2 + 1), qr 9 (gR g 262 l0 l2.toNatClampNeg)] (by decide) rfl ?_
      refine wp_goto (tgt := 4) (dz dl_Fetch_sumOfContents_0 31 53 (.goto (-49)) 3 rfl) (by decide) ?_
      exact wp_cut h ⟨Or.inr rfl, Or.inr rfl, Or.inr rfl, Or.inl rfl, trivial⟩
    · replace h := h.2 hc
      refine wp_aload_n (i := 3) (v := qr 9 (gR g 262 l0 l2.toNatClampNeg)) (dz dl_Fetch_sumOfContents_0 19 29 (.aload_n 3) 1 rfl) rfl rfl trivial ?_
      refine wp_ifnull (tgt := 50) (dz dl_Fetch_sumOfContents_0 20 30 (.ifnull (20)) 3 rfl) (by decide) (fun hc => ?_) (fun a1 e1 => ?_)
      · replace h := h.1 hc
        refine wp_iinc (i := 2) (v := l2 + 1) (dz dl_Fetch_sumOfContents_0 30 50 (.iinc 2 (1)) 3 rfl) rfl (congrArg (fun z => l2 + z) (by decide)) [qr 4 (some l0), qi l1, qi (l2 + 1), qr 9 (gR g 262 l0 l2.toNatClampNeg)] (by decide) rfl ?_
        refine wp_goto (tgt := 4) (dz dl_Fetch_sumOfContents_0 31 53 (.goto (-49)) 3 rfl) (by decide) ?_
        exact wp_cut h ⟨Or.inr rfl, Or.inr rfl, Or.inr rfl, Or.inl rfl, trivial⟩
      · replace h := h.2 a1 e1
        refine wp_aload_n (i := 3) (v := qr 9 (gR g 262 l0 l2.toNatClampNeg)) (dz dl_Fetch_sumOfContents_0 21 33 (.aload_n 3) 1 rfl) rfl rfl trivial ?_
        refine wp_getR a1 (dz dl_Fetch_sumOfContents_0 22 34 (.getfield 40) 3 rfl) lk_Fetch_40 kd_581 rfl e1 ?_
        refine wp_ifnull (tgt := 50) (dz dl_Fetch_sumOfContents_0 23 37 (.ifnull (13)) 3 rfl) (by decide) (fun hc => ?_) (fun a2 e2 => ?_)
        · replace h := h.1 hc
          refine wp_iinc (i := 2) (v := l2 + 1) (dz dl_Fetch_sumOfContents_0 30 50 (.iinc 2 (1)) 3 rfl) rfl (congrArg (fun z => l2 + z) (by decide)) [qr 4 (some l0), qi l1, qi (l2 + 1), qr 9 (gR g 262 l0 l2.toNatClampNeg)] (by decide) rfl ?_
          refine wp_goto (tgt := 4) (dz dl_Fetch_sumOfContents_0 31 53 (.goto (-49)) 3 rfl) (by decide) ?_
          exact wp_cut h ⟨Or.inr rfl, Or.inr rfl, Or.inr rfl, Or.inl rfl, trivial⟩
        · replace h := h.2 a2 e2
          refine wp_iload_n (i := 1) (x := l1) (dz dl_Fetch_sumOfContents_0 24 40 (.iload_n 1) 1 rfl) rfl rfl ?_
          refine wp_aload_n (i := 3) (v := qr 9 (gR g 262 l0 l2.toNatClampNeg)) (dz dl_Fetch_sumOfContents_0 25 41 (.aload_n 3) 1 rfl) rfl rfl trivial ?_
          refine wp_getR a1 (dz dl_Fetch_sumOfContents_0 26 42 (.getfield 40) 3 rfl) lk_Fetch_40 kd_581 rfl e1 ?_
          refine wp_getI a2 (dz dl_Fetch_sumOfContents_0 27 45 (.getfield 44) 3 rfl) lk_Fetch_44 kd_453 rfl e2 ?_
          refine wp_iadd (dz dl_Fetch_sumOfContents_0 28 48 (.iadd) 1 rfl) ?_
          refine wp_istore_n (i := 1) (dz dl_Fetch_sumOfContents_0 29 49 (.istore_n 1) 1 rfl) rfl [qr 4 (some l0), qi (l1 + (gI g 453 a2 0)), qi l2, qr 9 (gR g 262 l0 l2.toNatClampNeg)] (by decide) rfl ?_
          refine wp_iinc (i := 2) (v := l2 + 1) (dz dl_Fetch_sumOfContents_0 30 50 (.iinc 2 (1)) 3 rfl) rfl (congrArg (fun z => l2 + z) (by decide)) [qr 4 (some l0), qi (l1 + (gI g 453 a2 0)), qi (l2 + 1), qr 9 (gR g 262 l0 l2.toNatClampNeg)] (by decide) rfl ?_
          refine wp_goto (tgt := 4) (dz dl_Fetch_sumOfContents_0 31 53 (.goto (-49)) 3 rfl) (by decide) ?_
          exact wp_cut h ⟨Or.inr rfl, Or.inr rfl, Or.inr rfl, Or.inl rfl, trivial⟩

theorem b_Names_init_0 {X : Nat × (Nat → Int32)} {k : Nat} {g : sg} {l0 : Nat} {Z : sg → Prop} (h : 3 ≤ k ∧ gA g 320 l0 = none ∧ ∀ g1, g1 = pA g 320 l0 48 → 3 ≤ (k - 3) ∧ gA g1 321 l0 = none ∧ ∀ g2, g2 = pA g1 321 l0 48 → 3 ≤ (k - 3 - 3) ∧ gA g2 322 l0 = none ∧ ∀ g3, g3 = pA g2 322 l0 48 → gA g3 320 l0 = some 48 ∧ ∀ g4, g4 = pI g3 320 l0 (0 : Int32).toNatClampNeg (-1 : Int32) → ∀ g5, g5 = pI g4 323 l0 0 (1 : Int32) → Z g5) : nnWP X M_Names_init k 0 [qr 5 (some l0)] [] g (zV Z) := by
  refine wp_aload_n (i := 0) (v := qr 5 (some l0)) (dz dl_Names_init_0 0 0 (.aload_n 0) 1 rfl) rfl rfl trivial ?_
  refine wp_objInit l0 (dz dl_Names_init_0 1 1 (.invokespecial 3) 3 rfl) wm_Names_3 w_oi w_oc (by decide) (by decide) (Nat.le_of_ble_eq_true rfl) rfl ?_
  refine wp_aload_n (i := 0) (v := qr 5 (some l0)) (dz dl_Names_init_0 2 4 (.aload_n 0) 1 rfl) rfl rfl trivial ?_
  refine wp_bipush (dz dl_Names_init_0 3 5 (.bipush (48)) 2 rfl) (v := (48 : Int32)) (by decide) ?_
  obtain ⟨u1, h⟩ := h
  obtain ⟨q1, h⟩ := h
  have h := h _ rfl
  refine wp_newA (n := 48) l0 3 (dz dl_Names_init_0 4 7 (.newarray .int) 2 rfl) (dz dl_Names_init_0 5 9 (.putfield 9) 3 rfl) wf_Names_9 kd_320 rfl (by decide) (by decide) wa_0 rfl rfl rfl (by decide) (by decide) (by decide) u1 q1 rfl ?_
  refine wp_aload_n (i := 0) (v := qr 5 (some l0)) (dz dl_Names_init_0 6 12 (.aload_n 0) 1 rfl) rfl rfl trivial ?_
  refine wp_bipush (dz dl_Names_init_0 7 13 (.bipush (48)) 2 rfl) (v := (48 : Int32)) (by decide) ?_
  obtain ⟨u2, h⟩ := h
  obtain ⟨q2, h⟩ := h
  have h := h _ rfl
  refine wp_newA (n := 48) l0 3 (dz dl_Names_init_0 8 15 (.newarray .int) 2 rfl) (dz dl_Names_init_0 9 17 (.putfield 15) 3 rfl) wf_Names_15 kd_321 rfl (by decide) (by decide) wa_0 rfl rfl rfl (by decide) (by decide) (by decide) u2 q2 rfl ?_
  refine wp_aload_n (i := 0) (v := qr 5 (some l0)) (dz dl_Names_init_0 10 20 (.aload_n 0) 1 rfl) rfl rfl trivial ?_
  refine wp_bipush (dz dl_Names_init_0 11 21 (.bipush (48)) 2 rfl) (v := (48 : Int32)) (by decide) ?_
  obtain ⟨u3, h⟩ := h
  obtain ⟨q3, h⟩ := h
  have h := h _ rfl
  refine wp_newA (n := 48) l0 3 (dz dl_Names_init_0 12 23 (.newarray .int) 2 rfl) (dz dl_Names_init_0 13 25 (.putfield 18) 3 rfl) wf_Names_18 kd_322 rfl (by decide) (by decide) wa_0 rfl rfl rfl (by decide) (by decide) (by decide) u3 q3 rfl ?_
  refine wp_aload_n (i := 0) (v := qr 5 (some l0)) (dz dl_Names_init_0 14 28 (.aload_n 0) 1 rfl) rfl rfl trivial ?_
  obtain ⟨n1, h⟩ := h
  refine wp_getA l0 48 (dz dl_Names_init_0 15 29 (.getfield 9) 3 rfl) lk_Names_9 (q := 0) kd_320 rfl rfl n1 ?_
  refine wp_iconst (dz dl_Names_init_0 16 32 (.iconst (0)) 1 rfl) (v := (0 : Int32)) (by decide) ?_
  refine wp_iconst (dz dl_Names_init_0 17 33 (.iconst (-1)) 1 rfl) (v := (-1 : Int32)) (by decide) ?_
  have h := h _ rfl
  refine wp_iast 48 (dz dl_Names_init_0 18 34 (.iastore) 1 rfl) kd_320 n1 (show ¬ ((0 : Int32) < 0 ∨ 48 ≤ (0 : Int32).toNatClampNeg) by decide) rfl ?_
  refine wp_aload_n (i := 0) (v := qr 5 (some l0)) (dz dl_Names_init_0 19 35 (.aload_n 0) 1 rfl) rfl rfl trivial ?_
  refine wp_iconst (dz dl_Names_init_0 20 36 (.iconst (1)) 1 rfl) (v := (1 : Int32)) (by decide) ?_
  have h := h _ rfl
  refine wp_putI l0 (dz dl_Names_init_0 21 37 (.putfield 21) 3 rfl) lk_Names_21 kd_323 rfl rfl rfl (okI_0 _) rfl ?_
  exact wp_rt none (rt_V rfl (dz dl_Names_init_0 22 40 (.return_) 1 rfl)) ⟨rfl, h⟩
theorem t_Names_init {X : Nat × (Nat → Int32)} {k : Nat} {g : sg} {l0 : Nat} {Z : sg → Prop} (h : 3 ≤ k ∧ gA g 320 l0 = none ∧ ∀ g1, g1 = pA g 320 l0 48 → 3 ≤ (k - 3) ∧ gA g1 321 l0 = none ∧ ∀ g2, g2 = pA g1 321 l0 48 → 3 ≤ (k - 3 - 3) ∧ gA g2 322 l0 = none ∧ ∀ g3, g3 = pA g2 322 l0 48 → gA g3 320 l0 = some 48 ∧ ∀ g4, g4 = pI g3 320 l0 (0 : Int32).toNatClampNeg (-1 : Int32) → ∀ g5, g5 = pI g4 323 l0 0 (1 : Int32) → Z g5) : nnMT X M_Names_init k [qr 5 (some l0)] g (zV Z) := b_Names_init_0 h

theorem b_Names_has_0 {X : Nat × (Nat → Int32)} {k : Nat} {g : sg} {l0 : Nat} {l1 : Int32} {Z : Int32 → sg → Prop} (h : (l1 < 0 → Z (0 : Int32) g) ∧ (¬ l1 < 0 → ((gI g 323 l0 0) ≤ l1 → Z (0 : Int32) g) ∧ (¬ (gI g 323 l0 0) ≤ l1 → Z (1 : Int32) g))) : nnWP X M_Names_has k 0 [qr 5 (some l0), qi l1] [] g (zI Z) := by
  refine wp_iload_n (i := 1) (x := l1) (dz dl_Names_has_0 0 0 (.iload_n 1) 1 rfl) rfl rfl ?_
  refine wp_if_lt (tgt := 16) (dz dl_Names_has_0 1 1 (.ifCond .lt (15)) 3 rfl) (by decide) (fun hc => ?_) (fun hc => ?_)
  · replace h := h.1 hc
    refine wp_iconst (dz dl_Names_has_0 8 16 (.iconst (0)) 1 rfl) (v := (0 : Int32)) (by decide) ?_
    exact wp_rt (qi _) (rt_Z rfl (Or.inl rfl) (dz dl_Names_has_0 9 17 (.ireturn) 1 rfl)) ⟨_, rfl, h⟩
  · replace h := h.2 hc
    refine wp_iload_n (i := 1) (x := l1) (dz dl_Names_has_0 2 4 (.iload_n 1) 1 rfl) rfl rfl ?_
    refine wp_aload_n (i := 0) (v := qr 5 (some l0)) (dz dl_Names_has_0 3 5 (.aload_n 0) 1 rfl) rfl rfl trivial ?_
    refine wp_getI l0 (dz dl_Names_has_0 4 6 (.getfield 21) 3 rfl) lk_Names_21 kd_323 rfl rfl ?_
    refine wp_icmp_ge (tgt := 16) (dz dl_Names_has_0 5 9 (.if_icmp .ge (7)) 3 rfl) (by decide) (fun hc => ?_) (fun hc => ?_)
    · replace h := h.1 hc
      refine wp_iconst (dz dl_Names_has_0 8 16 (.iconst (0)) 1 rfl) (v := (0 : Int32)) (by decide) ?_
      exact wp_rt (qi _) (rt_Z rfl (Or.inl rfl) (dz dl_Names_has_0 9 17 (.ireturn) 1 rfl)) ⟨_, rfl, h⟩
    · replace h := h.2 hc
      refine wp_iconst (dz dl_Names_has_0 6 12 (.iconst (1)) 1 rfl) (v := (1 : Int32)) (by decide) ?_
      refine wp_goto (tgt := 17) (dz dl_Names_has_0 7 13 (.goto (4)) 3 rfl) (by decide) ?_
      exact wp_rt (qi _) (rt_Z rfl (Or.inr rfl) (dz dl_Names_has_0 9 17 (.ireturn) 1 rfl)) ⟨_, rfl, h⟩
theorem t_Names_has {X : Nat × (Nat → Int32)} {k : Nat} {g : sg} {l0 : Nat} {l1 : Int32} {Z : Int32 → sg → Prop} (h : (l1 < 0 → Z (0 : Int32) g) ∧ (¬ l1 < 0 → ((gI g 323 l0 0) ≤ l1 → Z (0 : Int32) g) ∧ (¬ (gI g 323 l0 0) ≤ l1 → Z (1 : Int32) g))) : nnMT X M_Names_has k [qr 5 (some l0), qi l1] g (zI Z) := b_Names_has_0 h

theorem b_Names_hasRoomFor_0 {X : Nat × (Nat → Int32)} {k : Nat} {g : sg} {l0 : Nat} {l1 : Int32} {Z : Int32 → sg → Prop} (h : ((48 : Int32) < ((gI g 323 l0 0) + l1) → Z (0 : Int32) g) ∧ (¬ (48 : Int32) < ((gI g 323 l0 0) + l1) → Z (1 : Int32) g)) : nnWP X M_Names_hasRoomFor k 0 [qr 5 (some l0), qi l1] [] g (zI Z) := by
  refine wp_aload_n (i := 0) (v := qr 5 (some l0)) (dz dl_Names_hasRoomFor_0 0 0 (.aload_n 0) 1 rfl) rfl rfl trivial ?_
  refine wp_getI l0 (dz dl_Names_hasRoomFor_0 1 1 (.getfield 21) 3 rfl) lk_Names_21 kd_323 rfl rfl ?_
  refine wp_iload_n (i := 1) (x := l1) (dz dl_Names_hasRoomFor_0 2 4 (.iload_n 1) 1 rfl) rfl rfl ?_
  refine wp_iadd (dz dl_Names_hasRoomFor_0 3 5 (.iadd) 1 rfl) ?_
  refine wp_bipush (dz dl_Names_hasRoomFor_0 4 6 (.bipush (48)) 2 rfl) (v := (48 : Int32)) (by decide) ?_
  refine wp_icmp_gt (tgt := 15) (dz dl_Names_hasRoomFor_0 5 8 (.if_icmp .gt (7)) 3 rfl) (by decide) (fun hc => ?_) (fun hc => ?_)
  · replace h := h.1 hc
    refine wp_iconst (dz dl_Names_hasRoomFor_0 8 15 (.iconst (0)) 1 rfl) (v := (0 : Int32)) (by decide) ?_
    exact wp_rt (qi _) (rt_Z rfl (Or.inl rfl) (dz dl_Names_hasRoomFor_0 9 16 (.ireturn) 1 rfl)) ⟨_, rfl, h⟩
  · replace h := h.2 hc
    refine wp_iconst (dz dl_Names_hasRoomFor_0 6 11 (.iconst (1)) 1 rfl) (v := (1 : Int32)) (by decide) ?_
    refine wp_goto (tgt := 16) (dz dl_Names_hasRoomFor_0 7 12 (.goto (4)) 3 rfl) (by decide) ?_
    exact wp_rt (qi _) (rt_Z rfl (Or.inr rfl) (dz dl_Names_hasRoomFor_0 9 16 (.ireturn) 1 rfl)) ⟨_, rfl, h⟩
theorem t_Names_hasRoomFor {X : Nat × (Nat → Int32)} {k : Nat} {g : sg} {l0 : Nat} {l1 : Int32} {Z : Int32 → sg → Prop} (h : ((48 : Int32) < ((gI g 323 l0 0) + l1) → Z (0 : Int32) g) ∧ (¬ (48 : Int32) < ((gI g 323 l0 0) + l1) → Z (1 : Int32) g)) : nnMT X M_Names_hasRoomFor k [qr 5 (some l0), qi l1] g (zI Z) := b_Names_hasRoomFor_0 h

theorem b_Names_shorterOf_0 {X : Nat × (Nat → Int32)} {k : Nat} {g : sg} {l0 : Nat} {l1 : Int32} {Z : Int32 → sg → Prop} (h : nnMT X M_Names_has 0 [qr 5 (some l0), qi l1] g (zI fun r1 g1 => gExt g g1 → (r1 = 0 → Z (-1 : Int32) g1) ∧ (¬ r1 = 0 → gA g1 320 l0 = some 48 ∧ vp_in l1 48 ∧ Z (gI g1 320 l0 l1.toNatClampNeg) g1))) : nnWP X M_Names_shorterOf k 0 [qr 5 (some l0), qi l1] [] g (zI Z) := by
  refine wp_aload_n (i := 0) (v := qr 5 (some l0)) (dz dl_Names_shorterOf_0 0 0 (.aload_n 0) 1 rfl) rfl rfl trivial ?_
  refine wp_iload_n (i := 1) (x := l1) (dz dl_Names_shorterOf_0 1 1 (.iload_n 1) 1 rfl) rfl rfl ?_
  refine wp_callV l0 0 [qi l1] [] (dz dl_Names_shorterOf_0 2 2 (.invokevirtual 25) 3 rfl) ok_Names_has lm_Names_25 (by decide) ws_Names_has wv_Names_has ⟨Nat.le_of_ble_eq_true rfl, Nat.le_of_ble_eq_true rfl⟩ pn_Names_has (Nat.le_of_ble_eq_true rfl) (Nat.le_of_ble_eq_true rfl) rfl (Or.inl rfl) (Nat.zero_le _) (mt_mono h ?_)
  rintro _ g1 ⟨r1, rfl, h⟩ y1
  replace h := h y1.1
  show nnWP _ _ _ _ _ [qi r1] _ _
  refine wp_if_eq (tgt := 17) (dz dl_Names_shorterOf_0 3 5 (.ifCond .eq (12)) 3 rfl) (by decide) (fun hc => ?_) (fun hc => ?_)
  · replace h := h.1 hc
    refine wp_iconst (dz dl_Names_shorterOf_0 9 17 (.iconst (-1)) 1 rfl) (v := (-1 : Int32)) (by decide) ?_
    exact wp_rt (qi _) (rt_I rfl (dz dl_Names_shorterOf_0 10 18 (.ireturn) 1 rfl)) ⟨_, rfl, h⟩
  · replace h := h.2 hc
    refine wp_aload_n (i := 0) (v := qr 5 (some l0)) (dz dl_Names_shorterOf_0 4 8 (.aload_n 0) 1 rfl) rfl rfl trivial ?_
    obtain ⟨n1, h⟩ := h
    refine wp_getA l0 48 (dz dl_Names_shorterOf_0 5 9 (.getfield 9) 3 rfl) lk_Names_9 (q := 0) kd_320 rfl rfl n1 ?_
    refine wp_iload_n (i := 1) (x := l1) (dz dl_Names_shorterOf_0 6 12 (.iload_n 1) 1 rfl) rfl rfl ?_
    obtain ⟨i1, h⟩ := h
    refine wp_iald 48 (dz dl_Names_shorterOf_0 7 13 (.iaload) 1 rfl) kd_320 n1 i1 ?_
    refine wp_goto (tgt := 18) (dz dl_Names_shorterOf_0 8 14 (.goto (4)) 3 rfl) (by decide) ?_
    exact wp_rt (qi _) (rt_I rfl (dz dl_Names_shorterOf_0 10 18 (.ireturn) 1 rfl)) ⟨_, rfl, h⟩
theorem t_Names_shorterOf {X : Nat × (Nat → Int32)} {k : Nat} {g : sg} {l0 : Nat} {l1 : Int32} {Z : Int32 → sg → Prop} (h : nnMT X M_Names_has 0 [qr 5 (some l0), qi l1] g (zI fun r1 g1 => gExt g g1 → (r1 = 0 → Z (-1 : Int32) g1) ∧ (¬ r1 = 0 → gA g1 320 l0 = some 48 ∧ vp_in l1 48 ∧ Z (gI g1 320 l0 l1.toNatClampNeg) g1))) : nnMT X M_Names_shorterOf k [qr 5 (some l0), qi l1] g (zI Z) := b_Names_shorterOf_0 h

theorem b_Names_lengthOf_0 {X : Nat × (Nat → Int32)} {k : Nat} {g : sg} {l0 : Nat} {l1 : Int32} {Z : Int32 → sg → Prop} (h : nnMT X M_Names_has 0 [qr 5 (some l0), qi l1] g (zI fun r1 g1 => gExt g g1 → (r1 = 0 → Z (0 : Int32) g1) ∧ (¬ r1 = 0 → gA g1 322 l0 = some 48 ∧ vp_in l1 48 ∧ Z (gI g1 322 l0 l1.toNatClampNeg) g1))) : nnWP X M_Names_lengthOf k 0 [qr 5 (some l0), qi l1] [] g (zI Z) := by
  refine wp_aload_n (i := 0) (v := qr 5 (some l0)) (dz dl_Names_lengthOf_0 0 0 (.aload_n 0) 1 rfl) rfl rfl trivial ?_
  refine wp_iload_n (i := 1) (x := l1) (dz dl_Names_lengthOf_0 1 1 (.iload_n 1) 1 rfl) rfl rfl ?_
  refine wp_callV l0 0 [qi l1] [] (dz dl_Names_lengthOf_0 2 2 (.invokevirtual 25) 3 rfl) ok_Names_has lm_Names_25 (by decide) ws_Names_has wv_Names_has ⟨Nat.le_of_ble_eq_true rfl, Nat.le_of_ble_eq_true rfl⟩ pn_Names_has (Nat.le_of_ble_eq_true rfl) (Nat.le_of_ble_eq_true rfl) rfl (Or.inl rfl) (Nat.zero_le _) (mt_mono h ?_)
  rintro _ g1 ⟨r1, rfl, h⟩ y1
  replace h := h y1.1
  show nnWP _ _ _ _ _ [qi r1] _ _
  refine wp_if_eq (tgt := 17) (dz dl_Names_lengthOf_0 3 5 (.ifCond .eq (12)) 3 rfl) (by decide) (fun hc => ?_) (fun hc => ?_)
  · replace h := h.1 hc
    refine wp_iconst (dz dl_Names_lengthOf_0 9 17 (.iconst (0)) 1 rfl) (v := (0 : Int32)) (by decide) ?_
    exact wp_rt (qi _) (rt_I rfl (dz dl_Names_lengthOf_0 10 18 (.ireturn) 1 rfl)) ⟨_, rfl, h⟩
  · replace h := h.2 hc
    refine wp_aload_n (i := 0) (v := qr 5 (some l0)) (dz dl_Names_lengthOf_0 4 8 (.aload_n 0) 1 rfl) rfl rfl trivial ?_
    obtain ⟨n1, h⟩ := h
    refine wp_getA l0 48 (dz dl_Names_lengthOf_0 5 9 (.getfield 18) 3 rfl) lk_Names_18 (q := 0) kd_322 rfl rfl n1 ?_
    refine wp_iload_n (i := 1) (x := l1) (dz dl_Names_lengthOf_0 6 12 (.iload_n 1) 1 rfl) rfl rfl ?_
    obtain ⟨i1, h⟩ := h
    refine wp_iald 48 (dz dl_Names_lengthOf_0 7 13 (.iaload) 1 rfl) kd_322 n1 i1 ?_
    refine wp_goto (tgt := 18) (dz dl_Names_lengthOf_0 8 14 (.goto (4)) 3 rfl) (by decide) ?_
    exact wp_rt (qi _) (rt_I rfl (dz dl_Names_lengthOf_0 10 18 (.ireturn) 1 rfl)) ⟨_, rfl, h⟩
theorem t_Names_lengthOf {X : Nat × (Nat → Int32)} {k : Nat} {g : sg} {l0 : Nat} {l1 : Int32} {Z : Int32 → sg → Prop} (h : nnMT X M_Names_has 0 [qr 5 (some l0), qi l1] g (zI fun r1 g1 => gExt g g1 → (r1 = 0 → Z (0 : Int32) g1) ∧ (¬ r1 = 0 → gA g1 322 l0 = some 48 ∧ vp_in l1 48 ∧ Z (gI g1 322 l0 l1.toNatClampNeg) g1))) : nnMT X M_Names_lengthOf k [qr 5 (some l0), qi l1] g (zI Z) := b_Names_lengthOf_0 h

theorem b_Names_find_0 {X : Nat × (Nat → Int32)} {k : Nat} {g : sg} {l0 : Nat} {l1 : Int32} {l2 : Int32} {Z : Int32 → sg → Prop} (h : nnWP X M_Names_find k 2 [qr 5 (some l0), qi l1, qi l2, qi (1 : Int32)] [] g (zI Z)) : nnWP X M_Names_find k 0 [qr 5 (some l0), qi l1, qi l2, none] [] g (zI Z) := by
  refine wp_iconst (dz dl_Names_find_0 0 0 (.iconst (1)) 1 rfl) (v := (1 : Int32)) (by decide) ?_
  refine wp_istore_n (i := 3) (dz dl_Names_find_0 1 1 (.istore_n 3) 1 rfl) rfl [qr 5 (some l0), qi l1, qi l2, qi (1 : Int32)] (by decide) rfl ?_
  exact wp_cut h ⟨Or.inr rfl, Or.inr rfl, Or.inr rfl, Or.inr rfl, trivial⟩
theorem t_Names_find {X : Nat × (Nat → Int32)} {k : Nat} {g : sg} {l0 : Nat} {l1 : Int32} {l2 : Int32} {Z : Int32 → sg → Prop} (h : nnWP X M_Names_find k 2 [qr 5 (some l0), qi l1, qi l2, qi (1 : Int32)] [] g (zI Z)) : nnMT X M_Names_find k [qr 5 (some l0), qi l1, qi l2] g (zI Z) := b_Names_find_0 h

theorem b_Names_find_2 {X : Nat × (Nat → Int32)} {k : Nat} {g : sg} {l0 : Nat} {l1 : Int32} {l2 : Int32} {l3 : Int32} {Z : Int32 → sg → Prop} (h : ((gI g 323 l0 0) ≤ l3 → Z (-1 : Int32) g) ∧ (¬ (gI g 323 l0 0) ≤ l3 → gA g 320 l0 = some 48 ∧ vp_in l3 48 ∧ (¬ (gI g 320 l0 l3.toNatClampNeg) = l1 → nnWP X M_Names_find k 2 [qr 5 (some l0), qi l1, qi l2, qi (l3 + 1)] [] g (zI Z)) ∧ ((gI g 320 l0 l3.toNatClampNeg) = l1 → gA g 321 l0 = some 48 ∧ (¬ (gI g 321 l0 l3.toNatClampNeg) = l2 → nnWP X M_Names_find k 2 [qr 5 (some l0), qi l1, qi l2, qi (l3 + 1)] [] g (zI Z)) ∧ ((gI g 321 l0 l3.toNatClampNeg) = l2 → Z l3 g)))) : nnWP X M_Names_find k 2 [qr 5 (some l0), qi l1, qi l2, qi l3] [] g (zI Z) := by
  refine wp_iload_n (i := 3) (x := l3) (dz dl_Names_find_0 2 2 (.iload_n 3) 1 rfl) rfl rfl ?_
  refine wp_aload_n (i := 0) (v := qr 5 (some l0)) (dz dl_Names_find_0 3 3 (.aload_n 0) 1 rfl) rfl rfl trivial ?_
  refine wp_getI l0 (dz dl_Names_find_0 4 4 (.getfield 21) 3 rfl) lk_Names_21 kd_323 rfl rfl ?_
  refine wp_icmp_ge (tgt := 38) (dz dl_Names_find_0 5 7 (.if_icmp .ge (31)) 3 rfl) (by decide) (fun hc => ?_) (fun hc => ?_)
  · replace h := h.1 hc
    refine wp_iconst (dz dl_Names_find_0 22 38 (.iconst (-1)) 1 rfl) (v := (-1 : Int32)) (by decide) ?_
    exact wp_rt (qi _) (rt_I rfl (dz dl_Names_find_0 23 39 (.ireturn) 1 rfl)) ⟨_, rfl, h⟩
  · replace h := h.2 hc
    refine wp_aload_n (i := 0) (v := qr 5 (some l0)) (dz dl_Names_find_0 6 10 (.aload_n 0) 1 rfl) rfl rfl trivial ?_
    obtain ⟨n1, h⟩ := h
    refine wp_getA l0 48 (dz dl_Names_find_0 7 11 (.getfield 9) 3 rfl) lk_Names_9 (q := 0) kd_320 rfl rfl n1 ?_
    refine wp_iload_n (i := 3) (x := l3) (dz dl_Names_find_0 8 14 (.iload_n 3) 1 rfl) rfl rfl ?_
    obtain ⟨i1, h⟩ := h
    refine wp_iald 48 (dz dl_Names_find_0 9 15 (.iaload) 1 rfl) kd_320 n1 i1 ?_
    refine wp_iload_n (i := 1) (x := l1) (dz dl_Names_find_0 10 16 (.iload_n 1) 1 rfl) rfl rfl ?_
    refine wp_icmp_ne (tgt := 32) (dz dl_Names_find_0 11 17 (.if_icmp .ne (15)) 3 rfl) (by decide) (fun hc => ?_) (fun hc => ?_)
    · replace h := h.1 hc
      refine wp_iinc (i := 3) (v := l3 + 1) (dz dl_Names_find_0 20 32 (.iinc 3 (1)) 3 rfl) rfl (congrArg (fun z => l3 + z) (by decide)) [qr 5 (some l0), qi l1, qi l2, qi (l3 + 1)] (by decide) rfl ?_
      refine wp_goto (tgt := 2) (dz dl_Names_find_0 21 35 (.goto (-33)) 3 rfl) (by decide) ?_
      exact wp_cut h ⟨Or.inr rfl, Or.inr rfl, Or.inr rfl, Or.inr rfl, trivial⟩
    · replace h := h.2 hc
      refine wp_aload_n (i := 0) (v := qr 5 (some l0)) (dz dl_Names_find_0 12 20 (.aload_n 0) 1 rfl) rfl rfl trivial ?_
      obtain ⟨n2, h⟩ := h
      refine wp_getA l0 48 (dz dl_Names_find_0 13 21 (.getfield 15) 3 rfl) lk_Names_15 (q := 0) kd_321 rfl rfl n2 ?_
      refine wp_iload_n (i := 3) (x := l3) (dz dl_Names_find_0 14 24 (.iload_n 3) 1 rfl) rfl rfl ?_
      refine wp_iald 48 (dz dl_Names_find_0 15 25 (.iaload) 1 rfl) kd_321 n2 i1 ?_
      refine wp_iload_n (i := 2) (x := l2) (dz dl_Names_find_0 16 26 (.iload_n 2) 1 rfl) rfl rfl ?_
      refine wp_icmp_ne (tgt := 32) (dz dl_Names_find_0 17 27 (.if_icmp .ne (5)) 3 rfl) (by decide) (fun hc => ?_) (fun hc => ?_)
      · replace h := h.1 hc
        refine wp_iinc (i := 3) (v := l3 + 1) (dz dl_Names_find_0 20 32 (.iinc 3 (1)) 3 rfl) rfl (congrArg (fun z => l3 + z) (by decide)) [qr 5 (some l0), qi l1, qi l2, qi (l3 + 1)] (by decide) rfl ?_
        refine wp_goto (tgt := 2) (dz dl_Names_find_0 21 35 (.goto (-33)) 3 rfl) (by decide) ?_
        exact wp_cut h ⟨Or.inr rfl, Or.inr rfl, Or.inr rfl, Or.inr rfl, trivial⟩
      · replace h := h.2 hc
        refine wp_iload_n (i := 3) (x := l3) (dz dl_Names_find_0 18 30 (.iload_n 3) 1 rfl) rfl rfl ?_
        exact wp_rt (qi _) (rt_I rfl (dz dl_Names_find_0 19 31 (.ireturn) 1 rfl)) ⟨_, rfl, h⟩

theorem b_Names_findOrMake_0 {X : Nat × (Nat → Int32)} {k : Nat} {g : sg} {l0 : Nat} {l1 : Int32} {l2 : Int32} {Z : Int32 → sg → Prop} (h : nnMT X M_Names_find 0 [qr 5 (some l0), qi l1, qi l2] g (zI fun r1 g1 => gExt g g1 → (¬ r1 = (-1 : Int32) → Z r1 g1) ∧ (r1 = (-1 : Int32) → ((gI g1 323 l0 0) < (48 : Int32) → gA g1 320 l0 = some 48 ∧ vp_in (gI g1 323 l0 0) 48 ∧ ∀ g2, g2 = pI g1 320 l0 (gI g1 323 l0 0).toNatClampNeg l1 → gA g2 321 l0 = some 48 ∧ ∀ g3, g3 = pI g2 321 l0 (gI g1 323 l0 0).toNatClampNeg l2 → gA g3 322 l0 = some 48 ∧ nnMT X M_Names_lengthOf 0 [qr 5 (some l0), qi l1] g3 (zI fun r2 g4 => gExt g3 g4 → ∀ g5, g5 = pI g4 322 l0 (gI g1 323 l0 0).toNatClampNeg (r2 + (1 : Int32)) → ∀ g6, g6 = pI g5 323 l0 0 ((gI g5 323 l0 0) + (1 : Int32)) → Z (gI g1 323 l0 0) g6)) ∧ (¬ (gI g1 323 l0 0) < (48 : Int32) → Z r1 g1)))) : nnWP X M_Names_findOrMake k 0 [qr 5 (some l0), qi l1, qi l2, none, none] [] g (zI Z) := by
  refine wp_aload_n (i := 0) (v := qr 5 (some l0)) (dz dl_Names_findOrMake_0 0 0 (.aload_n 0) 1 rfl) rfl rfl trivial ?_
  refine wp_iload_n (i := 1) (x := l1) (dz dl_Names_findOrMake_0 1 1 (.iload_n 1) 1 rfl) rfl rfl ?_
  refine wp_iload_n (i := 2) (x := l2) (dz dl_Names_findOrMake_0 2 2 (.iload_n 2) 1 rfl) rfl rfl ?_
  refine wp_callV l0 0 [qi l1, qi l2] [] (dz dl_Names_findOrMake_0 3 3 (.invokevirtual 29) 3 rfl) ok_Names_find lm_Names_29 (by decide) ws_Names_find wv_Names_find ⟨Nat.le_of_ble_eq_true rfl, Nat.le_of_ble_eq_true rfl⟩ pn_Names_find (Nat.le_of_ble_eq_true rfl) (Nat.le_of_ble_eq_true rfl) rfl (Or.inl rfl) (Nat.zero_le _) (mt_mono h ?_)
  rintro _ g1 ⟨r1, rfl, h⟩ y1
  replace h := h y1.1
  show nnWP _ _ _ _ _ [qi r1] _ _
  refine wp_istore_n (i := 3) (dz dl_Names_findOrMake_0 4 6 (.istore_n 3) 1 rfl) rfl [qr 5 (some l0), qi l1, qi l2, qi r1, none] (by decide) rfl ?_
  refine wp_iload_n (i := 3) (x := r1) (dz dl_Names_findOrMake_0 5 7 (.iload_n 3) 1 rfl) rfl rfl ?_
  refine wp_iconst (dz dl_Names_findOrMake_0 6 8 (.iconst (-1)) 1 rfl) (v := (-1 : Int32)) (by decide) ?_
  refine wp_icmp_ne (tgt := 21) (dz dl_Names_findOrMake_0 7 9 (.if_icmp .ne (12)) 3 rfl) (by decide) (fun hc => ?_) (fun hc => ?_)
  · replace h := h.1 hc
    refine wp_iload_n (i := 3) (x := r1) (dz dl_Names_findOrMake_0 12 21 (.iload_n 3) 1 rfl) rfl rfl ?_
    exact wp_rt (qi _) (rt_I rfl (dz dl_Names_findOrMake_0 13 22 (.ireturn) 1 rfl)) ⟨_, rfl, h⟩
  · replace h := h.2 hc
    refine wp_aload_n (i := 0) (v := qr 5 (some l0)) (dz dl_Names_findOrMake_0 8 12 (.aload_n 0) 1 rfl) rfl rfl trivial ?_
    refine wp_getI l0 (dz dl_Names_findOrMake_0 9 13 (.getfield 21) 3 rfl) lk_Names_21 kd_323 rfl rfl ?_
    refine wp_bipush (dz dl_Names_findOrMake_0 10 16 (.bipush (48)) 2 rfl) (v := (48 : Int32)) (by decide) ?_
    refine wp_icmp_lt (tgt := 23) (dz dl_Names_findOrMake_0 11 18 (.if_icmp .lt (5)) 3 rfl) (by decide) (fun hc => ?_) (fun hc => ?_)
    · replace h := h.1 hc
      refine wp_aload_n (i := 0) (v := qr 5 (some l0)) (dz dl_Names_findOrMake_0 14 23 (.aload_n 0) 1 rfl) rfl rfl trivial ?_
      refine wp_getI l0 (dz dl_Names_findOrMake_0 15 24 (.getfield 21) 3 rfl) lk_Names_21 kd_323 rfl rfl ?_
      refine wp_istore (i := 4) (dz dl_Names_findOrMake_0 16 27 (.istore 4) 2 rfl) [qr 5 (some l0), qi l1, qi l2, qi r1, qi (gI g1 323 l0 0)] (by decide) rfl ?_
      refine wp_aload_n (i := 0) (v := qr 5 (some l0)) (dz dl_Names_findOrMake_0 17 29 (.aload_n 0) 1 rfl) rfl rfl trivial ?_
      obtain ⟨n1, h⟩ := h
      refine wp_getA l0 48 (dz dl_Names_findOrMake_0 18 30 (.getfield 9) 3 rfl) lk_Names_9 (q := 0) kd_320 rfl rfl n1 ?_
      refine wp_iload (i := 4) (x := gI g1 323 l0 0) (dz dl_Names_findOrMake_0 19 33 (.iload 4) 2 rfl) rfl ?_
      refine wp_iload_n (i := 1) (x := l1) (dz dl_Names_findOrMake_0 20 35 (.iload_n 1) 1 rfl) rfl rfl ?_
      obtain ⟨i1, h⟩ := h
      have h := h _ rfl
      refine wp_iast 48 (dz dl_Names_findOrMake_0 21 36 (.iastore) 1 rfl) kd_320 n1 i1 rfl ?_
      refine wp_aload_n (i := 0) (v := qr 5 (some l0)) (dz dl_Names_findOrMake_0 22 37 (.aload_n 0) 1 rfl) rfl rfl trivial ?_
      obtain ⟨n2, h⟩ := h
      refine wp_getA l0 48 (dz dl_Names_findOrMake_0 23 38 (.getfield 15) 3 rfl) lk_Names_15 (q := 0) kd_321 rfl rfl n2 ?_
      refine wp_iload (i := 4) (x := gI g1 323 l0 0) (dz dl_Names_findOrMake_0 24 41 (.iload 4) 2 rfl) rfl ?_
      refine wp_iload_n (i := 2) (x := l2) (dz dl_Names_findOrMake_0 25 43 (.iload_n 2) 1 rfl) rfl rfl ?_
      have h := h _ rfl
      refine wp_iast 48 (dz dl_Names_findOrMake_0 26 44 (.iastore) 1 rfl) kd_321 n2 i1 rfl ?_
      refine wp_aload_n (i := 0) (v := qr 5 (some l0)) (dz dl_Names_findOrMake_0 27 45 (.aload_n 0) 1 rfl) rfl rfl trivial ?_
      obtain ⟨n3, h⟩ := h
      refine wp_getA l0 48 (dz dl_Names_findOrMake_0 28 46 (.getfield 18) 3 rfl) lk_Names_18 (q := 0) kd_322 rfl rfl n3 ?_
      refine wp_iload (i := 4) (x := gI g1 323 l0 0) (dz dl_Names_findOrMake_0 29 49 (.iload 4) 2 rfl) rfl ?_
      refine wp_aload_n (i := 0) (v := qr 5 (some l0)) (dz dl_Names_findOrMake_0 30 51 (.aload_n 0) 1 rfl) rfl rfl trivial ?_
      refine wp_iload_n (i := 1) (x := l1) (dz dl_Names_findOrMake_0 31 52 (.iload_n 1) 1 rfl) rfl rfl ?_
      refine wp_callV l0 0 [qi l1] [qi (gI g1 323 l0 0), qa 322 l0] (dz dl_Names_findOrMake_0 32 53 (.invokevirtual 33) 3 rfl) ok_Names_lengthOf lm_Names_33 (by decide) ws_Names_lengthOf wv_Names_lengthOf ⟨Nat.le_of_ble_eq_true rfl, Nat.le_of_ble_eq_true rfl⟩ pn_Names_lengthOf (Nat.le_of_ble_eq_true rfl) (Nat.le_of_ble_eq_true rfl) rfl (Or.inl rfl) (Nat.zero_le _) (mt_mono h ?_)
      rintro _ g4 ⟨r2, rfl, h⟩ y2
      replace h := h y2.1
      show nnWP _ _ _ _ _ [qi r2, qi (gI g1 323 l0 0), qa 322 l0] _ _
      refine wp_iconst (dz dl_Names_findOrMake_0 33 56 (.iconst (1)) 1 rfl) (v := (1 : Int32)) (by decide) ?_
      refine wp_iadd (dz dl_Names_findOrMake_0 34 57 (.iadd) 1 rfl) ?_
      have h := h _ rfl
      refine wp_iast 48 (dz dl_Names_findOrMake_0 35 58 (.iastore) 1 rfl) kd_322 (y2.1.2 _ _ _ n3) i1 rfl ?_
      refine wp_aload_n (i := 0) (v := qr 5 (some l0)) (dz dl_Names_findOrMake_0 36 59 (.aload_n 0) 1 rfl) rfl rfl trivial ?_
      refine wp_dup (dz dl_Names_findOrMake_0 37 60 (.dup) 1 rfl) ?_
      refine wp_getI l0 (dz dl_Names_findOrMake_0 38 61 (.getfield 21) 3 rfl) lk_Names_21 kd_323 rfl rfl ?_
      refine wp_iconst (dz dl_Names_findOrMake_0 39 64 (.iconst (1)) 1 rfl) (v := (1 : Int32)) (by decide) ?_
      refine wp_iadd (dz dl_Names_findOrMake_1 0 65 (.iadd) 1 rfl) ?_
      have h := h _ rfl
      refine wp_putI l0 (dz dl_Names_findOrMake_1 1 66 (.putfield 21) 3 rfl) lk_Names_21 kd_323 rfl rfl rfl (okI_0 _) rfl ?_
      refine wp_iload (i := 4) (x := gI g1 323 l0 0) (dz dl_Names_findOrMake_1 2 69 (.iload 4) 2 rfl) rfl ?_
      exact wp_rt (qi _) (rt_I rfl (dz dl_Names_findOrMake_1 3 71 (.ireturn) 1 rfl)) ⟨_, rfl, h⟩
    · replace h := h.2 hc
      refine wp_iload_n (i := 3) (x := r1) (dz dl_Names_findOrMake_0 12 21 (.iload_n 3) 1 rfl) rfl rfl ?_
      exact wp_rt (qi _) (rt_I rfl (dz dl_Names_findOrMake_0 13 22 (.ireturn) 1 rfl)) ⟨_, rfl, h⟩
theorem t_Names_findOrMake {X : Nat × (Nat → Int32)} {k : Nat} {g : sg} {l0 : Nat} {l1 : Int32} {l2 : Int32} {Z : Int32 → sg → Prop} (h : nnMT X M_Names_find 0 [qr 5 (some l0), qi l1, qi l2] g (zI fun r1 g1 => gExt g g1 → (¬ r1 = (-1 : Int32) → Z r1 g1) ∧ (r1 = (-1 : Int32) → ((gI g1 323 l0 0) < (48 : Int32) → gA g1 320 l0 = some 48 ∧ vp_in (gI g1 323 l0 0) 48 ∧ ∀ g2, g2 = pI g1 320 l0 (gI g1 323 l0 0).toNatClampNeg l1 → gA g2 321 l0 = some 48 ∧ ∀ g3, g3 = pI g2 321 l0 (gI g1 323 l0 0).toNatClampNeg l2 → gA g3 322 l0 = some 48 ∧ nnMT X M_Names_lengthOf 0 [qr 5 (some l0), qi l1] g3 (zI fun r2 g4 => gExt g3 g4 → ∀ g5, g5 = pI g4 322 l0 (gI g1 323 l0 0).toNatClampNeg (r2 + (1 : Int32)) → ∀ g6, g6 = pI g5 323 l0 0 ((gI g5 323 l0 0) + (1 : Int32)) → Z (gI g1 323 l0 0) g6)) ∧ (¬ (gI g1 323 l0 0) < (48 : Int32) → Z r1 g1)))) : nnMT X M_Names_findOrMake k [qr 5 (some l0), qi l1, qi l2] g (zI Z) := b_Names_findOrMake_0 h

theorem b_Names_answers_0 {X : Nat × (Nat → Int32)} {k : Nat} {g : sg} {l0 : Nat} {l1 : Int32} {l2 : Int32} {l3 : Int32} {Z : Int32 → sg → Prop} (h : (¬ l1 = l2 → ((l3 &&& (1 : Int32)) = 0 → Z (0 : Int32) g) ∧ (¬ (l3 &&& (1 : Int32)) = 0 → nnMT X M_Names_isPrefix 0 [qr 5 (some l0), qi l2, qi l1] g (zI fun r1 g1 => gExt g g1 → (r1 = 0 → Z (0 : Int32) g1) ∧ (¬ r1 = 0 → Z (1 : Int32) g1)))) ∧ (l1 = l2 → Z (1 : Int32) g)) : nnWP X M_Names_answers k 0 [qr 5 (some l0), qi l1, qi l2, qi l3] [] g (zI Z) := by
  refine wp_iload_n (i := 1) (x := l1) (dz dl_Names_answers_0 0 0 (.iload_n 1) 1 rfl) rfl rfl ?_
  refine wp_iload_n (i := 2) (x := l2) (dz dl_Names_answers_0 1 1 (.iload_n 2) 1 rfl) rfl rfl ?_
  refine wp_icmp_ne (tgt := 7) (dz dl_Names_answers_0 2 2 (.if_icmp .ne (5)) 3 rfl) (by decide) (fun hc => ?_) (fun hc => ?_)
  · replace h := h.1 hc
    refine wp_iload_n (i := 3) (x := l3) (dz dl_Names_answers_0 5 7 (.iload_n 3) 1 rfl) rfl rfl ?_
    refine wp_iconst (dz dl_Names_answers_0 6 8 (.iconst (1)) 1 rfl) (v := (1 : Int32)) (by decide) ?_
    refine wp_iand (dz dl_Names_answers_0 7 9 (.iand) 1 rfl) ?_
    refine wp_if_eq (tgt := 26) (dz dl_Names_answers_0 8 10 (.ifCond .eq (16)) 3 rfl) (by decide) (fun hc => ?_) (fun hc => ?_)
    · replace h := h.1 hc
      refine wp_iconst (dz dl_Names_answers_0 16 26 (.iconst (0)) 1 rfl) (v := (0 : Int32)) (by decide) ?_
      exact wp_rt (qi _) (rt_Z rfl (Or.inl rfl) (dz dl_Names_answers_0 17 27 (.ireturn) 1 rfl)) ⟨_, rfl, h⟩
    · replace h := h.2 hc
      refine wp_aload_n (i := 0) (v := qr 5 (some l0)) (dz dl_Names_answers_0 9 13 (.aload_n 0) 1 rfl) rfl rfl trivial ?_
      refine wp_iload_n (i := 2) (x := l2) (dz dl_Names_answers_0 10 14 (.iload_n 2) 1 rfl) rfl rfl ?_
      refine wp_iload_n (i := 1) (x := l1) (dz dl_Names_answers_0 11 15 (.iload_n 1) 1 rfl) rfl rfl ?_
      refine wp_callV l0 0 [qi l2, qi l1] [] (dz dl_Names_answers_0 12 16 (.invokevirtual 37) 3 rfl) ok_Names_isPrefix lm_Names_37 (by decide) ws_Names_isPrefix wv_Names_isPrefix ⟨Nat.le_of_ble_eq_true rfl, Nat.le_of_ble_eq_true rfl⟩ pn_Names_isPrefix (Nat.le_of_ble_eq_true rfl) (Nat.le_of_ble_eq_true rfl) rfl (Or.inl rfl) (Nat.zero_le _) (mt_mono h ?_)
      rintro _ g1 ⟨r1, rfl, h⟩ y1
      replace h := h y1.1
      show nnWP _ _ _ _ _ [qi r1] _ _
      refine wp_if_eq (tgt := 26) (dz dl_Names_answers_0 13 19 (.ifCond .eq (7)) 3 rfl) (by decide) (fun hc => ?_) (fun hc => ?_)
      · replace h := h.1 hc
        refine wp_iconst (dz dl_Names_answers_0 16 26 (.iconst (0)) 1 rfl) (v := (0 : Int32)) (by decide) ?_
        exact wp_rt (qi _) (rt_Z rfl (Or.inl rfl) (dz dl_Names_answers_0 17 27 (.ireturn) 1 rfl)) ⟨_, rfl, h⟩
      · replace h := h.2 hc
        refine wp_iconst (dz dl_Names_answers_0 14 22 (.iconst (1)) 1 rfl) (v := (1 : Int32)) (by decide) ?_
        refine wp_goto (tgt := 27) (dz dl_Names_answers_0 15 23 (.goto (4)) 3 rfl) (by decide) ?_
        exact wp_rt (qi _) (rt_Z rfl (Or.inr rfl) (dz dl_Names_answers_0 17 27 (.ireturn) 1 rfl)) ⟨_, rfl, h⟩
  · replace h := h.2 hc
    refine wp_iconst (dz dl_Names_answers_0 3 5 (.iconst (1)) 1 rfl) (v := (1 : Int32)) (by decide) ?_
    exact wp_rt (qi _) (rt_Z rfl (Or.inr rfl) (dz dl_Names_answers_0 4 6 (.ireturn) 1 rfl)) ⟨_, rfl, h⟩
theorem t_Names_answers {X : Nat × (Nat → Int32)} {k : Nat} {g : sg} {l0 : Nat} {l1 : Int32} {l2 : Int32} {l3 : Int32} {Z : Int32 → sg → Prop} (h : (¬ l1 = l2 → ((l3 &&& (1 : Int32)) = 0 → Z (0 : Int32) g) ∧ (¬ (l3 &&& (1 : Int32)) = 0 → nnMT X M_Names_isPrefix 0 [qr 5 (some l0), qi l2, qi l1] g (zI fun r1 g1 => gExt g g1 → (r1 = 0 → Z (0 : Int32) g1) ∧ (¬ r1 = 0 → Z (1 : Int32) g1)))) ∧ (l1 = l2 → Z (1 : Int32) g)) : nnMT X M_Names_answers k [qr 5 (some l0), qi l1, qi l2, qi l3] g (zI Z) := b_Names_answers_0 h

theorem b_Names_isPrefix_0 {X : Nat × (Nat → Int32)} {k : Nat} {g : sg} {l0 : Nat} {l1 : Int32} {l2 : Int32} {Z : Int32 → sg → Prop} (h : nnWP X M_Names_isPrefix k 5 [qr 5 (some l0), qi l1, none, qi l2, qi (0 : Int32)] [] g (zI Z)) : nnWP X M_Names_isPrefix k 0 [qr 5 (some l0), qi l1, qi l2, none, none] [] g (zI Z) := by
  refine wp_iload_n (i := 2) (x := l2) (dz dl_Names_isPrefix_0 0 0 (.iload_n 2) 1 rfl) rfl rfl ?_
  refine wp_istore_n (i := 3) (dz dl_Names_isPrefix_0 1 1 (.istore_n 3) 1 rfl) rfl [qr 5 (some l0), qi l1, qi l2, qi l2, none] (by decide) rfl ?_
  refine wp_iconst (dz dl_Names_isPrefix_0 2 2 (.iconst (0)) 1 rfl) (v := (0 : Int32)) (by decide) ?_
  refine wp_istore (i := 4) (dz dl_Names_isPrefix_0 3 3 (.istore 4) 2 rfl) [qr 5 (some l0), qi l1, qi l2, qi l2, qi (0 : Int32)] (by decide) rfl ?_
  exact wp_cut h ⟨Or.inr rfl, Or.inr rfl, Or.inl rfl, Or.inr rfl, Or.inr rfl, trivial⟩
theorem t_Names_isPrefix {X : Nat × (Nat → Int32)} {k : Nat} {g : sg} {l0 : Nat} {l1 : Int32} {l2 : Int32} {Z : Int32 → sg → Prop} (h : nnWP X M_Names_isPrefix k 5 [qr 5 (some l0), qi l1, none, qi l2, qi (0 : Int32)] [] g (zI Z)) : nnMT X M_Names_isPrefix k [qr 5 (some l0), qi l1, qi l2] g (zI Z) := b_Names_isPrefix_0 h

theorem b_Names_isPrefix_5 {X : Nat × (Nat → Int32)} {k : Nat} {g : sg} {l0 : Nat} {l1 : Int32} {l3 : Int32} {l4 : Int32} {Z : Int32 → sg → Prop} (h : ((4 : Int32) < l4 → Z (0 : Int32) g) ∧ (¬ (4 : Int32) < l4 → (l3 < 0 → Z (0 : Int32) g) ∧ (¬ l3 < 0 → (¬ l3 = l1 → gA g 320 l0 = some 48 ∧ vp_in l3 48 ∧ nnWP X M_Names_isPrefix k 5 [qr 5 (some l0), qi l1, none, qi (gI g 320 l0 l3.toNatClampNeg), qi (l4 + 1)] [] g (zI Z)) ∧ (l3 = l1 → Z (1 : Int32) g)))) : nnWP X M_Names_isPrefix k 5 [qr 5 (some l0), qi l1, none, qi l3, qi l4] [] g (zI Z) := by
  refine wp_iload (i := 4) (x := l4) (dz dl_Names_isPrefix_0 4 5 (.iload 4) 2 rfl) rfl ?_
  refine wp_iconst (dz dl_Names_isPrefix_0 5 7 (.iconst (4)) 1 rfl) (v := (4 : Int32)) (by decide) ?_
  refine wp_icmp_gt (tgt := 35) (dz dl_Names_isPrefix_0 6 8 (.if_icmp .gt (27)) 3 rfl) (by decide) (fun hc => ?_) (fun hc => ?_)
  · replace h := h.1 hc
    refine wp_iconst (dz dl_Names_isPrefix_0 21 35 (.iconst (0)) 1 rfl) (v := (0 : Int32)) (by decide) ?_
    exact wp_rt (qi _) (rt_Z rfl (Or.inl rfl) (dz dl_Names_isPrefix_0 22 36 (.ireturn) 1 rfl)) ⟨_, rfl, h⟩
  · replace h := h.2 hc
    refine wp_iload_n (i := 3) (x := l3) (dz dl_Names_isPrefix_0 7 11 (.iload_n 3) 1 rfl) rfl rfl ?_
    refine wp_if_lt (tgt := 35) (dz dl_Names_isPrefix_0 8 12 (.ifCond .lt (23)) 3 rfl) (by decide) (fun hc => ?_) (fun hc => ?_)
    · replace h := h.1 hc
      refine wp_iconst (dz dl_Names_isPrefix_0 21 35 (.iconst (0)) 1 rfl) (v := (0 : Int32)) (by decide) ?_
      exact wp_rt (qi _) (rt_Z rfl (Or.inl rfl) (dz dl_Names_isPrefix_0 22 36 (.ireturn) 1 rfl)) ⟨_, rfl, h⟩
    · replace h := h.2 hc
      refine wp_iload_n (i := 3) (x := l3) (dz dl_Names_isPrefix_0 9 15 (.iload_n 3) 1 rfl) rfl rfl ?_
      refine wp_iload_n (i := 1) (x := l1) (dz dl_Names_isPrefix_0 10 16 (.iload_n 1) 1 rfl) rfl rfl ?_
      refine wp_icmp_ne (tgt := 22) (dz dl_Names_isPrefix_0 11 17 (.if_icmp .ne (5)) 3 rfl) (by decide) (fun hc => ?_) (fun hc => ?_)
      · replace h := h.1 hc
        refine wp_aload_n (i := 0) (v := qr 5 (some l0)) (dz dl_Names_isPrefix_0 14 22 (.aload_n 0) 1 rfl) rfl rfl trivial ?_
        obtain ⟨n1, h⟩ := h
        refine wp_getA l0 48 (dz dl_Names_isPrefix_0 15 23 (.getfield 9) 3 rfl) lk_Names_9 (q := 0) kd_320 rfl rfl n1 ?_
        refine wp_iload_n (i := 3) (x := l3) (dz dl_Names_isPrefix_0 16 26 (.iload_n 3) 1 rfl) rfl rfl ?_
        obtain ⟨i1, h⟩ := h
        refine wp_iald 48 (dz dl_Names_isPrefix_0 17 27 (.iaload) 1 rfl) kd_320 n1 i1 ?_
        refine wp_istore_n (i := 3) (dz dl_Names_isPrefix_0 18 28 (.istore_n 3) 1 rfl) rfl [qr 5 (some l0), qi l1, none, qi (gI g 320 l0 l3.toNatClampNeg), qi l4] (by decide) rfl ?_
        refine wp_iinc (i := 4) (v := l4 + 1) (dz dl_Names_isPrefix_0 19 29 (.iinc 4 (1)) 3 rfl) rfl (congrArg (fun z => l4 + z) (by decide)) [qr 5 (some l0), qi l1, none, qi (gI g 320 l0 l3.toNatClampNeg), qi (l4 + 1)] (by decide) rfl ?_
        refine wp_goto (tgt := 5) (dz dl_Names_isPrefix_0 20 32 (.goto (-27)) 3 rfl) (by decide) ?_
        exact wp_cut h ⟨Or.inr rfl, Or.inr rfl, Or.inl rfl, Or.inr rfl, Or.inr rfl, trivial⟩
      · replace h := h.2 hc
        refine wp_iconst (dz dl_Names_isPrefix_0 12 20 (.iconst (1)) 1 rfl) (v := (1 : Int32)) (by decide) ?_
        exact wp_rt (qi _) (rt_Z rfl (Or.inr rfl) (dz dl_Names_isPrefix_0 13 21 (.ireturn) 1 rfl)) ⟨_, rfl, h⟩

theorem b_Node_init_0 {X : Nat × (Nat → Int32)} {k : Nat} {g : sg} {l0 : Nat} {l1 : Int32} {l2 : Int32} {l3 : Int32} {Z : sg → Prop} (h : 1 ≤ k ∧ gA g 385 l0 = none ∧ ∀ g1, g1 = pA g 385 l0 4 → 1 ≤ (k - 1) ∧ ∀ g2, g2 = pN g1 11 → 4 ≤ (k - 1 - 1) ∧ nnMT X M_Routes_init 4 [qr 11 (some (gC g1 11))] g2 (zV fun g3 => gExt g2 g3 → ∀ g4, g4 = pR g3 386 l0 0 (some (gC g1 11)) → 1 ≤ (k - 1 - 1 - 4) ∧ ∀ g5, g5 = pN g4 4 → 4 ≤ (k - 1 - 1 - 4 - 1) ∧ nnMT X M_Fetch_init 4 [qr 4 (some (gC g4 4))] g5 (zV fun g6 => gExt g5 g6 → ∀ g7, g7 = pR g6 389 l0 0 (some (gC g4 4)) → ∀ g8, g8 = pI g7 384 l0 0 l1 → nnWP X M_Node_init (k - 1 - 1 - 4 - 1 - 4) 42 [qr 6 (some l0), none, qi l2, qi l3, qi (0 : Int32)] [] g8 (zV Z)))) : nnWP X M_Node_init k 0 [qr 6 (some l0), qi l1, qi l2, qi l3, none] [] g (zV Z) := by
  refine wp_aload_n (i := 0) (v := qr 6 (some l0)) (dz dl_Node_init_0 0 0 (.aload_n 0) 1 rfl) rfl rfl trivial ?_
  refine wp_objInit l0 (dz dl_Node_init_0 1 1 (.invokespecial 3) 3 rfl) wm_Node_3 w_oi w_oc (by decide) (by decide) (Nat.le_of_ble_eq_true rfl) rfl ?_
  refine wp_aload_n (i := 0) (v := qr 6 (some l0)) (dz dl_Node_init_0 2 4 (.aload_n 0) 1 rfl) rfl rfl trivial ?_
  refine wp_iconst (dz dl_Node_init_0 3 5 (.iconst (4)) 1 rfl) (v := (4 : Int32)) (by decide) ?_
  obtain ⟨u1, h⟩ := h
  obtain ⟨q1, h⟩ := h
  have h := h _ rfl
  refine wp_newR (n := 4) l0 1 (dz dl_Node_init_0 4 6 (.anewarray 9) 3 rfl) (dz dl_Node_init_0 5 9 (.putfield 11) 3 rfl) wf_Node_11 kd_385 (by decide) wc_Node_9 (by decide) rfl rfl rfl (by decide) (by decide) (by decide) u1 q1 rfl ?_
  refine wp_aload_n (i := 0) (v := qr 6 (some l0)) (dz dl_Node_init_0 6 12 (.aload_n 0) 1 rfl) rfl rfl trivial ?_
  obtain ⟨u2, h⟩ := h
  have h := h _ rfl
  refine wp_new 1 (dz dl_Node_init_0 7 13 (.new 17) 3 rfl) (by decide) wc_Node_17 wi_11 wn_11 ⟨by decide, by decide⟩ rfl u2 ?_
  refine wp_dup (dz dl_Node_init_0 8 16 (.dup) 1 rfl) ?_
  obtain ⟨u3, h⟩ := h
  refine wp_callI (gC (pA g 385 l0 4) 11) 4 [] [qr 11 (some (gC (pA g 385 l0 4) 11)), qr 6 (some l0)] (dz dl_Node_init_0 9 17 (.invokespecial 19) 3 rfl) ok_Routes_init rfl rfl lm_Node_19 ws_Routes_init ⟨Nat.le_of_ble_eq_true rfl, Nat.le_of_ble_eq_true rfl⟩ pn_Routes_init (Nat.le_of_ble_eq_true rfl) (Nat.le_of_ble_eq_true rfl) rfl (Or.inl rfl) u3 (mt_mono h ?_)
  rintro _ g3 ⟨rfl, h⟩ y1
  replace h := h y1.1
  show nnWP _ _ _ _ _ [qr 11 (some (gC (pA g 385 l0 4) 11)), qr 6 (some l0)] _ _
  have h := h _ rfl
  refine wp_putRF l0 (dz dl_Node_init_0 10 20 (.putfield 20) 3 rfl) wf_Node_20 kd_386 rfl rfl rfl ?_
  refine wp_aload_n (i := 0) (v := qr 6 (some l0)) (dz dl_Node_init_0 11 23 (.aload_n 0) 1 rfl) rfl rfl trivial ?_
  obtain ⟨u4, h⟩ := h
  have h := h _ rfl
  refine wp_new 1 (dz dl_Node_init_0 12 24 (.new 24) 3 rfl) (by decide) wc_Node_24 wi_4 wn_4 ⟨by decide, by decide⟩ rfl u4 ?_
  refine wp_dup (dz dl_Node_init_0 13 27 (.dup) 1 rfl) ?_
  obtain ⟨u5, h⟩ := h
  refine wp_callI (gC (pR g3 386 l0 0 (some (gC (pA g 385 l0 4) 11))) 4) 4 [] [qr 4 (some (gC (pR g3 386 l0 0 (some (gC (pA g 385 l0 4) 11))) 4)), qr 6 (some l0)] (dz dl_Node_init_0 14 28 (.invokespecial 26) 3 rfl) ok_Fetch_init rfl rfl lm_Node_26 ws_Fetch_init ⟨Nat.le_of_ble_eq_true rfl, Nat.le_of_ble_eq_true rfl⟩ pn_Fetch_init (Nat.le_of_ble_eq_true rfl) (Nat.le_of_ble_eq_true rfl) rfl (Or.inl rfl) u5 (mt_mono h ?_)
  rintro _ g6 ⟨rfl, h⟩ y2
  replace h := h y2.1
  show nnWP _ _ _ _ _ [qr 4 (some (gC (pR g3 386 l0 0 (some (gC (pA g 385 l0 4) 11))) 4)), qr 6 (some l0)] _ _
  have h := h _ rfl
  refine wp_putRF l0 (dz dl_Node_init_0 15 31 (.putfield 27) 3 rfl) wf_Node_27 kd_389 rfl rfl rfl ?_
  refine wp_aload_n (i := 0) (v := qr 6 (some l0)) (dz dl_Node_init_0 16 34 (.aload_n 0) 1 rfl) rfl rfl trivial ?_
  refine wp_iload_n (i := 1) (x := l1) (dz dl_Node_init_0 17 35 (.iload_n 1) 1 rfl) rfl rfl ?_
  have h := h _ rfl
  refine wp_putIF l0 (dz dl_Node_init_0 18 36 (.putfield 31) 3 rfl) wf_Node_31 kd_384 rfl rfl (okI_0 _) rfl ?_
  refine wp_iconst (dz dl_Node_init_0 19 39 (.iconst (0)) 1 rfl) (v := (0 : Int32)) (by decide) ?_
  refine wp_istore (i := 4) (dz dl_Node_init_0 20 40 (.istore 4) 2 rfl) [qr 6 (some l0), qi l1, qi l2, qi l3, qi (0 : Int32)] (by decide) rfl ?_
  exact wp_cut h ⟨Or.inr rfl, Or.inl rfl, Or.inr rfl, Or.inr rfl, Or.inr rfl, trivial⟩
theorem t_Node_init {X : Nat × (Nat → Int32)} {k : Nat} {g : sg} {l0 : Nat} {l1 : Int32} {l2 : Int32} {l3 : Int32} {Z : sg → Prop} (h : 1 ≤ k ∧ gA g 385 l0 = none ∧ ∀ g1, g1 = pA g 385 l0 4 → 1 ≤ (k - 1) ∧ ∀ g2, g2 = pN g1 11 → 4 ≤ (k - 1 - 1) ∧ nnMT X M_Routes_init 4 [qr 11 (some (gC g1 11))] g2 (zV fun g3 => gExt g2 g3 → ∀ g4, g4 = pR g3 386 l0 0 (some (gC g1 11)) → 1 ≤ (k - 1 - 1 - 4) ∧ ∀ g5, g5 = pN g4 4 → 4 ≤ (k - 1 - 1 - 4 - 1) ∧ nnMT X M_Fetch_init 4 [qr 4 (some (gC g4 4))] g5 (zV fun g6 => gExt g5 g6 → ∀ g7, g7 = pR g6 389 l0 0 (some (gC g4 4)) → ∀ g8, g8 = pI g7 384 l0 0 l1 → nnWP X M_Node_init (k - 1 - 1 - 4 - 1 - 4) 42 [qr 6 (some l0), none, qi l2, qi l3, qi (0 : Int32)] [] g8 (zV Z)))) : nnMT X M_Node_init k [qr 6 (some l0), qi l1, qi l2, qi l3] g (zV Z) := b_Node_init_0 h

theorem b_Node_init_42 {X : Nat × (Nat → Int32)} {k : Nat} {g : sg} {l0 : Nat} {l2 : Int32} {l3 : Int32} {l4 : Int32} {Z : sg → Prop} (h : ((4 : Int32) ≤ l4 → 1 ≤ k ∧ ∀ g1, g1 = pN g 12 → 2 ≤ (k - 1) ∧ nnMT X M_Store_init 2 [qr 12 (some (gC g 12)), qi l2] g1 (zV fun g2 => gExt g1 g2 → ∀ g3, g3 = pR g2 387 l0 0 (some (gC g 12)) → 1 ≤ (k - 1 - 2) ∧ ∀ g4, g4 = pN g3 8 → 31 ≤ (k - 1 - 2 - 1) ∧ nnMT X M_Pending_init 31 [qr 8 (some (gC g3 8)), qi l3] g4 (zV fun g5 => gExt g4 g5 → ∀ g6, g6 = pR g5 388 l0 0 (some (gC g3 8)) → Z g6))) ∧ (¬ (4 : Int32) ≤ l4 → gA g 385 l0 = some 4 ∧ 1 ≤ k ∧ ∀ g7, g7 = pN g 3 → 1 ≤ (k - 1) ∧ nnMT X M_Face_init 1 [qr 3 (some (gC g 3))] g7 (zV fun g8 => gExt g7 g8 → vp_in l4 4 ∧ ∀ g9, g9 = pR g8 385 l0 l4.toNatClampNeg (some (gC g 3)) → nnWP X M_Node_init (k - 1 - 1) 42 [qr 6 (some l0), none, qi l2, qi l3, qi (l4 + 1)] [] g9 (zV Z)))) : nnWP X M_Node_init k 42 [qr 6 (some l0), none, qi l2, qi l3, qi l4] [] g (zV Z) := by
  refine wp_iload (i := 4) (x := l4) (dz dl_Node_init_0 21 42 (.iload 4) 2 rfl) rfl ?_
  refine wp_iconst (dz dl_Node_init_0 22 44 (.iconst (4)) 1 rfl) (v := (4 : Int32)) (by decide) ?_
  refine wp_icmp_ge (tgt := 68) (dz dl_Node_init_0 23 45 (.if_icmp .ge (23)) 3 rfl) (by decide) (fun hc => ?_) (fun hc => ?_)
  · replace h := h.1 hc
    refine wp_aload_n (i := 0) (v := qr 6 (some l0)) (dz dl_Node_init_0 33 68 (.aload_n 0) 1 rfl) rfl rfl trivial ?_
    obtain ⟨u1, h⟩ := h
    have h := h _ rfl
    refine wp_new 1 (dz dl_Node_init_0 34 69 (.new 36) 3 rfl) (by decide) wc_Node_36 wi_12 wn_12 ⟨by decide, by decide⟩ rfl u1 ?_
    refine wp_dup (dz dl_Node_init_0 35 72 (.dup) 1 rfl) ?_
    refine wp_iload_n (i := 2) (x := l2) (dz dl_Node_init_0 36 73 (.iload_n 2) 1 rfl) rfl rfl ?_
    obtain ⟨u2, h⟩ := h
    refine wp_callI (gC g 12) 2 [qi l2] [qr 12 (some (gC g 12)), qr 6 (some l0)] (dz dl_Node_init_0 37 74 (.invokespecial 38) 3 rfl) ok_Store_init rfl rfl lm_Node_38 ws_Store_init ⟨Nat.le_of_ble_eq_true rfl, Nat.le_of_ble_eq_true rfl⟩ pn_Store_init (Nat.le_of_ble_eq_true rfl) (Nat.le_of_ble_eq_true rfl) rfl (Or.inl rfl) u2 (mt_mono h ?_)
    rintro _ g2 ⟨rfl, h⟩ y1
    replace h := h y1.1
    show nnWP _ _ _ _ _ [qr 12 (some (gC g 12)), qr 6 (some l0)] _ _
    have h := h _ rfl
    refine wp_putRF l0 (dz dl_Node_init_0 38 77 (.putfield 41) 3 rfl) wf_Node_41 kd_387 rfl rfl rfl ?_
    refine wp_aload_n (i := 0) (v := qr 6 (some l0)) (dz dl_Node_init_0 39 80 (.aload_n 0) 1 rfl) rfl rfl trivial ?_
    obtain ⟨u3, h⟩ := h
    have h := h _ rfl
    refine wp_new 1 (dz dl_Node_init_1 0 81 (.new 45) 3 rfl) (by decide) wc_Node_45 wi_8 wn_8 ⟨by decide, by decide⟩ rfl u3 ?_
    refine wp_dup (dz dl_Node_init_1 1 84 (.dup) 1 rfl) ?_
    refine wp_iload_n (i := 3) (x := l3) (dz dl_Node_init_1 2 85 (.iload_n 3) 1 rfl) rfl rfl ?_
    obtain ⟨u4, h⟩ := h
    refine wp_callI (gC (pR g2 387 l0 0 (some (gC g 12))) 8) 31 [qi l3] [qr 8 (some (gC (pR g2 387 l0 0 (some (gC g 12))) 8)), qr 6 (some l0)] (dz dl_Node_init_1 3 86 (.invokespecial 47) 3 rfl) ok_Pending_init rfl rfl lm_Node_47 ws_Pending_init ⟨Nat.le_of_ble_eq_true rfl, Nat.le_of_ble_eq_true rfl⟩ pn_Pending_init (Nat.le_of_ble_eq_true rfl) (Nat.le_of_ble_eq_true rfl) rfl (Or.inl rfl) u4 (mt_mono h ?_)
    rintro _ g5 ⟨rfl, h⟩ y2
    replace h := h y2.1
    show nnWP _ _ _ _ _ [qr 8 (some (gC (pR g2 387 l0 0 (some (gC g 12))) 8)), qr 6 (some l0)] _ _
    have h := h _ rfl
    refine wp_putRF l0 (dz dl_Node_init_1 4 89 (.putfield 48) 3 rfl) wf_Node_48 kd_388 rfl rfl rfl ?_
    exact wp_rt none (rt_V rfl (dz dl_Node_init_1 5 92 (.return_) 1 rfl)) ⟨rfl, h⟩
  · replace h := h.2 hc
    refine wp_aload_n (i := 0) (v := qr 6 (some l0)) (dz dl_Node_init_0 24 48 (.aload_n 0) 1 rfl) rfl rfl trivial ?_
    obtain ⟨n1, h⟩ := h
    refine wp_getA l0 4 (dz dl_Node_init_0 25 49 (.getfield 11) 3 rfl) lk_Node_11 (q := 1) kd_385 rfl rfl n1 ?_
    refine wp_iload (i := 4) (x := l4) (dz dl_Node_init_0 26 52 (.iload 4) 2 rfl) rfl ?_
    obtain ⟨u5, h⟩ := h
    have h := h _ rfl
    refine wp_new 1 (dz dl_Node_init_0 27 54 (.new 9) 3 rfl) (by decide) wc_Node_9 wi_3 wn_3 ⟨by decide, by decide⟩ rfl u5 ?_
    refine wp_dup (dz dl_Node_init_0 28 57 (.dup) 1 rfl) ?_
    obtain ⟨u6, h⟩ := h
    refine wp_callI (gC g 3) 1 [] [qr 3 (some (gC g 3)), qi l4, qa 385 l0] (dz dl_Node_init_0 29 58 (.invokespecial 35) 3 rfl) ok_Face_init rfl rfl lm_Node_35 ws_Face_init ⟨Nat.le_of_ble_eq_true rfl, Nat.le_of_ble_eq_true rfl⟩ pn_Face_init (Nat.le_of_ble_eq_true rfl) (Nat.le_of_ble_eq_true rfl) rfl (Or.inl rfl) u6 (mt_mono h ?_)
    rintro _ g8 ⟨rfl, h⟩ y3
    replace h := h y3.1
    show nnWP _ _ _ _ _ [qr 3 (some (gC g 3)), qi l4, qa 385 l0] _ _
    obtain ⟨i1, h⟩ := h
    have h := h _ rfl
    refine wp_aast 4 (dz dl_Node_init_0 30 61 (.aastore) 1 rfl) kd_385 (by decide) (y3.1.2 _ _ _ (gA_pN_ne (by decide) n1)) i1 rfl ?_
    refine wp_iinc (i := 4) (v := l4 + 1) (dz dl_Node_init_0 31 62 (.iinc 4 (1)) 3 rfl) rfl (congrArg (fun z => l4 + z) (by decide)) [qr 6 (some l0), none, qi l2, qi l3, qi (l4 + 1)] (by decide) rfl ?_
    refine wp_goto (tgt := 42) (dz dl_Node_init_0 32 65 (.goto (-23)) 3 rfl) (by decide) ?_
    exact wp_cut h ⟨Or.inr rfl, Or.inl rfl, Or.inr rfl, Or.inr rfl, Or.inr rfl, trivial⟩

theorem b_Node_spread_0 {X : Nat × (Nat → Int32)} {k : Nat} {g : sg} {l0 : Nat} {l1 : Option Nat} {l2 : Int32} {Z : sg → Prop} (h : nnWP X M_Node_spread k 2 [qr 6 (some l0), qr 7 l1, qi l2, qi (0 : Int32)] [] g (zV Z)) : nnWP X M_Node_spread k 0 [qr 6 (some l0), qr 7 l1, qi l2, none] [] g (zV Z) := by
  refine wp_iconst (dz dl_Node_spread_0 0 0 (.iconst (0)) 1 rfl) (v := (0 : Int32)) (by decide) ?_
  refine wp_istore_n (i := 3) (dz dl_Node_spread_0 1 1 (.istore_n 3) 1 rfl) rfl [qr 6 (some l0), qr 7 l1, qi l2, qi (0 : Int32)] (by decide) rfl ?_
  exact wp_cut h ⟨Or.inr rfl, Or.inr rfl, Or.inr rfl, Or.inr rfl, trivial⟩
theorem t_Node_spread {X : Nat × (Nat → Int32)} {k : Nat} {g : sg} {l0 : Nat} {l1 : Option Nat} {l2 : Int32} {Z : sg → Prop} (h : nnWP X M_Node_spread k 2 [qr 6 (some l0), qr 7 l1, qi l2, qi (0 : Int32)] [] g (zV Z)) : nnMT X M_Node_spread k [qr 6 (some l0), qr 7 l1, qi l2] g (zV Z) := b_Node_spread_0 h

theorem b_Node_spread_2 {X : Nat × (Nat → Int32)} {k : Nat} {g : sg} {l0 : Nat} {l1 : Option Nat} {l2 : Int32} {l3 : Int32} {Z : sg → Prop} (h : ((4 : Int32) ≤ l3 → Z g) ∧ (¬ (4 : Int32) ≤ l3 → (l3 = l2 → nnWP X M_Node_spread k 2 [qr 6 (some l0), qr 7 l1, qi l2, qi (l3 + 1)] [] g (zV Z)) ∧ (¬ l3 = l2 → gA g 385 l0 = some 4 ∧ vp_in l3 4 ∧ ∃ a1, gR g 385 l0 l3.toNatClampNeg = some a1 ∧ nnMT X M_Face_put 0 [qr 3 (some a1), qr 7 l1] g (zI fun r1 g1 => gExt g g1 → nnWP X M_Node_spread k 2 [qr 6 (some l0), qr 7 l1, qi l2, qi (l3 + 1)] [] g1 (zV Z))))) : nnWP X M_Node_spread k 2 [qr 6 (some l0), qr 7 l1, qi l2, qi l3] [] g (zV Z) := by
  refine wp_iload_n (i := 3) (x := l3) (dz dl_Node_spread_0 2 2 (.iload_n 3) 1 rfl) rfl rfl ?_
  refine wp_iconst (dz dl_Node_spread_0 3 3 (.iconst (4)) 1 rfl) (v := (4 : Int32)) (by decide) ?_
  refine wp_icmp_ge (tgt := 29) (dz dl_Node_spread_0 4 4 (.if_icmp .ge (25)) 3 rfl) (by decide) (fun hc => ?_) (fun hc => ?_)
  · replace h := h.1 hc
    exact wp_rt none (rt_V rfl (dz dl_Node_spread_0 17 29 (.return_) 1 rfl)) ⟨rfl, h⟩
  · replace h := h.2 hc
    refine wp_iload_n (i := 3) (x := l3) (dz dl_Node_spread_0 5 7 (.iload_n 3) 1 rfl) rfl rfl ?_
    refine wp_iload_n (i := 2) (x := l2) (dz dl_Node_spread_0 6 8 (.iload_n 2) 1 rfl) rfl rfl ?_
    refine wp_icmp_eq (tgt := 23) (dz dl_Node_spread_0 7 9 (.if_icmp .eq (14)) 3 rfl) (by decide) (fun hc => ?_) (fun hc => ?_)
    · replace h := h.1 hc
      refine wp_iinc (i := 3) (v := l3 + 1) (dz dl_Node_spread_0 15 23 (.iinc 3 (1)) 3 rfl) rfl (congrArg (fun z => l3 + z) (by decide)) [qr 6 (some l0), qr 7 l1, qi l2, qi (l3 + 1)] (by decide) rfl ?_
      refine wp_goto (tgt := 2) (dz dl_Node_spread_0 16 26 (.goto (-24)) 3 rfl) (by decide) ?_
      exact wp_cut h ⟨Or.inr rfl, Or.inr rfl, Or.inr rfl, Or.inr rfl, trivial⟩
    · replace h := h.2 hc
      refine wp_aload_n (i := 0) (v := qr 6 (some l0)) (dz dl_Node_spread_0 8 12 (.aload_n 0) 1 rfl) rfl rfl trivial ?_
      obtain ⟨n1, h⟩ := h
      refine wp_getA l0 4 (dz dl_Node_spread_0 9 13 (.getfield 11) 3 rfl) lk_Node_11 (q := 1) kd_385 rfl rfl n1 ?_
      refine wp_iload_n (i := 3) (x := l3) (dz dl_Node_spread_0 10 16 (.iload_n 3) 1 rfl) rfl rfl ?_
      obtain ⟨i1, h⟩ := h
      refine wp_aald 4 (dz dl_Node_spread_0 11 17 (.aaload) 1 rfl) kd_385 n1 i1 ?_
      refine wp_aload_n (i := 1) (v := qr 7 l1) (dz dl_Node_spread_0 12 18 (.aload_n 1) 1 rfl) rfl rfl trivial ?_
      obtain ⟨a1, e1, h⟩ := h
      refine wp_callV a1 0 [qr 7 l1] [] (dz dl_Node_spread_0 13 19 (.invokevirtual 52) 3 rfl) ok_Face_put lm_Node_52 (by decide) ws_Face_put wv_Face_put ⟨Nat.le_of_ble_eq_true rfl, Nat.le_of_ble_eq_true rfl⟩ pn_Face_put (Nat.le_of_ble_eq_true rfl) (Nat.le_of_ble_eq_true rfl) e1 (Or.inl rfl) (Nat.zero_le _) (mt_mono h ?_)
      rintro _ g1 ⟨r1, rfl, h⟩ y1
      replace h := h y1.1
      show nnWP _ _ _ _ _ [qi r1] _ _
      refine wp_pop (dz dl_Node_spread_0 14 22 (.pop) 1 rfl) ?_
      refine wp_iinc (i := 3) (v := l3 + 1) (dz dl_Node_spread_0 15 23 (.iinc 3 (1)) 3 rfl) rfl (congrArg (fun z => l3 + z) (by decide)) [qr 6 (some l0), qr 7 l1, qi l2, qi (l3 + 1)] (by decide) rfl ?_
      refine wp_goto (tgt := 2) (dz dl_Node_spread_0 16 26 (.goto (-24)) 3 rfl) (by decide) ?_
      exact wp_cut h ⟨Or.inr rfl, Or.inr rfl, Or.inr rfl, Or.inr rfl, trivial⟩

theorem b_Node_hear_0 {X : Nat × (Nat → Int32)} {k : Nat} {g : sg} {l0 : Nat} {l1 : Int32} {l2 : Option Nat} {Z : sg → Prop} (h : ∃ a1, l2 = some a1 ∧ (¬ (gI g 455 a1 0) = (gI g 384 l0 0) → ∃ a2, gR g 386 l0 0 = some a2 ∧ nnMT X M_Routes_find 0 [qr 11 (some a2), qi (gI g 455 a1 0), qi (gI g 449 a1 0)] g (zR 10 fun r1 g1 => gExt g g1 → (r1 = none → 2 ≤ k ∧ ∃ a4, gR g1 386 l0 0 = some a4 ∧ nnMT X M_Routes_make 2 [qr 11 (some a4), qi (gI g1 455 a1 0), qi (gI g1 449 a1 0)] g1 (zR 10 fun r2 g2 => gExt g1 g2 → nnWP X M_Node_hear (k - 2) 48 [qr 6 (some l0), qi l1, qr 7 l2, qr 10 r2, none, none] [] g2 (zV Z))) ∧ (∀ a3, r1 = some a3 → nnWP X M_Node_hear k 48 [qr 6 (some l0), qi l1, qr 7 l2, qr 10 r1, none, none] [] g1 (zV Z)))) ∧ ((gI g 455 a1 0) = (gI g 384 l0 0) → Z g)) : nnWP X M_Node_hear k 0 [qr 6 (some l0), qi l1, qr 7 l2, none, none, none] [] g (zV Z) := by
  refine wp_aload_n (i := 2) (v := qr 7 l2) (dz dl_Node_hear_0 0 0 (.aload_n 2) 1 rfl) rfl rfl trivial ?_
  obtain ⟨a1, e1, h⟩ := h
  refine wp_getI a1 (dz dl_Node_hear_0 1 1 (.getfield 56) 3 rfl) lk_Node_56 kd_455 rfl e1 ?_
  refine wp_aload_n (i := 0) (v := qr 6 (some l0)) (dz dl_Node_hear_0 2 4 (.aload_n 0) 1 rfl) rfl rfl trivial ?_
  refine wp_getI l0 (dz dl_Node_hear_0 3 5 (.getfield 31) 3 rfl) lk_Node_31 kd_384 rfl rfl ?_
  refine wp_icmp_ne (tgt := 12) (dz dl_Node_hear_0 4 8 (.if_icmp .ne (4)) 3 rfl) (by decide) (fun hc => ?_) (fun hc => ?_)
  · replace h := h.1 hc
    refine wp_aload_n (i := 0) (v := qr 6 (some l0)) (dz dl_Node_hear_0 6 12 (.aload_n 0) 1 rfl) rfl rfl trivial ?_
    refine wp_getR l0 (dz dl_Node_hear_0 7 13 (.getfield 20) 3 rfl) lk_Node_20 kd_386 rfl rfl ?_
    refine wp_aload_n (i := 2) (v := qr 7 l2) (dz dl_Node_hear_0 8 16 (.aload_n 2) 1 rfl) rfl rfl trivial ?_
    refine wp_getI a1 (dz dl_Node_hear_0 9 17 (.getfield 56) 3 rfl) lk_Node_56 kd_455 rfl e1 ?_
    refine wp_aload_n (i := 2) (v := qr 7 l2) (dz dl_Node_hear_0 10 20 (.aload_n 2) 1 rfl) rfl rfl trivial ?_
    refine wp_getI a1 (dz dl_Node_hear_0 11 21 (.getfield 61) 3 rfl) lk_Node_61 kd_449 rfl e1 ?_
    obtain ⟨a2, e2, h⟩ := h
    refine wp_callV a2 0 [qi (gI g 455 a1 0), qi (gI g 449 a1 0)] [] (dz dl_Node_hear_0 12 24 (.invokevirtual 64) 3 rfl) ok_Routes_find lm_Node_64 (by decide) ws_Routes_find wv_Routes_find ⟨Nat.le_of_ble_eq_true rfl, Nat.le_of_ble_eq_true rfl⟩ pn_Routes_find (Nat.le_of_ble_eq_true rfl) (Nat.le_of_ble_eq_true rfl) e2 (Or.inl rfl) (Nat.zero_le _) (mt_mono h ?_)
    rintro _ g1 ⟨r1, rfl, h⟩ y1
    replace h := h y1.1
    show nnWP _ _ _ _ _ [qr 10 r1] _ _
    refine wp_astore_n (i := 3) (dz dl_Node_hear_0 13 27 (.astore_n 3) 1 rfl) rfl [qr 6 (some l0), qi l1, qr 7 l2, qr 10 r1, none, none] (by decide) trivial rfl ?_
    refine wp_aload_n (i := 3) (v := qr 10 r1) (dz dl_Node_hear_0 14 28 (.aload_n 3) 1 rfl) rfl rfl trivial ?_
    refine wp_ifnonnull (tgt := 48) (dz dl_Node_hear_0 15 29 (.ifnonnull (19)) 3 rfl) (by decide) (fun a3 e3 => ?_) (fun hc => ?_)
    · replace h := h.2 a3 e3
      exact wp_cut h ⟨Or.inr rfl, Or.inr rfl, Or.inr rfl, Or.inr rfl, Or.inl rfl, Or.inl rfl, trivial⟩
    · replace h := h.1 hc
      refine wp_aload_n (i := 0) (v := qr 6 (some l0)) (dz dl_Node_hear_0 16 32 (.aload_n 0) 1 rfl) rfl rfl trivial ?_
      refine wp_getR l0 (dz dl_Node_hear_0 17 33 (.getfield 20) 3 rfl) lk_Node_20 kd_386 rfl rfl ?_
      refine wp_aload_n (i := 2) (v := qr 7 l2) (dz dl_Node_hear_0 18 36 (.aload_n 2) 1 rfl) rfl rfl trivial ?_
      refine wp_getI a1 (dz dl_Node_hear_0 19 37 (.getfield 56) 3 rfl) lk_Node_56 kd_455 rfl e1 ?_
      refine wp_aload_n (i := 2) (v := qr 7 l2) (dz dl_Node_hear_0 20 40 (.aload_n 2) 1 rfl) rfl rfl trivial ?_
      refine wp_getI a1 (dz dl_Node_hear_0 21 41 (.getfield 61) 3 rfl) lk_Node_61 kd_449 rfl e1 ?_
      obtain ⟨u1, h⟩ := h
      obtain ⟨a4, e4, h⟩ := h
      refine wp_callV a4 2 [qi (gI g1 455 a1 0), qi (gI g1 449 a1 0)] [] (dz dl_Node_hear_0 22 44 (.invokevirtual 68) 3 rfl) ok_Routes_make lm_Node_68 (by decide) ws_Routes_make wv_Routes_make ⟨Nat.le_of_ble_eq_true rfl, Nat.le_of_ble_eq_true rfl⟩ pn_Routes_make (Nat.le_of_ble_eq_true rfl) (Nat.le_of_ble_eq_true rfl) e4 (Or.inl rfl) u1 (mt_mono h ?_)
      rintro _ g2 ⟨r2, rfl, h⟩ y2
      replace h := h y2.1
      show nnWP _ _ _ _ _ [qr 10 r2] _ _
      refine wp_astore_n (i := 3) (dz dl_Node_hear_0 23 47 (.astore_n 3) 1 rfl) rfl [qr 6 (some l0), qi l1, qr 7 l2, qr 10 r2, none, none] (by decide) trivial rfl ?_
      exact wp_cut h ⟨Or.inr rfl, Or.inr rfl, Or.inr rfl, Or.inr rfl, Or.inl rfl, Or.inl rfl, trivial⟩
  · replace h := h.2 hc
    exact wp_rt none (rt_V rfl (dz dl_Node_hear_0 5 11 (.return_) 1 rfl)) ⟨rfl, h⟩
theorem t_Node_hear {X : Nat × (Nat → Int32)} {k : Nat} {g : sg} {l0 : Nat} {l1 : Int32} {l2 : Option Nat} {Z : sg → Prop} (h : ∃ a1, l2 = some a1 ∧ (¬ (gI g 455 a1 0) = (gI g 384 l0 0) → ∃ a2, gR g 386 l0 0 = some a2 ∧ nnMT X M_Routes_find 0 [qr 11 (some a2), qi (gI g 455 a1 0), qi (gI g 449 a1 0)] g (zR 10 fun r1 g1 => gExt g g1 → (r1 = none → 2 ≤ k ∧ ∃ a4, gR g1 386 l0 0 = some a4 ∧ nnMT X M_Routes_make 2 [qr 11 (some a4), qi (gI g1 455 a1 0), qi (gI g1 449 a1 0)] g1 (zR 10 fun r2 g2 => gExt g1 g2 → nnWP X M_Node_hear (k - 2) 48 [qr 6 (some l0), qi l1, qr 7 l2, qr 10 r2, none, none] [] g2 (zV Z))) ∧ (∀ a3, r1 = some a3 → nnWP X M_Node_hear k 48 [qr 6 (some l0), qi l1, qr 7 l2, qr 10 r1, none, none] [] g1 (zV Z)))) ∧ ((gI g 455 a1 0) = (gI g 384 l0 0) → Z g)) : nnMT X M_Node_hear k [qr 6 (some l0), qi l1, qr 7 l2] g (zV Z) := b_Node_hear_0 h

theorem b_Node_hear_48 {X : Nat × (Nat → Int32)} {k : Nat} {g : sg} {l0 : Nat} {l1 : Int32} {l2 : Option Nat} {l3 : Option Nat} {Z : sg → Prop} (h : (l3 = none → Z g) ∧ (∀ a1, l3 = some a1 → ∃ a2, l2 = some a2 ∧ ((gI g 642 a1 0) ≤ (gI g 456 a2 0) → ((gI g 456 a2 0) ≤ (gI g 642 a1 0) → nnMT X M_Route_improve 0 [qr 10 (some a1), qi l1, qi (gI g 457 a2 0)] g (zI fun r1 g1 => gExt g g1 → (r1 = 0 → Z g1) ∧ (¬ r1 = 0 → (¬ (gI g1 457 a2 0) = (99 : Int32) → 1 ≤ k ∧ nnMT X M_Packet_notice 1 [qi (gI g1 455 a2 0), qi (gI g1 449 a2 0), qi (gI g1 456 a2 0), qi ((gI g1 457 a2 0) + (1 : Int32))] g1 (zR 7 fun r2 g2 => gExt g1 g2 → nnMT X M_Node_spread 0 [qr 6 (some l0), qr 7 r2, qi l1] g2 (zV fun g3 => gExt g2 g3 → Z g3))) ∧ ((gI g1 457 a2 0) = (99 : Int32) → 1 ≤ k ∧ nnMT X M_Packet_notice 1 [qi (gI g1 455 a2 0), qi (gI g1 449 a2 0), qi (gI g1 456 a2 0), qi (99 : Int32)] g1 (zR 7 fun r3 g4 => gExt g1 g4 → nnMT X M_Node_spread 0 [qr 6 (some l0), qr 7 r3, qi l1] g4 (zV fun g5 => gExt g4 g5 → Z g5)))))) ∧ (¬ (gI g 456 a2 0) ≤ (gI g 642 a1 0) → nnMT X M_Route_begin 0 [qr 10 (some a1), qi (gI g 456 a2 0), qi l1, qi (gI g 457 a2 0)] g (zV fun g6 => gExt g g6 → ((1 : Int32) = 0 → Z g6) ∧ (¬ (1 : Int32) = 0 → (¬ (gI g6 457 a2 0) = (99 : Int32) → 1 ≤ k ∧ nnMT X M_Packet_notice 1 [qi (gI g6 455 a2 0), qi (gI g6 449 a2 0), qi (gI g6 456 a2 0), qi ((gI g6 457 a2 0) + (1 : Int32))] g6 (zR 7 fun r4 g7 => gExt g6 g7 → nnMT X M_Node_spread 0 [qr 6 (some l0), qr 7 r4, qi l1] g7 (zV fun g8 => gExt g7 g8 → Z g8))) ∧ ((gI g6 457 a2 0) = (99 : Int32) → 1 ≤ k ∧ nnMT X M_Packet_notice 1 [qi (gI g6 455 a2 0), qi (gI g6 449 a2 0), qi (gI g6 456 a2 0), qi (99 : Int32)] g6 (zR 7 fun r5 g9 => gExt g6 g9 → nnMT X M_Node_spread 0 [qr 6 (some l0), qr 7 r5, qi l1] g9 (zV fun g10 => gExt g9 g10 → Z g10))))))) ∧ (¬ (gI g 642 a1 0) ≤ (gI g 456 a2 0) → Z g))) : nnWP X M_Node_hear k 48 [qr 6 (some l0), qi l1, qr 7 l2, qr 10 l3, none, none] [] g (zV Z) := by
  refine wp_aload_n (i := 3) (v := qr 10 l3) (dz dl_Node_hear_0 24 48 (.aload_n 3) 1 rfl) rfl rfl trivial ?_
  refine wp_ifnull (tgt := 63) (dz dl_Node_hear_0 25 49 (.ifnull (14)) 3 rfl) (by decide) (fun hc => ?_) (fun a1 e1 => ?_)
  · replace h := h.1 hc
    exact wp_rt none (rt_V rfl (dz dl_Node_hear_0 31 63 (.return_) 1 rfl)) ⟨rfl, h⟩
  · replace h := h.2 a1 e1
    refine wp_aload_n (i := 3) (v := qr 10 l3) (dz dl_Node_hear_0 26 52 (.aload_n 3) 1 rfl) rfl rfl trivial ?_
    refine wp_getI a1 (dz dl_Node_hear_0 27 53 (.getfield 71) 3 rfl) lk_Node_71 kd_642 rfl e1 ?_
    refine wp_aload_n (i := 2) (v := qr 7 l2) (dz dl_Node_hear_0 28 56 (.aload_n 2) 1 rfl) rfl rfl trivial ?_
    obtain ⟨a2, e2, h⟩ := h
    refine wp_getI a2 (dz dl_Node_hear_0 29 57 (.getfield 76) 3 rfl) lk_Node_76 kd_456 rfl e2 ?_
    refine wp_icmp_le (tgt := 64) (dz dl_Node_hear_0 30 60 (.if_icmp .le (4)) 3 rfl) (by decide) (fun hc => ?_) (fun hc => ?_)
    · replace h := h.1 hc
      refine wp_iconst (dz dl_Node_hear_0 32 64 (.iconst (1)) 1 rfl) (v := (1 : Int32)) (by decide) ?_
      refine wp_istore (i := 4) (dz dl_Node_hear_0 33 65 (.istore 4) 2 rfl) [qr 6 (some l0), qi l1, qr 7 l2, qr 10 l3, qi (1 : Int32), none] (by decide) rfl ?_
      refine wp_aload_n (i := 3) (v := qr 10 l3) (dz dl_Node_hear_0 34 67 (.aload_n 3) 1 rfl) rfl rfl trivial ?_
      refine wp_getI a1 (dz dl_Node_hear_0 35 68 (.getfield 71) 3 rfl) lk_Node_71 kd_642 rfl e1 ?_
      refine wp_aload_n (i := 2) (v := qr 7 l2) (dz dl_Node_hear_0 36 71 (.aload_n 2) 1 rfl) rfl rfl trivial ?_
      refine wp_getI a2 (dz dl_Node_hear_0 37 72 (.getfield 76) 3 rfl) lk_Node_76 kd_456 rfl e2 ?_
      refine wp_icmp_ge (tgt := 94) (dz dl_Node_hear_0 38 75 (.if_icmp .ge (19)) 3 rfl) (by decide) (fun hc => ?_) (fun hc => ?_)
      · replace h := h.1 hc
        refine wp_aload_n (i := 3) (v := qr 10 l3) (dz dl_Node_hear_1 7 94 (.aload_n 3) 1 rfl) rfl rfl trivial ?_
        refine wp_iload_n (i := 1) (x := l1) (dz dl_Node_hear_1 8 95 (.iload_n 1) 1 rfl) rfl rfl ?_
        refine wp_aload_n (i := 2) (v := qr 7 l2) (dz dl_Node_hear_1 9 96 (.aload_n 2) 1 rfl) rfl rfl trivial ?_
        refine wp_getI a2 (dz dl_Node_hear_1 10 97 (.getfield 77) 3 rfl) lk_Node_77 kd_457 rfl e2 ?_
        refine wp_callV a1 0 [qi l1, qi (gI g 457 a2 0)] [] (dz dl_Node_hear_1 11 100 (.invokevirtual 84) 3 rfl) ok_Route_improve lm_Node_84 (by decide) ws_Route_improve wv_Route_improve ⟨Nat.le_of_ble_eq_true rfl, Nat.le_of_ble_eq_true rfl⟩ pn_Route_improve (Nat.le_of_ble_eq_true rfl) (Nat.le_of_ble_eq_true rfl) e1 (Or.inl rfl) (Nat.zero_le _) (mt_mono h ?_)
        rintro _ g1 ⟨r1, rfl, h⟩ y1
        replace h := h y1.1
        show nnWP _ _ _ _ _ [qi r1] _ _
        refine wp_istore (i := 4) (dz dl_Node_hear_1 12 103 (.istore 4) 2 rfl) [qr 6 (some l0), qi l1, qr 7 l2, qr 10 l3, qi r1, none] (by decide) rfl ?_
        refine wp_iload (i := 4) (x := r1) (dz dl_Node_hear_1 13 105 (.iload 4) 2 rfl) rfl ?_
        refine wp_if_eq (tgt := 154) (dz dl_Node_hear_1 14 107 (.ifCond .eq (47)) 3 rfl) (by decide) (fun hc => ?_) (fun hc => ?_)
        · replace h := h.1 hc
          exact wp_rt none (rt_V rfl (dz dl_Node_hear_1 37 154 (.return_) 1 rfl)) ⟨rfl, h⟩
        · replace h := h.2 hc
          refine wp_aload_n (i := 2) (v := qr 7 l2) (dz dl_Node_hear_1 15 110 (.aload_n 2) 1 rfl) rfl rfl trivial ?_
          refine wp_getI a2 (dz dl_Node_hear_1 16 111 (.getfield 77) 3 rfl) lk_Node_77 kd_457 rfl e2 ?_
          refine wp_bipush (dz dl_Node_hear_1 17 114 (.bipush (99)) 2 rfl) (v := (99 : Int32)) (by decide) ?_
          refine wp_icmp_ne (tgt := 124) (dz dl_Node_hear_1 18 116 (.if_icmp .ne (8)) 3 rfl) (by decide) (fun hc => ?_) (fun hc => ?_)
          · replace h := h.1 hc
            refine wp_aload_n (i := 2) (v := qr 7 l2) (dz dl_Node_hear_1 21 124 (.aload_n 2) 1 rfl) rfl rfl trivial ?_
            refine wp_getI a2 (dz dl_Node_hear_1 22 125 (.getfield 77) 3 rfl) lk_Node_77 kd_457 rfl e2 ?_
            refine wp_iconst (dz dl_Node_hear_1 23 128 (.iconst (1)) 1 rfl) (v := (1 : Int32)) (by decide) ?_
            refine wp_iadd (dz dl_Node_hear_1 24 129 (.iadd) 1 rfl) ?_
            refine wp_istore (i := 5) (dz dl_Node_hear_1 25 130 (.istore 5) 2 rfl) [qr 6 (some l0), qi l1, qr 7 l2, qr 10 l3, qi r1, qi ((gI g1 457 a2 0) + (1 : Int32))] (by decide) rfl ?_
            refine wp_aload_n (i := 0) (v := qr 6 (some l0)) (dz dl_Node_hear_1 26 132 (.aload_n 0) 1 rfl) rfl rfl trivial ?_
            refine wp_aload_n (i := 2) (v := qr 7 l2) (dz dl_Node_hear_1 27 133 (.aload_n 2) 1 rfl) rfl rfl trivial ?_
            refine wp_getI a2 (dz dl_Node_hear_1 28 134 (.getfield 56) 3 rfl) lk_Node_56 kd_455 rfl e2 ?_
            refine wp_aload_n (i := 2) (v := qr 7 l2) (dz dl_Node_hear_1 29 137 (.aload_n 2) 1 rfl) rfl rfl trivial ?_
            refine wp_getI a2 (dz dl_Node_hear_1 30 138 (.getfield 61) 3 rfl) lk_Node_61 kd_449 rfl e2 ?_
            refine wp_aload_n (i := 2) (v := qr 7 l2) (dz dl_Node_hear_1 31 141 (.aload_n 2) 1 rfl) rfl rfl trivial ?_
            refine wp_getI a2 (dz dl_Node_hear_1 32 142 (.getfield 76) 3 rfl) lk_Node_76 kd_456 rfl e2 ?_
            refine wp_iload (i := 5) (x := (gI g1 457 a2 0) + (1 : Int32)) (dz dl_Node_hear_1 33 145 (.iload 5) 2 rfl) rfl ?_
            obtain ⟨u1, h⟩ := h
            refine wp_callS 1 [qi (gI g1 455 a2 0), qi (gI g1 449 a2 0), qi (gI g1 456 a2 0), qi ((gI g1 457 a2 0) + (1 : Int32))] [qr 6 (some l0)] (dz dl_Node_hear_1 34 147 (.invokestatic 88) 3 rfl) ok_Packet_notice lm_Node_88 ws_Packet_notice ⟨Nat.le_of_ble_eq_true rfl, Nat.le_of_ble_eq_true rfl⟩ pn_Packet_notice (Nat.le_of_ble_eq_true rfl) (Nat.le_of_ble_eq_true rfl) (Or.inl rfl) u1 (mt_mono h ?_)
            rintro _ g2 ⟨r2, rfl, h⟩ y2
            replace h := h y2.1
            show nnWP _ _ _ _ _ [qr 7 r2, qr 6 (some l0)] _ _
            refine wp_iload_n (i := 1) (x := l1) (dz dl_Node_hear_1 35 150 (.iload_n 1) 1 rfl) rfl rfl ?_
            refine wp_callV l0 0 [qr 7 r2, qi l1] [] (dz dl_Node_hear_1 36 151 (.invokevirtual 92) 3 rfl) ok_Node_spread lm_Node_92 (by decide) ws_Node_spread wv_Node_spread ⟨Nat.le_of_ble_eq_true rfl, Nat.le_of_ble_eq_true rfl⟩ pn_Node_spread (Nat.le_of_ble_eq_true rfl) (Nat.le_of_ble_eq_true rfl) rfl (Or.inl rfl) (Nat.zero_le _) (mt_mono h ?_)
            rintro _ g3 ⟨rfl, h⟩ y3
            replace h := h y3.1
            show nnWP _ _ _ _ _ [] _ _
            exact wp_rt none (rt_V rfl (dz dl_Node_hear_1 37 154 (.return_) 1 rfl)) ⟨rfl, h⟩
          · replace h := h.2 hc
            refine wp_bipush (dz dl_Node_hear_1 19 119 (.bipush (99)) 2 rfl) (v := (99 : Int32)) (by decide) ?_
            refine wp_goto (tgt := 130) (dz dl_Node_hear_1 20 121 (.goto (9)) 3 rfl) (by decide) ?_
            refine wp_istore (i := 5) (dz dl_Node_hear_1 25 130 (.istore 5) 2 rfl) [qr 6 (some l0), qi l1, qr 7 l2, qr 10 l3, qi r1, qi (99 : Int32)] (by decide) rfl ?_
            refine wp_aload_n (i := 0) (v := qr 6 (some l0)) (dz dl_Node_hear_1 26 132 (.aload_n 0) 1 rfl) rfl rfl trivial ?_
            refine wp_aload_n (i := 2) (v := qr 7 l2) (dz dl_Node_hear_1 27 133 (.aload_n 2) 1 rfl) rfl rfl trivial ?_
            refine wp_getI a2 (dz dl_Node_hear_1 28 134 (.getfield 56) 3 rfl) lk_Node_56 kd_455 rfl e2 ?_
            refine wp_aload_n (i := 2) (v := qr 7 l2) (dz dl_Node_hear_1 29 137 (.aload_n 2) 1 rfl) rfl rfl trivial ?_
            refine wp_getI a2 (dz dl_Node_hear_1 30 138 (.getfield 61) 3 rfl) lk_Node_61 kd_449 rfl e2 ?_
            refine wp_aload_n (i := 2) (v := qr 7 l2) (dz dl_Node_hear_1 31 141 (.aload_n 2) 1 rfl) rfl rfl trivial ?_
            refine wp_getI a2 (dz dl_Node_hear_1 32 142 (.getfield 76) 3 rfl) lk_Node_76 kd_456 rfl e2 ?_
            refine wp_iload (i := 5) (x := (99 : Int32)) (dz dl_Node_hear_1 33 145 (.iload 5) 2 rfl) rfl ?_
            obtain ⟨u2, h⟩ := h
            refine wp_callS 1 [qi (gI g1 455 a2 0), qi (gI g1 449 a2 0), qi (gI g1 456 a2 0), qi (99 : Int32)] [qr 6 (some l0)] (dz dl_Node_hear_1 34 147 (.invokestatic 88) 3 rfl) ok_Packet_notice lm_Node_88 ws_Packet_notice ⟨Nat.le_of_ble_eq_true rfl, Nat.le_of_ble_eq_true rfl⟩ pn_Packet_notice (Nat.le_of_ble_eq_true rfl) (Nat.le_of_ble_eq_true rfl) (Or.inl rfl) u2 (mt_mono h ?_)
            rintro _ g4 ⟨r3, rfl, h⟩ y4
            replace h := h y4.1
            show nnWP _ _ _ _ _ [qr 7 r3, qr 6 (some l0)] _ _
            refine wp_iload_n (i := 1) (x := l1) (dz dl_Node_hear_1 35 150 (.iload_n 1) 1 rfl) rfl rfl ?_
            refine wp_callV l0 0 [qr 7 r3, qi l1] [] (dz dl_Node_hear_1 36 151 (.invokevirtual 92) 3 rfl) ok_Node_spread lm_Node_92 (by decide) ws_Node_spread wv_Node_spread ⟨Nat.le_of_ble_eq_true rfl, Nat.le_of_ble_eq_true rfl⟩ pn_Node_spread (Nat.le_of_ble_eq_true rfl) (Nat.le_of_ble_eq_true rfl) rfl (Or.inl rfl) (Nat.zero_le _) (mt_mono h ?_)
            rintro _ g5 ⟨rfl, h⟩ y5
            replace h := h y5.1
            show nnWP _ _ _ _ _ [] _ _
            exact wp_rt none (rt_V rfl (dz dl_Node_hear_1 37 154 (.return_) 1 rfl)) ⟨rfl, h⟩
      · replace h := h.2 hc
        refine wp_aload_n (i := 3) (v := qr 10 l3) (dz dl_Node_hear_0 39 78 (.aload_n 3) 1 rfl) rfl rfl trivial ?_
        refine wp_aload_n (i := 2) (v := qr 7 l2) (dz dl_Node_hear_1 0 79 (.aload_n 2) 1 rfl) rfl rfl trivial ?_
        refine wp_getI a2 (dz dl_Node_hear_1 1 80 (.getfield 76) 3 rfl) lk_Node_76 kd_456 rfl e2 ?_
        refine wp_iload_n (i := 1) (x := l1) (dz dl_Node_hear_1 2 83 (.iload_n 1) 1 rfl) rfl rfl ?_
        refine wp_aload_n (i := 2) (v := qr 7 l2) (dz dl_Node_hear_1 3 84 (.aload_n 2) 1 rfl) rfl rfl trivial ?_
        refine wp_getI a2 (dz dl_Node_hear_1 4 85 (.getfield 77) 3 rfl) lk_Node_77 kd_457 rfl e2 ?_
        refine wp_callV a1 0 [qi (gI g 456 a2 0), qi l1, qi (gI g 457 a2 0)] [] (dz dl_Node_hear_1 5 88 (.invokevirtual 80) 3 rfl) ok_Route_begin lm_Node_80 (by decide) ws_Route_begin wv_Route_begin ⟨Nat.le_of_ble_eq_true rfl, Nat.le_of_ble_eq_true rfl⟩ pn_Route_begin (Nat.le_of_ble_eq_true rfl) (Nat.le_of_ble_eq_true rfl) e1 (Or.inl rfl) (Nat.zero_le _) (mt_mono h ?_)
        rintro _ g6 ⟨rfl, h⟩ y6
        replace h := h y6.1
        show nnWP _ _ _ _ _ [] _ _
        refine wp_goto (tgt := 105) (dz dl_Node_hear_1 6 91 (.goto (14)) 3 rfl) (by decide) ?_
        refine wp_iload (i := 4) (x := (1 : Int32)) (dz dl_Node_hear_1 13 105 (.iload 4) 2 rfl) rfl ?_
        refine wp_if_eq (tgt := 154) (dz dl_Node_hear_1 14 107 (.ifCond .eq (47)) 3 rfl) (by decide) (fun hc => ?_) (fun hc => ?_)
        · replace h := h.1 hc
          exact wp_rt none (rt_V rfl (dz dl_Node_hear_1 37 154 (.return_) 1 rfl)) ⟨rfl, h⟩
        · replace h := h.2 hc
          refine wp_aload_n (i := 2) (v := qr 7 l2) (dz dl_Node_hear_1 15 110 (.aload_n 2) 1 rfl) rfl rfl trivial ?_
          refine wp_getI a2 (dz dl_Node_hear_1 16 111 (.getfield 77) 3 rfl) lk_Node_77 kd_457 rfl e2 ?_
          refine wp_bipush (dz dl_Node_hear_1 17 114 (.bipush (99)) 2 rfl) (v := (99 : Int32)) (by decide) ?_
          refine wp_icmp_ne (tgt := 124) (dz dl_Node_hear_1 18 116 (.if_icmp .ne (8)) 3 rfl) (by decide) (fun hc => ?_) (fun hc => ?_)
          · replace h := h.1 hc
            refine wp_aload_n (i := 2) (v := qr 7 l2) (dz dl_Node_hear_1 21 124 (.aload_n 2) 1 rfl) rfl rfl trivial ?_
            refine wp_getI a2 (dz dl_Node_hear_1 22 125 (.getfield 77) 3 rfl) lk_Node_77 kd_457 rfl e2 ?_
            refine wp_iconst (dz dl_Node_hear_1 23 128 (.iconst (1)) 1 rfl) (v := (1 : Int32)) (by decide) ?_
            refine wp_iadd (dz dl_Node_hear_1 24 129 (.iadd) 1 rfl) ?_
            refine wp_istore (i := 5) (dz dl_Node_hear_1 25 130 (.istore 5) 2 rfl) [qr 6 (some l0), qi l1, qr 7 l2, qr 10 l3, qi (1 : Int32), qi ((gI g6 457 a2 0) + (1 : Int32))] (by decide) rfl ?_
            refine wp_aload_n (i := 0) (v := qr 6 (some l0)) (dz dl_Node_hear_1 26 132 (.aload_n 0) 1 rfl) rfl rfl trivial ?_
            refine wp_aload_n (i := 2) (v := qr 7 l2) (dz dl_Node_hear_1 27 133 (.aload_n 2) 1 rfl) rfl rfl trivial ?_
            refine wp_getI a2 (dz dl_Node_hear_1 28 134 (.getfield 56) 3 rfl) lk_Node_56 kd_455 rfl e2 ?_
            refine wp_aload_n (i := 2) (v := qr 7 l2) (dz dl_Node_hear_1 29 137 (.aload_n 2) 1 rfl) rfl rfl trivial ?_
            refine wp_getI a2 (dz dl_Node_hear_1 30 138 (.getfield 61) 3 rfl) lk_Node_61 kd_449 rfl e2 ?_
            refine wp_aload_n (i := 2) (v := qr 7 l2) (dz dl_Node_hear_1 31 141 (.aload_n 2) 1 rfl) rfl rfl trivial ?_
            refine wp_getI a2 (dz dl_Node_hear_1 32 142 (.getfield 76) 3 rfl) lk_Node_76 kd_456 rfl e2 ?_
            refine wp_iload (i := 5) (x := (gI g6 457 a2 0) + (1 : Int32)) (dz dl_Node_hear_1 33 145 (.iload 5) 2 rfl) rfl ?_
            obtain ⟨u3, h⟩ := h
            refine wp_callS 1 [qi (gI g6 455 a2 0), qi (gI g6 449 a2 0), qi (gI g6 456 a2 0), qi ((gI g6 457 a2 0) + (1 : Int32))] [qr 6 (some l0)] (dz dl_Node_hear_1 34 147 (.invokestatic 88) 3 rfl) ok_Packet_notice lm_Node_88 ws_Packet_notice ⟨Nat.le_of_ble_eq_true rfl, Nat.le_of_ble_eq_true rfl⟩ pn_Packet_notice (Nat.le_of_ble_eq_true rfl) (Nat.le_of_ble_eq_true rfl) (Or.inl rfl) u3 (mt_mono h ?_)
            rintro _ g7 ⟨r4, rfl, h⟩ y7
            replace h := h y7.1
            show nnWP _ _ _ _ _ [qr 7 r4, qr 6 (some l0)] _ _
            refine wp_iload_n (i := 1) (x := l1) (dz dl_Node_hear_1 35 150 (.iload_n 1) 1 rfl) rfl rfl ?_
            refine wp_callV l0 0 [qr 7 r4, qi l1] [] (dz dl_Node_hear_1 36 151 (.invokevirtual 92) 3 rfl) ok_Node_spread lm_Node_92 (by decide) ws_Node_spread wv_Node_spread ⟨Nat.le_of_ble_eq_true rfl, Nat.le_of_ble_eq_true rfl⟩ pn_Node_spread (Nat.le_of_ble_eq_true rfl) (Nat.le_of_ble_eq_true rfl) rfl (Or.inl rfl) (Nat.zero_le _) (mt_mono h ?_)
            rintro _ g8 ⟨rfl, h⟩ y8
            replace h := h y8.1
            show nnWP _ _ _ _ _ [] _ _
            exact wp_rt none (rt_V rfl (dz dl_Node_hear_1 37 154 (.return_) 1 rfl)) ⟨rfl, h⟩
          · replace h := h.2 hc
            refine wp_bipush (dz dl_Node_hear_1 19 119 (.bipush (99)) 2 rfl) (v := (99 : Int32)) (by decide) ?_
            refine wp_goto (tgt := 130) (dz dl_Node_hear_1 20 121 (.goto (9)) 3 rfl) (by decide) ?_
            refine wp_istore (i := 5) (dz dl_Node_hear_1 25 130 (.istore 5) 2 rfl) [qr 6 (some l0), qi l1, qr 7 l2, qr 10 l3, qi (1 : Int32), qi (99 : Int32)] (by decide) rfl ?_
            refine wp_aload_n (i := 0) (v := qr 6 (some l0)) (dz dl_Node_hear_1 26 132 (.aload_n 0) 1 rfl) rfl rfl trivial ?_
            refine wp_aload_n (i := 2) (v := qr 7 l2) (dz dl_Node_hear_1 27 133 (.aload_n 2) 1 rfl) rfl rfl trivial ?_
            refine wp_getI a2 (dz dl_Node_hear_1 28 134 (.getfield 56) 3 rfl) lk_Node_56 kd_455 rfl e2 ?_
            refine wp_aload_n (i := 2) (v := qr 7 l2) (dz dl_Node_hear_1 29 137 (.aload_n 2) 1 rfl) rfl rfl trivial ?_
            refine wp_getI a2 (dz dl_Node_hear_1 30 138 (.getfield 61) 3 rfl) lk_Node_61 kd_449 rfl e2 ?_
            refine wp_aload_n (i := 2) (v := qr 7 l2) (dz dl_Node_hear_1 31 141 (.aload_n 2) 1 rfl) rfl rfl trivial ?_
            refine wp_getI a2 (dz dl_Node_hear_1 32 142 (.getfield 76) 3 rfl) lk_Node_76 kd_456 rfl e2 ?_
            refine wp_iload (i := 5) (x := (99 : Int32)) (dz dl_Node_hear_1 33 145 (.iload 5) 2 rfl) rfl ?_
            obtain ⟨u4, h⟩ := h
            refine wp_callS 1 [qi (gI g6 455 a2 0), qi (gI g6 449 a2 0), qi (gI g6 456 a2 0), qi (99 : Int32)] [qr 6 (some l0)] (dz dl_Node_hear_1 34 147 (.invokestatic 88) 3 rfl) ok_Packet_notice lm_Node_88 ws_Packet_notice ⟨Nat.le_of_ble_eq_true rfl, Nat.le_of_ble_eq_true rfl⟩ pn_Packet_notice (Nat.le_of_ble_eq_true rfl) (Nat.le_of_ble_eq_true rfl) (Or.inl rfl) u4 (mt_mono h ?_)
            rintro _ g9 ⟨r5, rfl, h⟩ y9
            replace h := h y9.1
            show nnWP _ _ _ _ _ [qr 7 r5, qr 6 (some l0)] _ _
            refine wp_iload_n (i := 1) (x := l1) (dz dl_Node_hear_1 35 150 (.iload_n 1) 1 rfl) rfl rfl ?_
            refine wp_callV l0 0 [qr 7 r5, qi l1] [] (dz dl_Node_hear_1 36 151 (.invokevirtual 92) 3 rfl) ok_Node_spread lm_Node_92 (by decide) ws_Node_spread wv_Node_spread ⟨Nat.le_of_ble_eq_true rfl, Nat.le_of_ble_eq_true rfl⟩ pn_Node_spread (Nat.le_of_ble_eq_true rfl) (Nat.le_of_ble_eq_true rfl) rfl (Or.inl rfl) (Nat.zero_le _) (mt_mono h ?_)
            rintro _ g10 ⟨rfl, h⟩ y10
            replace h := h y10.1
            show nnWP _ _ _ _ _ [] _ _
            exact wp_rt none (rt_V rfl (dz dl_Node_hear_1 37 154 (.return_) 1 rfl)) ⟨rfl, h⟩
    · replace h := h.2 hc
      exact wp_rt none (rt_V rfl (dz dl_Node_hear_0 31 63 (.return_) 1 rfl)) ⟨rfl, h⟩

theorem b_Node_bestFace_0 {X : Nat × (Nat → Int32)} {k : Nat} {g : sg} {l0 : Nat} {l1 : Option Nat} {l2 : Option Nat} {Z : Int32 → sg → Prop} (h : ∃ a1, l1 = some a1 ∧ ∃ a2, gR g 386 l0 0 = some a2 ∧ nnMT X M_Routes_longestPrefix 0 [qr 11 (some a2), qi (gI g 128 a1 0), qr 5 l2] g (zI fun r1 g1 => gExt g g1 → nnWP X M_Node_bestFace k 22 [qr 6 (some l0), qr 2 l1, none, qi r1, qi (-1 : Int32), qi (-1 : Int32), qi (0 : Int32), none] [] g1 (zI Z))) : nnWP X M_Node_bestFace k 0 [qr 6 (some l0), qr 2 l1, qr 5 l2, none, none, none, none, none] [] g (zI Z) := by
  refine wp_aload_n (i := 0) (v := qr 6 (some l0)) (dz dl_Node_bestFace_0 0 0 (.aload_n 0) 1 rfl) rfl rfl trivial ?_
  refine wp_getR l0 (dz dl_Node_bestFace_0 1 1 (.getfield 20) 3 rfl) lk_Node_20 kd_386 rfl rfl ?_
  refine wp_aload_n (i := 1) (v := qr 2 l1) (dz dl_Node_bestFace_0 2 4 (.aload_n 1) 1 rfl) rfl rfl trivial ?_
  obtain ⟨a1, e1, h⟩ := h
  refine wp_getI a1 (dz dl_Node_bestFace_0 3 5 (.getfield 96) 3 rfl) lk_Node_96 kd_128 rfl e1 ?_
  refine wp_aload_n (i := 2) (v := qr 5 l2) (dz dl_Node_bestFace_0 4 8 (.aload_n 2) 1 rfl) rfl rfl trivial ?_
  obtain ⟨a2, e2, h⟩ := h
  refine wp_callV a2 0 [qi (gI g 128 a1 0), qr 5 l2] [] (dz dl_Node_bestFace_0 5 9 (.invokevirtual 99) 3 rfl) ok_Routes_longestPrefix lm_Node_99 (by decide) ws_Routes_longestPrefix wv_Routes_longestPrefix ⟨Nat.le_of_ble_eq_true rfl, Nat.le_of_ble_eq_true rfl⟩ pn_Routes_longestPrefix (Nat.le_of_ble_eq_true rfl) (Nat.le_of_ble_eq_true rfl) e2 (Or.inl rfl) (Nat.zero_le _) (mt_mono h ?_)
  rintro _ g1 ⟨r1, rfl, h⟩ y1
  replace h := h y1.1
  show nnWP _ _ _ _ _ [qi r1] _ _
  refine wp_istore_n (i := 3) (dz dl_Node_bestFace_0 6 12 (.istore_n 3) 1 rfl) rfl [qr 6 (some l0), qr 2 l1, qr 5 l2, qi r1, none, none, none, none] (by decide) rfl ?_
  refine wp_iconst (dz dl_Node_bestFace_0 7 13 (.iconst (-1)) 1 rfl) (v := (-1 : Int32)) (by decide) ?_
  refine wp_istore (i := 4) (dz dl_Node_bestFace_0 8 14 (.istore 4) 2 rfl) [qr 6 (some l0), qr 2 l1, qr 5 l2, qi r1, qi (-1 : Int32), none, none, none] (by decide) rfl ?_
  refine wp_iconst (dz dl_Node_bestFace_0 9 16 (.iconst (-1)) 1 rfl) (v := (-1 : Int32)) (by decide) ?_
  refine wp_istore (i := 5) (dz dl_Node_bestFace_0 10 17 (.istore 5) 2 rfl) [qr 6 (some l0), qr 2 l1, qr 5 l2, qi r1, qi (-1 : Int32), qi (-1 : Int32), none, none] (by decide) rfl ?_
  refine wp_iconst (dz dl_Node_bestFace_0 11 19 (.iconst (0)) 1 rfl) (v := (0 : Int32)) (by decide) ?_
  refine wp_istore (i := 6) (dz dl_Node_bestFace_0 12 20 (.istore 6) 2 rfl) [qr 6 (some l0), qr 2 l1, qr 5 l2, qi r1, qi (-1 : Int32), qi (-1 : Int32), qi (0 : Int32), none] (by decide) rfl ?_
  exact wp_cut h ⟨Or.inr rfl, Or.inr rfl, Or.inl rfl, Or.inr rfl, Or.inr rfl, Or.inr rfl, Or.inr rfl, Or.inl rfl, trivial⟩
theorem t_Node_bestFace {X : Nat × (Nat → Int32)} {k : Nat} {g : sg} {l0 : Nat} {l1 : Option Nat} {l2 : Option Nat} {Z : Int32 → sg → Prop} (h : ∃ a1, l1 = some a1 ∧ ∃ a2, gR g 386 l0 0 = some a2 ∧ nnMT X M_Routes_longestPrefix 0 [qr 11 (some a2), qi (gI g 128 a1 0), qr 5 l2] g (zI fun r1 g1 => gExt g g1 → nnWP X M_Node_bestFace k 22 [qr 6 (some l0), qr 2 l1, none, qi r1, qi (-1 : Int32), qi (-1 : Int32), qi (0 : Int32), none] [] g1 (zI Z))) : nnMT X M_Node_bestFace k [qr 6 (some l0), qr 2 l1, qr 5 l2] g (zI Z) := b_Node_bestFace_0 h

theorem b_Node_bestFace_22 {X : Nat × (Nat → Int32)} {k : Nat} {g : sg} {l0 : Nat} {l1 : Option Nat} {l3 : Int32} {l4 : Int32} {l5 : Int32} {l6 : Int32} {Z : Int32 → sg → Prop} (h : ((5 : Int32) ≤ l6 → Z l4 g) ∧ (¬ (5 : Int32) ≤ l6 → (l3 = (-1 : Int32) → Z l4 g) ∧ (¬ l3 = (-1 : Int32) → ∃ a1, gR g 386 l0 0 = some a1 ∧ nnMT X M_Routes_costOf 0 [qr 11 (some a1), qi l3, qi l6] g (zI fun r1 g1 => gExt g g1 → (r1 = (-1 : Int32) → nnWP X M_Node_bestFace k 22 [qr 6 (some l0), qr 2 l1, none, qi l3, qi l4, qi l5, qi (l6 + 1), none] [] g1 (zI Z)) ∧ (¬ r1 = (-1 : Int32) → nnMT X M_Node_isFree 0 [qr 6 (some l0), qr 2 l1, qi l6] g1 (zI fun r2 g2 => gExt g1 g2 → (r2 = 0 → nnWP X M_Node_bestFace k 22 [qr 6 (some l0), qr 2 l1, none, qi l3, qi l4, qi l5, qi (l6 + 1), none] [] g2 (zI Z)) ∧ (¬ r2 = 0 → (l4 = (-1 : Int32) → nnWP X M_Node_bestFace k 22 [qr 6 (some l0), qr 2 l1, none, qi l3, qi l6, qi r1, qi (l6 + 1), none] [] g2 (zI Z)) ∧ (¬ l4 = (-1 : Int32) → (l5 ≤ r1 → nnWP X M_Node_bestFace k 22 [qr 6 (some l0), qr 2 l1, none, qi l3, qi l4, qi l5, qi (l6 + 1), none] [] g2 (zI Z)) ∧ (¬ l5 ≤ r1 → nnWP X M_Node_bestFace k 22 [qr 6 (some l0), qr 2 l1, none, qi l3, qi l6, qi r1, qi (l6 + 1), none] [] g2 (zI Z)))))))))) : nnWP X M_Node_bestFace k 22 [qr 6 (some l0), qr 2 l1, none, qi l3, qi l4, qi l5, qi l6, none] [] g (zI Z) := by
  refine wp_iload (i := 6) (x := l6) (dz dl_Node_bestFace_0 13 22 (.iload 6) 2 rfl) rfl ?_
  refine wp_iconst (dz dl_Node_bestFace_0 14 24 (.iconst (5)) 1 rfl) (v := (5 : Int32)) (by decide) ?_
  refine wp_icmp_ge (tgt := 88) (dz dl_Node_bestFace_0 15 25 (.if_icmp .ge (63)) 3 rfl) (by decide) (fun hc => ?_) (fun hc => ?_)
  · replace h := h.1 hc
    refine wp_iload (i := 4) (x := l4) (dz dl_Node_bestFace_1 5 88 (.iload 4) 2 rfl) rfl ?_
    exact wp_rt (qi _) (rt_I rfl (dz dl_Node_bestFace_1 6 90 (.ireturn) 1 rfl)) ⟨_, rfl, h⟩
  · replace h := h.2 hc
    refine wp_iload_n (i := 3) (x := l3) (dz dl_Node_bestFace_0 16 28 (.iload_n 3) 1 rfl) rfl rfl ?_
    refine wp_iconst (dz dl_Node_bestFace_0 17 29 (.iconst (-1)) 1 rfl) (v := (-1 : Int32)) (by decide) ?_
    refine wp_icmp_eq (tgt := 88) (dz dl_Node_bestFace_0 18 30 (.if_icmp .eq (58)) 3 rfl) (by decide) (fun hc => ?_) (fun hc => ?_)
    · replace h := h.1 hc
      refine wp_iload (i := 4) (x := l4) (dz dl_Node_bestFace_1 5 88 (.iload 4) 2 rfl) rfl ?_
      exact wp_rt (qi _) (rt_I rfl (dz dl_Node_bestFace_1 6 90 (.ireturn) 1 rfl)) ⟨_, rfl, h⟩
    · replace h := h.2 hc
      refine wp_aload_n (i := 0) (v := qr 6 (some l0)) (dz dl_Node_bestFace_0 19 33 (.aload_n 0) 1 rfl) rfl rfl trivial ?_
      refine wp_getR l0 (dz dl_Node_bestFace_0 20 34 (.getfield 20) 3 rfl) lk_Node_20 kd_386 rfl rfl ?_
      refine wp_iload_n (i := 3) (x := l3) (dz dl_Node_bestFace_0 21 37 (.iload_n 3) 1 rfl) rfl rfl ?_
      refine wp_iload (i := 6) (x := l6) (dz dl_Node_bestFace_0 22 38 (.iload 6) 2 rfl) rfl ?_
      obtain ⟨a1, e1, h⟩ := h
      refine wp_callV a1 0 [qi l3, qi l6] [] (dz dl_Node_bestFace_0 23 40 (.invokevirtual 103) 3 rfl) ok_Routes_costOf lm_Node_103 (by decide) ws_Routes_costOf wv_Routes_costOf ⟨Nat.le_of_ble_eq_true rfl, Nat.le_of_ble_eq_true rfl⟩ pn_Routes_costOf (Nat.le_of_ble_eq_true rfl) (Nat.le_of_ble_eq_true rfl) e1 (Or.inl rfl) (Nat.zero_le _) (mt_mono h ?_)
      rintro _ g1 ⟨r1, rfl, h⟩ y1
      replace h := h y1.1
      show nnWP _ _ _ _ _ [qi r1] _ _
      refine wp_istore (i := 7) (dz dl_Node_bestFace_0 24 43 (.istore 7) 2 rfl) [qr 6 (some l0), qr 2 l1, none, qi l3, qi l4, qi l5, qi l6, qi r1] (by decide) rfl ?_
      refine wp_iload (i := 7) (x := r1) (dz dl_Node_bestFace_0 25 45 (.iload 7) 2 rfl) rfl ?_
      refine wp_iconst (dz dl_Node_bestFace_0 26 47 (.iconst (-1)) 1 rfl) (v := (-1 : Int32)) (by decide) ?_
      refine wp_icmp_eq (tgt := 82) (dz dl_Node_bestFace_0 27 48 (.if_icmp .eq (34)) 3 rfl) (by decide) (fun hc => ?_) (fun hc => ?_)
      · replace h := h.1 hc
        refine wp_iinc (i := 6) (v := l6 + 1) (dz dl_Node_bestFace_1 3 82 (.iinc 6 (1)) 3 rfl) rfl (congrArg (fun z => l6 + z) (by decide)) [qr 6 (some l0), qr 2 l1, none, qi l3, qi l4, qi l5, qi (l6 + 1), qi r1] (by decide) rfl ?_
        refine wp_goto (tgt := 22) (dz dl_Node_bestFace_1 4 85 (.goto (-63)) 3 rfl) (by decide) ?_
        exact wp_cut h ⟨Or.inr rfl, Or.inr rfl, Or.inl rfl, Or.inr rfl, Or.inr rfl, Or.inr rfl, Or.inr rfl, Or.inl rfl, trivial⟩
      · replace h := h.2 hc
        refine wp_aload_n (i := 0) (v := qr 6 (some l0)) (dz dl_Node_bestFace_0 28 51 (.aload_n 0) 1 rfl) rfl rfl trivial ?_
        refine wp_aload_n (i := 1) (v := qr 2 l1) (dz dl_Node_bestFace_0 29 52 (.aload_n 1) 1 rfl) rfl rfl trivial ?_
        refine wp_iload (i := 6) (x := l6) (dz dl_Node_bestFace_0 30 53 (.iload 6) 2 rfl) rfl ?_
        refine wp_callV l0 0 [qr 2 l1, qi l6] [] (dz dl_Node_bestFace_0 31 55 (.invokevirtual 107) 3 rfl) ok_Node_isFree lm_Node_107 (by decide) ws_Node_isFree wv_Node_isFree ⟨Nat.le_of_ble_eq_true rfl, Nat.le_of_ble_eq_true rfl⟩ pn_Node_isFree (Nat.le_of_ble_eq_true rfl) (Nat.le_of_ble_eq_true rfl) rfl (Or.inl rfl) (Nat.zero_le _) (mt_mono h ?_)
        rintro _ g2 ⟨r2, rfl, h⟩ y2
        replace h := h y2.1
        show nnWP _ _ _ _ _ [qi r2] _ _
        refine wp_if_eq (tgt := 82) (dz dl_Node_bestFace_0 32 58 (.ifCond .eq (24)) 3 rfl) (by decide) (fun hc => ?_) (fun hc => ?_)
        · replace h := h.1 hc
          refine wp_iinc (i := 6) (v := l6 + 1) (dz dl_Node_bestFace_1 3 82 (.iinc 6 (1)) 3 rfl) rfl (congrArg (fun z => l6 + z) (by decide)) [qr 6 (some l0), qr 2 l1, none, qi l3, qi l4, qi l5, qi (l6 + 1), qi r1] (by decide) rfl ?_
          refine wp_goto (tgt := 22) (dz dl_Node_bestFace_1 4 85 (.goto (-63)) 3 rfl) (by decide) ?_
          exact wp_cut h ⟨Or.inr rfl, Or.inr rfl, Or.inl rfl, Or.inr rfl, Or.inr rfl, Or.inr rfl, Or.inr rfl, Or.inl rfl, trivial⟩
        · replace h := h.2 hc
          refine wp_iload (i := 4) (x := l4) (dz dl_Node_bestFace_0 33 61 (.iload 4) 2 rfl) rfl ?_
          refine wp_iconst (dz dl_Node_bestFace_0 34 63 (.iconst (-1)) 1 rfl) (v := (-1 : Int32)) (by decide) ?_
          refine wp_icmp_eq (tgt := 74) (dz dl_Node_bestFace_0 35 64 (.if_icmp .eq (10)) 3 rfl) (by decide) (fun hc => ?_) (fun hc => ?_)
          · replace h := h.1 hc
            refine wp_iload (i := 6) (x := l6) (dz dl_Node_bestFace_0 39 74 (.iload 6) 2 rfl) rfl ?_
            refine wp_istore (i := 4) (dz dl_Node_bestFace_1 0 76 (.istore 4) 2 rfl) [qr 6 (some l0), qr 2 l1, none, qi l3, qi l6, qi l5, qi l6, qi r1] (by decide) rfl ?_
            refine wp_iload (i := 7) (x := r1) (dz dl_Node_bestFace_1 1 78 (.iload 7) 2 rfl) rfl ?_
            refine wp_istore (i := 5) (dz dl_Node_bestFace_1 2 80 (.istore 5) 2 rfl) [qr 6 (some l0), qr 2 l1, none, qi l3, qi l6, qi r1, qi l6, qi r1] (by decide) rfl ?_
            refine wp_iinc (i := 6) (v := l6 + 1) (dz dl_Node_bestFace_1 3 82 (.iinc 6 (1)) 3 rfl) rfl (congrArg (fun z => l6 + z) (by decide)) [qr 6 (some l0), qr 2 l1, none, qi l3, qi l6, qi r1, qi (l6 + 1), qi r1] (by decide) rfl ?_
            refine wp_goto (tgt := 22) (dz dl_Node_bestFace_1 4 85 (.goto (-63)) 3 rfl) (by decide) ?_
            exact wp_cut h ⟨Or.inr rfl, Or.inr rfl, Or.inl rfl, Or.inr rfl, Or.inr rfl, Or.inr rfl, Or.inr rfl, Or.inl rfl, trivial⟩
          · replace h := h.2 hc
            refine wp_iload (i := 7) (x := r1) (dz dl_Node_bestFace_0 36 67 (.iload 7) 2 rfl) rfl ?_
            refine wp_iload (i := 5) (x := l5) (dz dl_Node_bestFace_0 37 69 (.iload 5) 2 rfl) rfl ?_
            refine wp_icmp_ge (tgt := 82) (dz dl_Node_bestFace_0 38 71 (.if_icmp .ge (11)) 3 rfl) (by decide) (fun hc => ?_) (fun hc => ?_)
            · replace h := h.1 hc
              refine wp_iinc (i := 6) (v := l6 + 1) (dz dl_Node_bestFace_1 3 82 (.iinc 6 (1)) 3 rfl) rfl (congrArg (fun z => l6 + z) (by decide)) [qr 6 (some l0), qr 2 l1, none, qi l3, qi l4, qi l5, qi (l6 + 1), qi r1] (by decide) rfl ?_
              refine wp_goto (tgt := 22) (dz dl_Node_bestFace_1 4 85 (.goto (-63)) 3 rfl) (by decide) ?_
              exact wp_cut h ⟨Or.inr rfl, Or.inr rfl, Or.inl rfl, Or.inr rfl, Or.inr rfl, Or.inr rfl, Or.inr rfl, Or.inl rfl, trivial⟩
            · replace h := h.2 hc
              refine wp_iload (i := 6) (x := l6) (dz dl_Node_bestFace_0 39 74 (.iload 6) 2 rfl) rfl ?_
              refine wp_istore (i := 4) (dz dl_Node_bestFace_1 0 76 (.istore 4) 2 rfl) [qr 6 (some l0), qr 2 l1, none, qi l3, qi l6, qi l5, qi l6, qi r1] (by decide) rfl ?_
              refine wp_iload (i := 7) (x := r1) (dz dl_Node_bestFace_1 1 78 (.iload 7) 2 rfl) rfl ?_
              refine wp_istore (i := 5) (dz dl_Node_bestFace_1 2 80 (.istore 5) 2 rfl) [qr 6 (some l0), qr 2 l1, none, qi l3, qi l6, qi r1, qi l6, qi r1] (by decide) rfl ?_
              refine wp_iinc (i := 6) (v := l6 + 1) (dz dl_Node_bestFace_1 3 82 (.iinc 6 (1)) 3 rfl) rfl (congrArg (fun z => l6 + z) (by decide)) [qr 6 (some l0), qr 2 l1, none, qi l3, qi l6, qi r1, qi (l6 + 1), qi r1] (by decide) rfl ?_
              refine wp_goto (tgt := 22) (dz dl_Node_bestFace_1 4 85 (.goto (-63)) 3 rfl) (by decide) ?_
              exact wp_cut h ⟨Or.inr rfl, Or.inr rfl, Or.inl rfl, Or.inr rfl, Or.inr rfl, Or.inr rfl, Or.inr rfl, Or.inl rfl, trivial⟩

theorem b_Node_isFree_0 {X : Nat × (Nat → Int32)} {k : Nat} {g : sg} {l0 : Nat} {l1 : Option Nat} {l2 : Int32} {Z : Int32 → sg → Prop} (h : ∃ a1, l1 = some a1 ∧ nnMT X M_Entry_hasErrand 0 [qr 2 (some a1), qi l2] g (zI fun r1 g1 => gExt g g1 → (r1 = 0 → (l2 = (4 : Int32) → Z (1 : Int32) g1) ∧ (¬ l2 = (4 : Int32) → nnMT X M_Entry_hasAsk 0 [qr 2 (some a1), qi l2] g1 (zI fun r2 g2 => gExt g1 g2 → (¬ r2 = 0 → Z (0 : Int32) g2) ∧ (r2 = 0 → gA g2 385 l0 = some 4 ∧ vp_in l2 4 ∧ ∃ a2, gR g2 385 l0 l2.toNatClampNeg = some a2 ∧ ((gI g2 194 a2 0) = 0 → Z (0 : Int32) g2) ∧ (¬ (gI g2 194 a2 0) = 0 → Z (1 : Int32) g2))))) ∧ (¬ r1 = 0 → Z (0 : Int32) g1))) : nnWP X M_Node_isFree k 0 [qr 6 (some l0), qr 2 l1, qi l2] [] g (zI Z) := by
  refine wp_aload_n (i := 1) (v := qr 2 l1) (dz dl_Node_isFree_0 0 0 (.aload_n 1) 1 rfl) rfl rfl trivial ?_
  refine wp_iload_n (i := 2) (x := l2) (dz dl_Node_isFree_0 1 1 (.iload_n 2) 1 rfl) rfl rfl ?_
  obtain ⟨a1, e1, h⟩ := h
  refine wp_callV a1 0 [qi l2] [] (dz dl_Node_isFree_0 2 2 (.invokevirtual 111) 3 rfl) ok_Entry_hasErrand lm_Node_111 (by decide) ws_Entry_hasErrand wv_Entry_hasErrand ⟨Nat.le_of_ble_eq_true rfl, Nat.le_of_ble_eq_true rfl⟩ pn_Entry_hasErrand (Nat.le_of_ble_eq_true rfl) (Nat.le_of_ble_eq_true rfl) e1 (Or.inl rfl) (Nat.zero_le _) (mt_mono h ?_)
  rintro _ g1 ⟨r1, rfl, h⟩ y1
  replace h := h y1.1
  show nnWP _ _ _ _ _ [qi r1] _ _
  refine wp_if_eq (tgt := 10) (dz dl_Node_isFree_0 3 5 (.ifCond .eq (5)) 3 rfl) (by decide) (fun hc => ?_) (fun hc => ?_)
  · replace h := h.1 hc
    refine wp_iload_n (i := 2) (x := l2) (dz dl_Node_isFree_0 6 10 (.iload_n 2) 1 rfl) rfl rfl ?_
    refine wp_iconst (dz dl_Node_isFree_0 7 11 (.iconst (4)) 1 rfl) (v := (4 : Int32)) (by decide) ?_
    refine wp_icmp_eq (tgt := 35) (dz dl_Node_isFree_0 8 12 (.if_icmp .eq (23)) 3 rfl) (by decide) (fun hc => ?_) (fun hc => ?_)
    · replace h := h.1 hc
      refine wp_iconst (dz dl_Node_isFree_0 19 35 (.iconst (1)) 1 rfl) (v := (1 : Int32)) (by decide) ?_
      refine wp_goto (tgt := 40) (dz dl_Node_isFree_0 20 36 (.goto (4)) 3 rfl) (by decide) ?_
      exact wp_rt (qi _) (rt_Z rfl (Or.inr rfl) (dz dl_Node_isFree_0 22 40 (.ireturn) 1 rfl)) ⟨_, rfl, h⟩
    · replace h := h.2 hc
      refine wp_aload_n (i := 1) (v := qr 2 l1) (dz dl_Node_isFree_0 9 15 (.aload_n 1) 1 rfl) rfl rfl trivial ?_
      refine wp_iload_n (i := 2) (x := l2) (dz dl_Node_isFree_0 10 16 (.iload_n 2) 1 rfl) rfl rfl ?_
      refine wp_callV a1 0 [qi l2] [] (dz dl_Node_isFree_0 11 17 (.invokevirtual 115) 3 rfl) ok_Entry_hasAsk lm_Node_115 (by decide) ws_Entry_hasAsk wv_Entry_hasAsk ⟨Nat.le_of_ble_eq_true rfl, Nat.le_of_ble_eq_true rfl⟩ pn_Entry_hasAsk (Nat.le_of_ble_eq_true rfl) (Nat.le_of_ble_eq_true rfl) e1 (Or.inl rfl) (Nat.zero_le _) (mt_mono h ?_)
      rintro _ g2 ⟨r2, rfl, h⟩ y2
      replace h := h y2.1
      show nnWP _ _ _ _ _ [qi r2] _ _
      refine wp_if_ne (tgt := 39) (dz dl_Node_isFree_0 12 20 (.ifCond .ne (19)) 3 rfl) (by decide) (fun hc => ?_) (fun hc => ?_)
      · replace h := h.1 hc
        refine wp_iconst (dz dl_Node_isFree_0 21 39 (.iconst (0)) 1 rfl) (v := (0 : Int32)) (by decide) ?_
        exact wp_rt (qi _) (rt_Z rfl (Or.inl rfl) (dz dl_Node_isFree_0 22 40 (.ireturn) 1 rfl)) ⟨_, rfl, h⟩
      · replace h := h.2 hc
        refine wp_aload_n (i := 0) (v := qr 6 (some l0)) (dz dl_Node_isFree_0 13 23 (.aload_n 0) 1 rfl) rfl rfl trivial ?_
        obtain ⟨n1, h⟩ := h
        refine wp_getA l0 4 (dz dl_Node_isFree_0 14 24 (.getfield 11) 3 rfl) lk_Node_11 (q := 1) kd_385 rfl rfl n1 ?_
        refine wp_iload_n (i := 2) (x := l2) (dz dl_Node_isFree_0 15 27 (.iload_n 2) 1 rfl) rfl rfl ?_
        obtain ⟨i1, h⟩ := h
        refine wp_aald 4 (dz dl_Node_isFree_0 16 28 (.aaload) 1 rfl) kd_385 n1 i1 ?_
        obtain ⟨a2, e2, h⟩ := h
        refine wp_getI a2 (dz dl_Node_isFree_0 17 29 (.getfield 118) 3 rfl) lk_Node_118 kd_194 rfl e2 ?_
        refine wp_if_eq (tgt := 39) (dz dl_Node_isFree_0 18 32 (.ifCond .eq (7)) 3 rfl) (by decide) (fun hc => ?_) (fun hc => ?_)
        · replace h := h.1 hc
          refine wp_iconst (dz dl_Node_isFree_0 21 39 (.iconst (0)) 1 rfl) (v := (0 : Int32)) (by decide) ?_
          exact wp_rt (qi _) (rt_Z rfl (Or.inl rfl) (dz dl_Node_isFree_0 22 40 (.ireturn) 1 rfl)) ⟨_, rfl, h⟩
        · replace h := h.2 hc
          refine wp_iconst (dz dl_Node_isFree_0 19 35 (.iconst (1)) 1 rfl) (v := (1 : Int32)) (by decide) ?_
          refine wp_goto (tgt := 40) (dz dl_Node_isFree_0 20 36 (.goto (4)) 3 rfl) (by decide) ?_
          exact wp_rt (qi _) (rt_Z rfl (Or.inr rfl) (dz dl_Node_isFree_0 22 40 (.ireturn) 1 rfl)) ⟨_, rfl, h⟩
  · replace h := h.2 hc
    refine wp_iconst (dz dl_Node_isFree_0 4 8 (.iconst (0)) 1 rfl) (v := (0 : Int32)) (by decide) ?_
    exact wp_rt (qi _) (rt_Z rfl (Or.inl rfl) (dz dl_Node_isFree_0 5 9 (.ireturn) 1 rfl)) ⟨_, rfl, h⟩
theorem t_Node_isFree {X : Nat × (Nat → Int32)} {k : Nat} {g : sg} {l0 : Nat} {l1 : Option Nat} {l2 : Int32} {Z : Int32 → sg → Prop} (h : ∃ a1, l1 = some a1 ∧ nnMT X M_Entry_hasErrand 0 [qr 2 (some a1), qi l2] g (zI fun r1 g1 => gExt g g1 → (r1 = 0 → (l2 = (4 : Int32) → Z (1 : Int32) g1) ∧ (¬ l2 = (4 : Int32) → nnMT X M_Entry_hasAsk 0 [qr 2 (some a1), qi l2] g1 (zI fun r2 g2 => gExt g1 g2 → (¬ r2 = 0 → Z (0 : Int32) g2) ∧ (r2 = 0 → gA g2 385 l0 = some 4 ∧ vp_in l2 4 ∧ ∃ a2, gR g2 385 l0 l2.toNatClampNeg = some a2 ∧ ((gI g2 194 a2 0) = 0 → Z (0 : Int32) g2) ∧ (¬ (gI g2 194 a2 0) = 0 → Z (1 : Int32) g2))))) ∧ (¬ r1 = 0 → Z (0 : Int32) g1))) : nnMT X M_Node_isFree k [qr 6 (some l0), qr 2 l1, qi l2] g (zI Z) := b_Node_isFree_0 h

theorem b_Packet_init_0 {X : Nat × (Nat → Int32)} {k : Nat} {g : sg} {l0 : Nat} {l1 : Int32} {l2 : Int32} {Z : sg → Prop} (h : ∀ g1, g1 = pI g 448 l0 0 l1 → ∀ g2, g2 = pI g1 449 l0 0 l2 → Z g2) : nnWP X M_Packet_init k 0 [qr 7 (some l0), qi l1, qi l2] [] g (zV Z) := by
  refine wp_aload_n (i := 0) (v := qr 7 (some l0)) (dz dl_Packet_init_0 0 0 (.aload_n 0) 1 rfl) rfl rfl trivial ?_
  refine wp_objInit l0 (dz dl_Packet_init_0 1 1 (.invokespecial 3) 3 rfl) wm_Packet_3 w_oi w_oc (by decide) (by decide) (Nat.le_of_ble_eq_true rfl) rfl ?_
  refine wp_aload_n (i := 0) (v := qr 7 (some l0)) (dz dl_Packet_init_0 2 4 (.aload_n 0) 1 rfl) rfl rfl trivial ?_
  refine wp_iload_n (i := 1) (x := l1) (dz dl_Packet_init_0 3 5 (.iload_n 1) 1 rfl) rfl rfl ?_
  have h := h _ rfl
  refine wp_putIF l0 (dz dl_Packet_init_0 4 6 (.putfield 9) 3 rfl) wf_Packet_9 kd_448 rfl rfl (okI_0 _) rfl ?_
  refine wp_aload_n (i := 0) (v := qr 7 (some l0)) (dz dl_Packet_init_0 5 9 (.aload_n 0) 1 rfl) rfl rfl trivial ?_
  refine wp_iload_n (i := 2) (x := l2) (dz dl_Packet_init_0 6 10 (.iload_n 2) 1 rfl) rfl rfl ?_
  have h := h _ rfl
  refine wp_putIF l0 (dz dl_Packet_init_0 7 11 (.putfield 15) 3 rfl) wf_Packet_15 kd_449 rfl rfl (okI_0 _) rfl ?_
  exact wp_rt none (rt_V rfl (dz dl_Packet_init_0 8 14 (.return_) 1 rfl)) ⟨rfl, h⟩
theorem t_Packet_init {X : Nat × (Nat → Int32)} {k : Nat} {g : sg} {l0 : Nat} {l1 : Int32} {l2 : Int32} {Z : sg → Prop} (h : ∀ g1, g1 = pI g 448 l0 0 l1 → ∀ g2, g2 = pI g1 449 l0 0 l2 → Z g2) : nnMT X M_Packet_init k [qr 7 (some l0), qi l1, qi l2] g (zV Z) := b_Packet_init_0 h

theorem b_Packet_interest_0 {X : Nat × (Nat → Int32)} {k : Nat} {g : sg} {l0 : Int32} {l1 : Int32} {l2 : Int32} {l3 : Int32} {Z : Option Nat → sg → Prop} (h : 1 ≤ k ∧ ∀ g1, g1 = pN g 7 → nnMT X M_Packet_init 0 [qr 7 (some (gC g 7)), qi (0 : Int32), qi l0] g1 (zV fun g2 => gExt g1 g2 → ∀ g3, g3 = pI g2 450 (gC g 7) 0 l1 → ∀ g4, g4 = pI g3 451 (gC g 7) 0 l2 → ∀ g5, g5 = pI g4 452 (gC g 7) 0 l3 → Z (some (gC g 7)) g5)) : nnWP X M_Packet_interest k 0 [qi l0, qi l1, qi l2, qi l3, none] [] g (zR 7 Z) := by
  obtain ⟨u1, h⟩ := h
  have h := h _ rfl
  refine wp_new 1 (dz dl_Packet_interest_0 0 0 (.new 10) 3 rfl) (by decide) wc_Packet_10 wi_7 wn_7 ⟨by decide, by decide⟩ rfl u1 ?_
  refine wp_dup (dz dl_Packet_interest_0 1 3 (.dup) 1 rfl) ?_
  refine wp_iconst (dz dl_Packet_interest_0 2 4 (.iconst (0)) 1 rfl) (v := (0 : Int32)) (by decide) ?_
  refine wp_iload_n (i := 0) (x := l0) (dz dl_Packet_interest_0 3 5 (.iload_n 0) 1 rfl) rfl rfl ?_
  refine wp_callI (gC g 7) 0 [qi (0 : Int32), qi l0] [qr 7 (some (gC g 7))] (dz dl_Packet_interest_0 4 6 (.invokespecial 18) 3 rfl) ok_Packet_init rfl rfl lm_Packet_18 ws_Packet_init ⟨Nat.le_of_ble_eq_true rfl, Nat.le_of_ble_eq_true rfl⟩ pn_Packet_init (Nat.le_of_ble_eq_true rfl) (Nat.le_of_ble_eq_true rfl) rfl (Or.inl rfl) (Nat.zero_le _) (mt_mono h ?_)
  rintro _ g2 ⟨rfl, h⟩ y1
  replace h := h y1.1
  show nnWP _ _ _ _ _ [qr 7 (some (gC g 7))] _ _
  refine wp_astore (i := 4) (dz dl_Packet_interest_0 5 9 (.astore 4) 2 rfl) [qi l0, qi l1, qi l2, qi l3, qr 7 (some (gC g 7))] (by decide) trivial rfl ?_
  refine wp_aload (i := 4) (v := qr 7 (some (gC g 7))) (dz dl_Packet_interest_0 6 11 (.aload 4) 2 rfl) rfl trivial ?_
  refine wp_iload_n (i := 1) (x := l1) (dz dl_Packet_interest_0 7 13 (.iload_n 1) 1 rfl) rfl rfl ?_
  have h := h _ rfl
  refine wp_putI (gC g 7) (dz dl_Packet_interest_0 8 14 (.putfield 21) 3 rfl) lk_Packet_21 kd_450 rfl rfl rfl (okI_0 _) rfl ?_
  refine wp_aload (i := 4) (v := qr 7 (some (gC g 7))) (dz dl_Packet_interest_0 9 17 (.aload 4) 2 rfl) rfl trivial ?_
  refine wp_iload_n (i := 2) (x := l2) (dz dl_Packet_interest_0 10 19 (.iload_n 2) 1 rfl) rfl rfl ?_
  have h := h _ rfl
  refine wp_putI (gC g 7) (dz dl_Packet_interest_0 11 20 (.putfield 24) 3 rfl) lk_Packet_24 kd_451 rfl rfl rfl (okI_0 _) rfl ?_
  refine wp_aload (i := 4) (v := qr 7 (some (gC g 7))) (dz dl_Packet_interest_0 12 23 (.aload 4) 2 rfl) rfl trivial ?_
  refine wp_iload_n (i := 3) (x := l3) (dz dl_Packet_interest_0 13 25 (.iload_n 3) 1 rfl) rfl rfl ?_
  have h := h _ rfl
  refine wp_putI (gC g 7) (dz dl_Packet_interest_0 14 26 (.putfield 27) 3 rfl) lk_Packet_27 kd_452 rfl rfl rfl (okI_0 _) rfl ?_
  refine wp_aload (i := 4) (v := qr 7 (some (gC g 7))) (dz dl_Packet_interest_0 15 29 (.aload 4) 2 rfl) rfl trivial ?_
  exact wp_rt (qr 7 _) (rt_R rfl (dz dl_Packet_interest_0 16 31 (.areturn) 1 rfl)) ⟨_, rfl, h⟩
theorem t_Packet_interest {X : Nat × (Nat → Int32)} {k : Nat} {g : sg} {l0 : Int32} {l1 : Int32} {l2 : Int32} {l3 : Int32} {Z : Option Nat → sg → Prop} (h : 1 ≤ k ∧ ∀ g1, g1 = pN g 7 → nnMT X M_Packet_init 0 [qr 7 (some (gC g 7)), qi (0 : Int32), qi l0] g1 (zV fun g2 => gExt g1 g2 → ∀ g3, g3 = pI g2 450 (gC g 7) 0 l1 → ∀ g4, g4 = pI g3 451 (gC g 7) 0 l2 → ∀ g5, g5 = pI g4 452 (gC g 7) 0 l3 → Z (some (gC g 7)) g5)) : nnMT X M_Packet_interest k [qi l0, qi l1, qi l2, qi l3] g (zR 7 Z) := b_Packet_interest_0 h

theorem b_Packet_data_0 {X : Nat × (Nat → Int32)} {k : Nat} {g : sg} {l0 : Int32} {l1 : Int32} {l2 : Int32} {Z : Option Nat → sg → Prop} (h : 1 ≤ k ∧ ∀ g1, g1 = pN g 7 → nnMT X M_Packet_init 0 [qr 7 (some (gC g 7)), qi (1 : Int32), qi l0] g1 (zV fun g2 => gExt g1 g2 → ∀ g3, g3 = pI g2 453 (gC g 7) 0 l1 → ∀ g4, g4 = pI g3 454 (gC g 7) 0 l2 → Z (some (gC g 7)) g4)) : nnWP X M_Packet_data k 0 [qi l0, qi l1, qi l2, none] [] g (zR 7 Z) := by
  obtain ⟨u1, h⟩ := h
  have h := h _ rfl
  refine wp_new 1 (dz dl_Packet_data_0 0 0 (.new 10) 3 rfl) (by decide) wc_Packet_10 wi_7 wn_7 ⟨by decide, by decide⟩ rfl u1 ?_
  refine wp_dup (dz dl_Packet_data_0 1 3 (.dup) 1 rfl) ?_
  refine wp_iconst (dz dl_Packet_data_0 2 4 (.iconst (1)) 1 rfl) (v := (1 : Int32)) (by decide) ?_
  refine wp_iload_n (i := 0) (x := l0) (dz dl_Packet_data_0 3 5 (.iload_n 0) 1 rfl) rfl rfl ?_
  refine wp_callI (gC g 7) 0 [qi (1 : Int32), qi l0] [qr 7 (some (gC g 7))] (dz dl_Packet_data_0 4 6 (.invokespecial 18) 3 rfl) ok_Packet_init rfl rfl lm_Packet_18 ws_Packet_init ⟨Nat.le_of_ble_eq_true rfl, Nat.le_of_ble_eq_true rfl⟩ pn_Packet_init (Nat.le_of_ble_eq_true rfl) (Nat.le_of_ble_eq_true rfl) rfl (Or.inl rfl) (Nat.zero_le _) (mt_mono h ?_)
  rintro _ g2 ⟨rfl, h⟩ y1
  replace h := h y1.1
  show nnWP _ _ _ _ _ [qr 7 (some (gC g 7))] _ _
  refine wp_astore_n (i := 3) (dz dl_Packet_data_0 5 9 (.astore_n 3) 1 rfl) rfl [qi l0, qi l1, qi l2, qr 7 (some (gC g 7))] (by decide) trivial rfl ?_
  refine wp_aload_n (i := 3) (v := qr 7 (some (gC g 7))) (dz dl_Packet_data_0 6 10 (.aload_n 3) 1 rfl) rfl rfl trivial ?_
  refine wp_iload_n (i := 1) (x := l1) (dz dl_Packet_data_0 7 11 (.iload_n 1) 1 rfl) rfl rfl ?_
  have h := h _ rfl
  refine wp_putI (gC g 7) (dz dl_Packet_data_0 8 12 (.putfield 30) 3 rfl) lk_Packet_30 kd_453 rfl rfl rfl (okI_0 _) rfl ?_
  refine wp_aload_n (i := 3) (v := qr 7 (some (gC g 7))) (dz dl_Packet_data_0 9 15 (.aload_n 3) 1 rfl) rfl rfl trivial ?_
  refine wp_iload_n (i := 2) (x := l2) (dz dl_Packet_data_0 10 16 (.iload_n 2) 1 rfl) rfl rfl ?_
  have h := h _ rfl
  refine wp_putI (gC g 7) (dz dl_Packet_data_0 11 17 (.putfield 33) 3 rfl) lk_Packet_33 kd_454 rfl rfl rfl (okI_0 _) rfl ?_
  refine wp_aload_n (i := 3) (v := qr 7 (some (gC g 7))) (dz dl_Packet_data_0 12 20 (.aload_n 3) 1 rfl) rfl rfl trivial ?_
  exact wp_rt (qr 7 _) (rt_R rfl (dz dl_Packet_data_0 13 21 (.areturn) 1 rfl)) ⟨_, rfl, h⟩
theorem t_Packet_data {X : Nat × (Nat → Int32)} {k : Nat} {g : sg} {l0 : Int32} {l1 : Int32} {l2 : Int32} {Z : Option Nat → sg → Prop} (h : 1 ≤ k ∧ ∀ g1, g1 = pN g 7 → nnMT X M_Packet_init 0 [qr 7 (some (gC g 7)), qi (1 : Int32), qi l0] g1 (zV fun g2 => gExt g1 g2 → ∀ g3, g3 = pI g2 453 (gC g 7) 0 l1 → ∀ g4, g4 = pI g3 454 (gC g 7) 0 l2 → Z (some (gC g 7)) g4)) : nnMT X M_Packet_data k [qi l0, qi l1, qi l2] g (zR 7 Z) := b_Packet_data_0 h

theorem b_Packet_nack_0 {X : Nat × (Nat → Int32)} {k : Nat} {g : sg} {l0 : Int32} {l1 : Int32} {l2 : Int32} {Z : Option Nat → sg → Prop} (h : 1 ≤ k ∧ ∀ g1, g1 = pN g 7 → nnMT X M_Packet_init 0 [qr 7 (some (gC g 7)), qi (2 : Int32), qi l0] g1 (zV fun g2 => gExt g1 g2 → ∀ g3, g3 = pI g2 450 (gC g 7) 0 l1 → ∀ g4, g4 = pI g3 451 (gC g 7) 0 l2 → Z (some (gC g 7)) g4)) : nnWP X M_Packet_nack k 0 [qi l0, qi l1, qi l2, none] [] g (zR 7 Z) := by
  obtain ⟨u1, h⟩ := h
  have h := h _ rfl
  refine wp_new 1 (dz dl_Packet_nack_0 0 0 (.new 10) 3 rfl) (by decide) wc_Packet_10 wi_7 wn_7 ⟨by decide, by decide⟩ rfl u1 ?_
  refine wp_dup (dz dl_Packet_nack_0 1 3 (.dup) 1 rfl) ?_
  refine wp_iconst (dz dl_Packet_nack_0 2 4 (.iconst (2)) 1 rfl) (v := (2 : Int32)) (by decide) ?_
  refine wp_iload_n (i := 0) (x := l0) (dz dl_Packet_nack_0 3 5 (.iload_n 0) 1 rfl) rfl rfl ?_
  refine wp_callI (gC g 7) 0 [qi (2 : Int32), qi l0] [qr 7 (some (gC g 7))] (dz dl_Packet_nack_0 4 6 (.invokespecial 18) 3 rfl) ok_Packet_init rfl rfl lm_Packet_18 ws_Packet_init ⟨Nat.le_of_ble_eq_true rfl, Nat.le_of_ble_eq_true rfl⟩ pn_Packet_init (Nat.le_of_ble_eq_true rfl) (Nat.le_of_ble_eq_true rfl) rfl (Or.inl rfl) (Nat.zero_le _) (mt_mono h ?_)
  rintro _ g2 ⟨rfl, h⟩ y1
  replace h := h y1.1
  show nnWP _ _ _ _ _ [qr 7 (some (gC g 7))] _ _
  refine wp_astore_n (i := 3) (dz dl_Packet_nack_0 5 9 (.astore_n 3) 1 rfl) rfl [qi l0, qi l1, qi l2, qr 7 (some (gC g 7))] (by decide) trivial rfl ?_
  refine wp_aload_n (i := 3) (v := qr 7 (some (gC g 7))) (dz dl_Packet_nack_0 6 10 (.aload_n 3) 1 rfl) rfl rfl trivial ?_
  refine wp_iload_n (i := 1) (x := l1) (dz dl_Packet_nack_0 7 11 (.iload_n 1) 1 rfl) rfl rfl ?_
  have h := h _ rfl
  refine wp_putI (gC g 7) (dz dl_Packet_nack_0 8 12 (.putfield 21) 3 rfl) lk_Packet_21 kd_450 rfl rfl rfl (okI_0 _) rfl ?_
  refine wp_aload_n (i := 3) (v := qr 7 (some (gC g 7))) (dz dl_Packet_nack_0 9 15 (.aload_n 3) 1 rfl) rfl rfl trivial ?_
  refine wp_iload_n (i := 2) (x := l2) (dz dl_Packet_nack_0 10 16 (.iload_n 2) 1 rfl) rfl rfl ?_
  have h := h _ rfl
  refine wp_putI (gC g 7) (dz dl_Packet_nack_0 11 17 (.putfield 24) 3 rfl) lk_Packet_24 kd_451 rfl rfl rfl (okI_0 _) rfl ?_
  refine wp_aload_n (i := 3) (v := qr 7 (some (gC g 7))) (dz dl_Packet_nack_0 12 20 (.aload_n 3) 1 rfl) rfl rfl trivial ?_
  exact wp_rt (qr 7 _) (rt_R rfl (dz dl_Packet_nack_0 13 21 (.areturn) 1 rfl)) ⟨_, rfl, h⟩
theorem t_Packet_nack {X : Nat × (Nat → Int32)} {k : Nat} {g : sg} {l0 : Int32} {l1 : Int32} {l2 : Int32} {Z : Option Nat → sg → Prop} (h : 1 ≤ k ∧ ∀ g1, g1 = pN g 7 → nnMT X M_Packet_init 0 [qr 7 (some (gC g 7)), qi (2 : Int32), qi l0] g1 (zV fun g2 => gExt g1 g2 → ∀ g3, g3 = pI g2 450 (gC g 7) 0 l1 → ∀ g4, g4 = pI g3 451 (gC g 7) 0 l2 → Z (some (gC g 7)) g4)) : nnMT X M_Packet_nack k [qi l0, qi l1, qi l2] g (zR 7 Z) := b_Packet_nack_0 h

theorem b_Packet_notice_0 {X : Nat × (Nat → Int32)} {k : Nat} {g : sg} {l0 : Int32} {l1 : Int32} {l2 : Int32} {l3 : Int32} {Z : Option Nat → sg → Prop} (h : 1 ≤ k ∧ ∀ g1, g1 = pN g 7 → nnMT X M_Packet_init 0 [qr 7 (some (gC g 7)), qi (3 : Int32), qi l1] g1 (zV fun g2 => gExt g1 g2 → ∀ g3, g3 = pI g2 455 (gC g 7) 0 l0 → ∀ g4, g4 = pI g3 456 (gC g 7) 0 l2 → ∀ g5, g5 = pI g4 457 (gC g 7) 0 l3 → Z (some (gC g 7)) g5)) : nnWP X M_Packet_notice k 0 [qi l0, qi l1, qi l2, qi l3, none] [] g (zR 7 Z) := by
  obtain ⟨u1, h⟩ := h
  have h := h _ rfl
  refine wp_new 1 (dz dl_Packet_notice_0 0 0 (.new 10) 3 rfl) (by decide) wc_Packet_10 wi_7 wn_7 ⟨by decide, by decide⟩ rfl u1 ?_
  refine wp_dup (dz dl_Packet_notice_0 1 3 (.dup) 1 rfl) ?_
  refine wp_iconst (dz dl_Packet_notice_0 2 4 (.iconst (3)) 1 rfl) (v := (3 : Int32)) (by decide) ?_
  refine wp_iload_n (i := 1) (x := l1) (dz dl_Packet_notice_0 3 5 (.iload_n 1) 1 rfl) rfl rfl ?_
  refine wp_callI (gC g 7) 0 [qi (3 : Int32), qi l1] [qr 7 (some (gC g 7))] (dz dl_Packet_notice_0 4 6 (.invokespecial 18) 3 rfl) ok_Packet_init rfl rfl lm_Packet_18 ws_Packet_init ⟨Nat.le_of_ble_eq_true rfl, Nat.le_of_ble_eq_true rfl⟩ pn_Packet_init (Nat.le_of_ble_eq_true rfl) (Nat.le_of_ble_eq_true rfl) rfl (Or.inl rfl) (Nat.zero_le _) (mt_mono h ?_)
  rintro _ g2 ⟨rfl, h⟩ y1
  replace h := h y1.1
  show nnWP _ _ _ _ _ [qr 7 (some (gC g 7))] _ _
  refine wp_astore (i := 4) (dz dl_Packet_notice_0 5 9 (.astore 4) 2 rfl) [qi l0, qi l1, qi l2, qi l3, qr 7 (some (gC g 7))] (by decide) trivial rfl ?_
  refine wp_aload (i := 4) (v := qr 7 (some (gC g 7))) (dz dl_Packet_notice_0 6 11 (.aload 4) 2 rfl) rfl trivial ?_
  refine wp_iload_n (i := 0) (x := l0) (dz dl_Packet_notice_0 7 13 (.iload_n 0) 1 rfl) rfl rfl ?_
  have h := h _ rfl
  refine wp_putI (gC g 7) (dz dl_Packet_notice_0 8 14 (.putfield 36) 3 rfl) lk_Packet_36 kd_455 rfl rfl rfl (okI_0 _) rfl ?_
  refine wp_aload (i := 4) (v := qr 7 (some (gC g 7))) (dz dl_Packet_notice_0 9 17 (.aload 4) 2 rfl) rfl trivial ?_
  refine wp_iload_n (i := 2) (x := l2) (dz dl_Packet_notice_0 10 19 (.iload_n 2) 1 rfl) rfl rfl ?_
  have h := h _ rfl
  refine wp_putI (gC g 7) (dz dl_Packet_notice_0 11 20 (.putfield 39) 3 rfl) lk_Packet_39 kd_456 rfl rfl rfl (okI_0 _) rfl ?_
  refine wp_aload (i := 4) (v := qr 7 (some (gC g 7))) (dz dl_Packet_notice_0 12 23 (.aload 4) 2 rfl) rfl trivial ?_
  refine wp_iload_n (i := 3) (x := l3) (dz dl_Packet_notice_0 13 25 (.iload_n 3) 1 rfl) rfl rfl ?_
  have h := h _ rfl
  refine wp_putI (gC g 7) (dz dl_Packet_notice_0 14 26 (.putfield 42) 3 rfl) lk_Packet_42 kd_457 rfl rfl rfl (okI_0 _) rfl ?_
  refine wp_aload (i := 4) (v := qr 7 (some (gC g 7))) (dz dl_Packet_notice_0 15 29 (.aload 4) 2 rfl) rfl trivial ?_
  exact wp_rt (qr 7 _) (rt_R rfl (dz dl_Packet_notice_0 16 31 (.areturn) 1 rfl)) ⟨_, rfl, h⟩
theorem t_Packet_notice {X : Nat × (Nat → Int32)} {k : Nat} {g : sg} {l0 : Int32} {l1 : Int32} {l2 : Int32} {l3 : Int32} {Z : Option Nat → sg → Prop} (h : 1 ≤ k ∧ ∀ g1, g1 = pN g 7 → nnMT X M_Packet_init 0 [qr 7 (some (gC g 7)), qi (3 : Int32), qi l1] g1 (zV fun g2 => gExt g1 g2 → ∀ g3, g3 = pI g2 455 (gC g 7) 0 l0 → ∀ g4, g4 = pI g3 456 (gC g 7) 0 l2 → ∀ g5, g5 = pI g4 457 (gC g 7) 0 l3 → Z (some (gC g 7)) g5)) : nnMT X M_Packet_notice k [qi l0, qi l1, qi l2, qi l3] g (zR 7 Z) := b_Packet_notice_0 h

theorem b_Pending_init_0 {X : Nat × (Nat → Int32)} {k : Nat} {g : sg} {l0 : Nat} {l1 : Int32} {Z : sg → Prop} (h : ∃ m1, l1 = nI m1 ∧ m1 ≤ 16 ∧ 1 ≤ k ∧ gA g 512 l0 = none ∧ ∀ g1, g1 = pA g 512 l0 m1 → nnWP X M_Pending_init (k - 1) 14 [qr 8 (some l0), qi l1, qi (0 : Int32)] [] g1 (zV Z)) : nnWP X M_Pending_init k 0 [qr 8 (some l0), qi l1, none] [] g (zV Z) := by
  refine wp_aload_n (i := 0) (v := qr 8 (some l0)) (dz dl_Pending_init_0 0 0 (.aload_n 0) 1 rfl) rfl rfl trivial ?_
  refine wp_objInit l0 (dz dl_Pending_init_0 1 1 (.invokespecial 1) 3 rfl) wm_Pending_1 w_oi w_oc (by decide) (by decide) (Nat.le_of_ble_eq_true rfl) rfl ?_
  refine wp_aload_n (i := 0) (v := qr 8 (some l0)) (dz dl_Pending_init_0 2 4 (.aload_n 0) 1 rfl) rfl rfl trivial ?_
  refine wp_iload_n (i := 1) (x := l1) (dz dl_Pending_init_0 3 5 (.iload_n 1) 1 rfl) rfl rfl ?_
  obtain ⟨m1, x1, h⟩ := h
  obtain ⟨b1, h⟩ := h
  obtain ⟨u1, h⟩ := h
  obtain ⟨q1, h⟩ := h
  have h := h _ rfl
  refine wp_newR (n := m1) l0 1 (dz dl_Pending_init_0 4 6 (.anewarray 7) 3 rfl) (dz dl_Pending_init_0 5 9 (.putfield 9) 3 rfl) wf_Pending_9 kd_512 (by decide) wc_Pending_7 (by decide) rfl rfl x1 b1 (Nat.le_trans b1 (by decide)) (by decide) u1 q1 rfl ?_
  refine wp_iconst (dz dl_Pending_init_0 6 12 (.iconst (0)) 1 rfl) (v := (0 : Int32)) (by decide) ?_
  refine wp_istore_n (i := 2) (dz dl_Pending_init_0 7 13 (.istore_n 2) 1 rfl) rfl [qr 8 (some l0), qi l1, qi (0 : Int32)] (by decide) rfl ?_
  exact wp_cut h ⟨Or.inr rfl, Or.inr rfl, Or.inr rfl, trivial⟩
theorem t_Pending_init {X : Nat × (Nat → Int32)} {k : Nat} {g : sg} {l0 : Nat} {l1 : Int32} {Z : sg → Prop} (h : ∃ m1, l1 = nI m1 ∧ m1 ≤ 16 ∧ 1 ≤ k ∧ gA g 512 l0 = none ∧ ∀ g1, g1 = pA g 512 l0 m1 → nnWP X M_Pending_init (k - 1) 14 [qr 8 (some l0), qi l1, qi (0 : Int32)] [] g1 (zV Z)) : nnMT X M_Pending_init k [qr 8 (some l0), qi l1] g (zV Z) := b_Pending_init_0 h

theorem b_Pending_init_14 {X : Nat × (Nat → Int32)} {k : Nat} {g : sg} {l0 : Nat} {l1 : Int32} {l2 : Int32} {Z : sg → Prop} (h : (l1 ≤ l2 → Z g) ∧ (¬ l1 ≤ l2 → ∃ m1, gA g 512 l0 = some m1 ∧ 1 ≤ k ∧ ∀ g1, g1 = pN g 2 → 4 ≤ (k - 1) ∧ nnMT X M_Entry_init 4 [qr 2 (some (gC g 2))] g1 (zV fun g2 => gExt g1 g2 → vp_in l2 m1 ∧ ∀ g3, g3 = pR g2 512 l0 l2.toNatClampNeg (some (gC g 2)) → nnWP X M_Pending_init (k - 1 - 4) 14 [qr 8 (some l0), qi l1, qi (l2 + 1)] [] g3 (zV Z)))) : nnWP X M_Pending_init k 14 [qr 8 (some l0), qi l1, qi l2] [] g (zV Z) := by
  refine wp_iload_n (i := 2) (x := l2) (dz dl_Pending_init_0 8 14 (.iload_n 2) 1 rfl) rfl rfl ?_
  refine wp_iload_n (i := 1) (x := l1) (dz dl_Pending_init_0 9 15 (.iload_n 1) 1 rfl) rfl rfl ?_
  refine wp_icmp_ge (tgt := 38) (dz dl_Pending_init_0 10 16 (.if_icmp .ge (22)) 3 rfl) (by decide) (fun hc => ?_) (fun hc => ?_)
  · replace h := h.1 hc
    exact wp_rt none (rt_V rfl (dz dl_Pending_init_0 20 38 (.return_) 1 rfl)) ⟨rfl, h⟩
  · replace h := h.2 hc
    refine wp_aload_n (i := 0) (v := qr 8 (some l0)) (dz dl_Pending_init_0 11 19 (.aload_n 0) 1 rfl) rfl rfl trivial ?_
    obtain ⟨m1, n1, h⟩ := h
    refine wp_getA l0 m1 (dz dl_Pending_init_0 12 20 (.getfield 9) 3 rfl) lk_Pending_9 (q := 1) kd_512 rfl rfl n1 ?_
    refine wp_iload_n (i := 2) (x := l2) (dz dl_Pending_init_0 13 23 (.iload_n 2) 1 rfl) rfl rfl ?_
    obtain ⟨u1, h⟩ := h
    have h := h _ rfl
    refine wp_new 1 (dz dl_Pending_init_0 14 24 (.new 7) 3 rfl) (by decide) wc_Pending_7 wi_2 wn_2 ⟨by decide, by decide⟩ rfl u1 ?_
    refine wp_dup (dz dl_Pending_init_0 15 27 (.dup) 1 rfl) ?_
    obtain ⟨u2, h⟩ := h
    refine wp_callI (gC g 2) 4 [] [qr 2 (some (gC g 2)), qi l2, qa 512 l0] (dz dl_Pending_init_0 16 28 (.invokespecial 15) 3 rfl) ok_Entry_init rfl rfl lm_Pending_15 ws_Entry_init ⟨Nat.le_of_ble_eq_true rfl, Nat.le_of_ble_eq_true rfl⟩ pn_Entry_init (Nat.le_of_ble_eq_true rfl) (Nat.le_of_ble_eq_true rfl) rfl (Or.inl rfl) u2 (mt_mono h ?_)
    rintro _ g2 ⟨rfl, h⟩ y1
    replace h := h y1.1
    show nnWP _ _ _ _ _ [qr 2 (some (gC g 2)), qi l2, qa 512 l0] _ _
    obtain ⟨i1, h⟩ := h
    have h := h _ rfl
    refine wp_aast m1 (dz dl_Pending_init_0 17 31 (.aastore) 1 rfl) kd_512 (by decide) (y1.1.2 _ _ _ (gA_pN_ne (by decide) n1)) i1 rfl ?_
    refine wp_iinc (i := 2) (v := l2 + 1) (dz dl_Pending_init_0 18 32 (.iinc 2 (1)) 3 rfl) rfl (congrArg (fun z => l2 + z) (by decide)) [qr 8 (some l0), qi l1, qi (l2 + 1)] (by decide) rfl ?_
    refine wp_goto (tgt := 14) (dz dl_Pending_init_0 19 35 (.goto (-21)) 3 rfl) (by decide) ?_
    exact wp_cut h ⟨Or.inr rfl, Or.inr rfl, Or.inr rfl, trivial⟩

theorem b_Pending_at_0 {X : Nat × (Nat → Int32)} {k : Nat} {g : sg} {l0 : Nat} {l1 : Int32} {Z : Option Nat → sg → Prop} (h : (l1 < 0 → Z none g) ∧ (¬ l1 < 0 → ((gI g 513 l0 0) ≤ l1 → Z none g) ∧ (¬ (gI g 513 l0 0) ≤ l1 → ∃ m1, gA g 512 l0 = some m1 ∧ vp_in l1 m1 ∧ Z (gR g 512 l0 l1.toNatClampNeg) g))) : nnWP X M_Pending_at k 0 [qr 8 (some l0), qi l1] [] g (zR 2 Z) := by
  refine wp_iload_n (i := 1) (x := l1) (dz dl_Pending_at_0 0 0 (.iload_n 1) 1 rfl) rfl rfl ?_
  refine wp_if_lt (tgt := 21) (dz dl_Pending_at_0 1 1 (.ifCond .lt (20)) 3 rfl) (by decide) (fun hc => ?_) (fun hc => ?_)
  · replace h := h.1 hc
    refine wp_null 2 (dz dl_Pending_at_0 11 21 (.aconst_null) 1 rfl) ?_
    exact wp_rt (qr 2 _) (rt_R rfl (dz dl_Pending_at_0 12 22 (.areturn) 1 rfl)) ⟨_, rfl, h⟩
  · replace h := h.2 hc
    refine wp_iload_n (i := 1) (x := l1) (dz dl_Pending_at_0 2 4 (.iload_n 1) 1 rfl) rfl rfl ?_
    refine wp_aload_n (i := 0) (v := qr 8 (some l0)) (dz dl_Pending_at_0 3 5 (.aload_n 0) 1 rfl) rfl rfl trivial ?_
    refine wp_getI l0 (dz dl_Pending_at_0 4 6 (.getfield 16) 3 rfl) lk_Pending_16 kd_513 rfl rfl ?_
    refine wp_icmp_ge (tgt := 21) (dz dl_Pending_at_0 5 9 (.if_icmp .ge (12)) 3 rfl) (by decide) (fun hc => ?_) (fun hc => ?_)
    · replace h := h.1 hc
      refine wp_null 2 (dz dl_Pending_at_0 11 21 (.aconst_null) 1 rfl) ?_
      exact wp_rt (qr 2 _) (rt_R rfl (dz dl_Pending_at_0 12 22 (.areturn) 1 rfl)) ⟨_, rfl, h⟩
    · replace h := h.2 hc
      refine wp_aload_n (i := 0) (v := qr 8 (some l0)) (dz dl_Pending_at_0 6 12 (.aload_n 0) 1 rfl) rfl rfl trivial ?_
      obtain ⟨m1, n1, h⟩ := h
      refine wp_getA l0 m1 (dz dl_Pending_at_0 7 13 (.getfield 9) 3 rfl) lk_Pending_9 (q := 1) kd_512 rfl rfl n1 ?_
      refine wp_iload_n (i := 1) (x := l1) (dz dl_Pending_at_0 8 16 (.iload_n 1) 1 rfl) rfl rfl ?_
      obtain ⟨i1, h⟩ := h
      refine wp_aald m1 (dz dl_Pending_at_0 9 17 (.aaload) 1 rfl) kd_512 n1 i1 ?_
      refine wp_goto (tgt := 22) (dz dl_Pending_at_0 10 18 (.goto (4)) 3 rfl) (by decide) ?_
      exact wp_rt (qr 2 _) (rt_R rfl (dz dl_Pending_at_0 12 22 (.areturn) 1 rfl)) ⟨_, rfl, h⟩
theorem t_Pending_at {X : Nat × (Nat → Int32)} {k : Nat} {g : sg} {l0 : Nat} {l1 : Int32} {Z : Option Nat → sg → Prop} (h : (l1 < 0 → Z none g) ∧ (¬ l1 < 0 → ((gI g 513 l0 0) ≤ l1 → Z none g) ∧ (¬ (gI g 513 l0 0) ≤ l1 → ∃ m1, gA g 512 l0 = some m1 ∧ vp_in l1 m1 ∧ Z (gR g 512 l0 l1.toNatClampNeg) g))) : nnMT X M_Pending_at k [qr 8 (some l0), qi l1] g (zR 2 Z) := b_Pending_at_0 h

theorem b_Pending_find_0 {X : Nat × (Nat → Int32)} {k : Nat} {g : sg} {l0 : Nat} {l1 : Int32} {l2 : Int32} {Z : Option Nat → sg → Prop} (h : nnWP X M_Pending_find k 2 [qr 8 (some l0), qi l1, qi l2, qi (0 : Int32)] [] g (zR 2 Z)) : nnWP X M_Pending_find k 0 [qr 8 (some l0), qi l1, qi l2, none] [] g (zR 2 Z) := by
  refine wp_iconst (dz dl_Pending_find_0 0 0 (.iconst (0)) 1 rfl) (v := (0 : Int32)) (by decide) ?_
  refine wp_istore_n (i := 3) (dz dl_Pending_find_0 1 1 (.istore_n 3) 1 rfl) rfl [qr 8 (some l0), qi l1, qi l2, qi (0 : Int32)] (by decide) rfl ?_
  exact wp_cut h ⟨Or.inr rfl, Or.inr rfl, Or.inr rfl, Or.inr rfl, trivial⟩
theorem t_Pending_find {X : Nat × (Nat → Int32)} {k : Nat} {g : sg} {l0 : Nat} {l1 : Int32} {l2 : Int32} {Z : Option Nat → sg → Prop} (h : nnWP X M_Pending_find k 2 [qr 8 (some l0), qi l1, qi l2, qi (0 : Int32)] [] g (zR 2 Z)) : nnMT X M_Pending_find k [qr 8 (some l0), qi l1, qi l2] g (zR 2 Z) := b_Pending_find_0 h

theorem b_Pending_find_2 {X : Nat × (Nat → Int32)} {k : Nat} {g : sg} {l0 : Nat} {l1 : Int32} {l2 : Int32} {l3 : Int32} {Z : Option Nat → sg → Prop} (h : ((gI g 513 l0 0) ≤ l3 → Z none g) ∧ (¬ (gI g 513 l0 0) ≤ l3 → ∃ m1, gA g 512 l0 = some m1 ∧ vp_in l3 m1 ∧ ∃ a1, gR g 512 l0 l3.toNatClampNeg = some a1 ∧ (¬ (gI g 128 a1 0) = l1 → nnWP X M_Pending_find k 2 [qr 8 (some l0), qi l1, qi l2, qi (l3 + 1)] [] g (zR 2 Z)) ∧ ((gI g 128 a1 0) = l1 → (¬ (gI g 129 a1 0) = l2 → nnWP X M_Pending_find k 2 [qr 8 (some l0), qi l1, qi l2, qi (l3 + 1)] [] g (zR 2 Z)) ∧ ((gI g 129 a1 0) = l2 → Z (gR g 512 l0 l3.toNatClampNeg) g)))) : nnWP X M_Pending_find k 2 [qr 8 (some l0), qi l1, qi l2, qi l3] [] g (zR 2 Z) := by
  refine wp_iload_n (i := 3) (x := l3) (dz dl_Pending_find_0 2 2 (.iload_n 3) 1 rfl) rfl rfl ?_
  refine wp_aload_n (i := 0) (v := qr 8 (some l0)) (dz dl_Pending_find_0 3 3 (.aload_n 0) 1 rfl) rfl rfl trivial ?_
  refine wp_getI l0 (dz dl_Pending_find_0 4 4 (.getfield 16) 3 rfl) lk_Pending_16 kd_513 rfl rfl ?_
  refine wp_icmp_ge (tgt := 49) (dz dl_Pending_find_0 5 7 (.if_icmp .ge (42)) 3 rfl) (by decide) (fun hc => ?_) (fun hc => ?_)
  · replace h := h.1 hc
    refine wp_null 2 (dz dl_Pending_find_0 27 49 (.aconst_null) 1 rfl) ?_
    exact wp_rt (qr 2 _) (rt_R rfl (dz dl_Pending_find_0 28 50 (.areturn) 1 rfl)) ⟨_, rfl, h⟩
  · replace h := h.2 hc
    refine wp_aload_n (i := 0) (v := qr 8 (some l0)) (dz dl_Pending_find_0 6 10 (.aload_n 0) 1 rfl) rfl rfl trivial ?_
    obtain ⟨m1, n1, h⟩ := h
    refine wp_getA l0 m1 (dz dl_Pending_find_0 7 11 (.getfield 9) 3 rfl) lk_Pending_9 (q := 1) kd_512 rfl rfl n1 ?_
    refine wp_iload_n (i := 3) (x := l3) (dz dl_Pending_find_0 8 14 (.iload_n 3) 1 rfl) rfl rfl ?_
    obtain ⟨i1, h⟩ := h
    refine wp_aald m1 (dz dl_Pending_find_0 9 15 (.aaload) 1 rfl) kd_512 n1 i1 ?_
    obtain ⟨a1, e1, h⟩ := h
    refine wp_getI a1 (dz dl_Pending_find_0 10 16 (.getfield 20) 3 rfl) lk_Pending_20 kd_128 rfl e1 ?_
    refine wp_iload_n (i := 1) (x := l1) (dz dl_Pending_find_0 11 19 (.iload_n 1) 1 rfl) rfl rfl ?_
    refine wp_icmp_ne (tgt := 43) (dz dl_Pending_find_0 12 20 (.if_icmp .ne (23)) 3 rfl) (by decide) (fun hc => ?_) (fun hc => ?_)
    · replace h := h.1 hc
      refine wp_iinc (i := 3) (v := l3 + 1) (dz dl_Pending_find_0 25 43 (.iinc 3 (1)) 3 rfl) rfl (congrArg (fun z => l3 + z) (by decide)) [qr 8 (some l0), qi l1, qi l2, qi (l3 + 1)] (by decide) rfl ?_
      refine wp_goto (tgt := 2) (dz dl_Pending_find_0 26 46 (.goto (-44)) 3 rfl) (by decide) ?_
      exact wp_cut h ⟨Or.inr rfl, Or.inr rfl, Or.inr rfl, Or.inr rfl, trivial⟩
    · replace h := h.2 hc
      refine wp_aload_n (i := 0) (v := qr 8 (some l0)) (dz dl_Pending_find_0 13 23 (.aload_n 0) 1 rfl) rfl rfl trivial ?_
      refine wp_getA l0 m1 (dz dl_Pending_find_0 14 24 (.getfield 9) 3 rfl) lk_Pending_9 (q := 1) kd_512 rfl rfl n1 ?_
      refine wp_iload_n (i := 3) (x := l3) (dz dl_Pending_find_0 15 27 (.iload_n 3) 1 rfl) rfl rfl ?_
      refine wp_aald m1 (dz dl_Pending_find_0 16 28 (.aaload) 1 rfl) kd_512 n1 i1 ?_
      refine wp_getI a1 (dz dl_Pending_find_0 17 29 (.getfield 23) 3 rfl) lk_Pending_23 kd_129 rfl e1 ?_
      refine wp_iload_n (i := 2) (x := l2) (dz dl_Pending_find_0 18 32 (.iload_n 2) 1 rfl) rfl rfl ?_
      refine wp_icmp_ne (tgt := 43) (dz dl_Pending_find_0 19 33 (.if_icmp .ne (10)) 3 rfl) (by decide) (fun hc => ?_) (fun hc => ?_)
      · replace h := h.1 hc
        refine wp_iinc (i := 3) (v := l3 + 1) (dz dl_Pending_find_0 25 43 (.iinc 3 (1)) 3 rfl) rfl (congrArg (fun z => l3 + z) (by decide)) [qr 8 (some l0), qi l1, qi l2, qi (l3 + 1)] (by decide) rfl ?_
        refine wp_goto (tgt := 2) (dz dl_Pending_find_0 26 46 (.goto (-44)) 3 rfl) (by decide) ?_
        exact wp_cut h ⟨Or.inr rfl, Or.inr rfl, Or.inr rfl, Or.inr rfl, trivial⟩
      · replace h := h.2 hc
        refine wp_aload_n (i := 0) (v := qr 8 (some l0)) (dz dl_Pending_find_0 20 36 (.aload_n 0) 1 rfl) rfl rfl trivial ?_
        refine wp_getA l0 m1 (dz dl_Pending_find_0 21 37 (.getfield 9) 3 rfl) lk_Pending_9 (q := 1) kd_512 rfl rfl n1 ?_
        refine wp_iload_n (i := 3) (x := l3) (dz dl_Pending_find_0 22 40 (.iload_n 3) 1 rfl) rfl rfl ?_
        refine wp_aald m1 (dz dl_Pending_find_0 23 41 (.aaload) 1 rfl) kd_512 n1 i1 ?_
        exact wp_rt (qr 2 _) (rt_R rfl (dz dl_Pending_find_0 24 42 (.areturn) 1 rfl)) ⟨_, rfl, h⟩

theorem b_Pending_make_0 {X : Nat × (Nat → Int32)} {k : Nat} {g : sg} {l0 : Nat} {l1 : Int32} {l2 : Int32} {Z : Option Nat → sg → Prop} (h : ∃ m1, gA g 512 l0 = some m1 ∧ ((gI g 513 l0 0) < (nI m1) → vp_in (gI g 513 l0 0) m1 ∧ ∃ a1, gR g 512 l0 (gI g 513 l0 0).toNatClampNeg = some a1 ∧ nnMT X M_Entry_begin 0 [qr 2 (some a1), qi l1, qi l2] g (zV fun g1 => gExt g g1 → ∀ g2, g2 = pI g1 513 l0 0 ((gI g1 513 l0 0) + (1 : Int32)) → Z (gR g 512 l0 (gI g 513 l0 0).toNatClampNeg) g2)) ∧ (¬ (gI g 513 l0 0) < (nI m1) → Z none g)) : nnWP X M_Pending_make k 0 [qr 8 (some l0), qi l1, qi l2, none] [] g (zR 2 Z) := by
  refine wp_aload_n (i := 0) (v := qr 8 (some l0)) (dz dl_Pending_make_0 0 0 (.aload_n 0) 1 rfl) rfl rfl trivial ?_
  refine wp_getI l0 (dz dl_Pending_make_0 1 1 (.getfield 16) 3 rfl) lk_Pending_16 kd_513 rfl rfl ?_
  refine wp_aload_n (i := 0) (v := qr 8 (some l0)) (dz dl_Pending_make_0 2 4 (.aload_n 0) 1 rfl) rfl rfl trivial ?_
  obtain ⟨m1, n1, h⟩ := h
  refine wp_getA l0 m1 (dz dl_Pending_make_0 3 5 (.getfield 9) 3 rfl) lk_Pending_9 (q := 1) kd_512 rfl rfl n1 ?_
  refine wp_alen m1 (dz dl_Pending_make_0 4 8 (.arraylength) 1 rfl) n1 ?_
  refine wp_icmp_lt (tgt := 14) (dz dl_Pending_make_0 5 9 (.if_icmp .lt (5)) 3 rfl) (by decide) (fun hc => ?_) (fun hc => ?_)
  · replace h := h.1 hc
    refine wp_aload_n (i := 0) (v := qr 8 (some l0)) (dz dl_Pending_make_0 8 14 (.aload_n 0) 1 rfl) rfl rfl trivial ?_
    refine wp_getA l0 m1 (dz dl_Pending_make_0 9 15 (.getfield 9) 3 rfl) lk_Pending_9 (q := 1) kd_512 rfl rfl n1 ?_
    refine wp_aload_n (i := 0) (v := qr 8 (some l0)) (dz dl_Pending_make_0 10 18 (.aload_n 0) 1 rfl) rfl rfl trivial ?_
    refine wp_getI l0 (dz dl_Pending_make_0 11 19 (.getfield 16) 3 rfl) lk_Pending_16 kd_513 rfl rfl ?_
    obtain ⟨i1, h⟩ := h
    refine wp_aald m1 (dz dl_Pending_make_0 12 22 (.aaload) 1 rfl) kd_512 n1 i1 ?_
    refine wp_astore_n (i := 3) (dz dl_Pending_make_0 13 23 (.astore_n 3) 1 rfl) rfl [qr 8 (some l0), qi l1, qi l2, qr 2 (gR g 512 l0 (gI g 513 l0 0).toNatClampNeg)] (by decide) trivial rfl ?_
    refine wp_aload_n (i := 3) (v := qr 2 (gR g 512 l0 (gI g 513 l0 0).toNatClampNeg)) (dz dl_Pending_make_0 14 24 (.aload_n 3) 1 rfl) rfl rfl trivial ?_
    refine wp_iload_n (i := 1) (x := l1) (dz dl_Pending_make_0 15 25 (.iload_n 1) 1 rfl) rfl rfl ?_
    refine wp_iload_n (i := 2) (x := l2) (dz dl_Pending_make_0 16 26 (.iload_n 2) 1 rfl) rfl rfl ?_
    obtain ⟨a1, e1, h⟩ := h
    refine wp_callV a1 0 [qi l1, qi l2] [] (dz dl_Pending_make_0 17 27 (.invokevirtual 26) 3 rfl) ok_Entry_begin lm_Pending_26 (by decide) ws_Entry_begin wv_Entry_begin ⟨Nat.le_of_ble_eq_true rfl, Nat.le_of_ble_eq_true rfl⟩ pn_Entry_begin (Nat.le_of_ble_eq_true rfl) (Nat.le_of_ble_eq_true rfl) e1 (Or.inl rfl) (Nat.zero_le _) (mt_mono h ?_)
    rintro _ g1 ⟨rfl, h⟩ y1
    replace h := h y1.1
    show nnWP _ _ _ _ _ [] _ _
    refine wp_aload_n (i := 0) (v := qr 8 (some l0)) (dz dl_Pending_make_0 18 30 (.aload_n 0) 1 rfl) rfl rfl trivial ?_
    refine wp_dup (dz dl_Pending_make_0 19 31 (.dup) 1 rfl) ?_
    refine wp_getI l0 (dz dl_Pending_make_0 20 32 (.getfield 16) 3 rfl) lk_Pending_16 kd_513 rfl rfl ?_
    refine wp_iconst (dz dl_Pending_make_0 21 35 (.iconst (1)) 1 rfl) (v := (1 : Int32)) (by decide) ?_
    refine wp_iadd (dz dl_Pending_make_0 22 36 (.iadd) 1 rfl) ?_
    have h := h _ rfl
    refine wp_putI l0 (dz dl_Pending_make_0 23 37 (.putfield 16) 3 rfl) lk_Pending_16 kd_513 rfl rfl rfl (okI_0 _) rfl ?_
    refine wp_aload_n (i := 3) (v := qr 2 (gR g 512 l0 (gI g 513 l0 0).toNatClampNeg)) (dz dl_Pending_make_0 24 40 (.aload_n 3) 1 rfl) rfl rfl trivial ?_
    exact wp_rt (qr 2 _) (rt_R rfl (dz dl_Pending_make_0 25 41 (.areturn) 1 rfl)) ⟨_, rfl, h⟩
  · replace h := h.2 hc
    refine wp_null 2 (dz dl_Pending_make_0 6 12 (.aconst_null) 1 rfl) ?_
    exact wp_rt (qr 2 _) (rt_R rfl (dz dl_Pending_make_0 7 13 (.areturn) 1 rfl)) ⟨_, rfl, h⟩
theorem t_Pending_make {X : Nat × (Nat → Int32)} {k : Nat} {g : sg} {l0 : Nat} {l1 : Int32} {l2 : Int32} {Z : Option Nat → sg → Prop} (h : ∃ m1, gA g 512 l0 = some m1 ∧ ((gI g 513 l0 0) < (nI m1) → vp_in (gI g 513 l0 0) m1 ∧ ∃ a1, gR g 512 l0 (gI g 513 l0 0).toNatClampNeg = some a1 ∧ nnMT X M_Entry_begin 0 [qr 2 (some a1), qi l1, qi l2] g (zV fun g1 => gExt g g1 → ∀ g2, g2 = pI g1 513 l0 0 ((gI g1 513 l0 0) + (1 : Int32)) → Z (gR g 512 l0 (gI g 513 l0 0).toNatClampNeg) g2)) ∧ (¬ (gI g 513 l0 0) < (nI m1) → Z none g)) : nnMT X M_Pending_make k [qr 8 (some l0), qi l1, qi l2] g (zR 2 Z) := b_Pending_make_0 h

theorem b_Pending_takeOut_0 {X : Nat × (Nat → Int32)} {k : Nat} {g : sg} {l0 : Nat} {l1 : Option Nat} {Z : sg → Prop} (h : nnWP X M_Pending_takeOut k 4 [qr 8 (some l0), qr 2 l1, qi (0 : Int32), qi (0 : Int32)] [] g (zV Z)) : nnWP X M_Pending_takeOut k 0 [qr 8 (some l0), qr 2 l1, none, none] [] g (zV Z) := by
  refine wp_iconst (dz dl_Pending_takeOut_0 0 0 (.iconst (0)) 1 rfl) (v := (0 : Int32)) (by decide) ?_
  refine wp_istore_n (i := 2) (dz dl_Pending_takeOut_0 1 1 (.istore_n 2) 1 rfl) rfl [qr 8 (some l0), qr 2 l1, qi (0 : Int32), none] (by decide) rfl ?_
  refine wp_iconst (dz dl_Pending_takeOut_0 2 2 (.iconst (0)) 1 rfl) (v := (0 : Int32)) (by decide) ?_
  refine wp_istore_n (i := 3) (dz dl_Pending_takeOut_0 3 3 (.istore_n 3) 1 rfl) rfl [qr 8 (some l0), qr 2 l1, qi (0 : Int32), qi (0 : Int32)] (by decide) rfl ?_
  exact wp_cut h ⟨Or.inr rfl, Or.inr rfl, Or.inr rfl, Or.inr rfl, trivial⟩
theorem t_Pending_takeOut {X : Nat × (Nat → Int32)} {k : Nat} {g : sg} {l0 : Nat} {l1 : Option Nat} {Z : sg → Prop} (h : nnWP X M_Pending_takeOut k 4 [qr 8 (some l0), qr 2 l1, qi (0 : Int32), qi (0 : Int32)] [] g (zV Z)) : nnMT X M_Pending_takeOut k [qr 8 (some l0), qr 2 l1] g (zV Z) := b_Pending_takeOut_0 h

theorem b_Pending_takeOut_4 {X : Nat × (Nat → Int32)} {k : Nat} {g : sg} {l0 : Nat} {l1 : Option Nat} {l2 : Int32} {l3 : Int32} {Z : sg → Prop} (h : ((gI g 513 l0 0) ≤ l3 → ((gI g 513 l0 0) ≤ l2 → Z g) ∧ (¬ (gI g 513 l0 0) ≤ l2 → ∀ g1, g1 = pI g 513 l0 0 l2 → ∃ m1, gA g1 512 l0 = some m1 ∧ vp_in (gI g1 513 l0 0) m1 ∧ ∀ g2, g2 = pR g1 512 l0 (gI g1 513 l0 0).toNatClampNeg l1 → Z g2)) ∧ (¬ (gI g 513 l0 0) ≤ l3 → ∃ m2, gA g 512 l0 = some m2 ∧ vp_in l3 m2 ∧ (gR g 512 l0 l3.toNatClampNeg = l1 → nnWP X M_Pending_takeOut k 4 [qr 8 (some l0), qr 2 l1, qi l2, qi (l3 + 1)] [] g (zV Z)) ∧ (¬ gR g 512 l0 l3.toNatClampNeg = l1 → vp_in l2 m2 ∧ ∀ g3, g3 = pR g 512 l0 l2.toNatClampNeg (gR g 512 l0 l3.toNatClampNeg) → nnWP X M_Pending_takeOut k 4 [qr 8 (some l0), qr 2 l1, qi (l2 + 1), qi (l3 + 1)] [] g3 (zV Z)))) : nnWP X M_Pending_takeOut k 4 [qr 8 (some l0), qr 2 l1, qi l2, qi l3] [] g (zV Z) := by
  refine wp_iload_n (i := 3) (x := l3) (dz dl_Pending_takeOut_0 4 4 (.iload_n 3) 1 rfl) rfl rfl ?_
  refine wp_aload_n (i := 0) (v := qr 8 (some l0)) (dz dl_Pending_takeOut_0 5 5 (.aload_n 0) 1 rfl) rfl rfl trivial ?_
  refine wp_getI l0 (dz dl_Pending_takeOut_0 6 6 (.getfield 16) 3 rfl) lk_Pending_16 kd_513 rfl rfl ?_
  refine wp_icmp_ge (tgt := 43) (dz dl_Pending_takeOut_0 7 9 (.if_icmp .ge (34)) 3 rfl) (by decide) (fun hc => ?_) (fun hc => ?_)
  · replace h := h.1 hc
    refine wp_iload_n (i := 2) (x := l2) (dz dl_Pending_takeOut_0 25 43 (.iload_n 2) 1 rfl) rfl rfl ?_
    refine wp_aload_n (i := 0) (v := qr 8 (some l0)) (dz dl_Pending_takeOut_0 26 44 (.aload_n 0) 1 rfl) rfl rfl trivial ?_
    refine wp_getI l0 (dz dl_Pending_takeOut_0 27 45 (.getfield 16) 3 rfl) lk_Pending_16 kd_513 rfl rfl ?_
    refine wp_icmp_ge (tgt := 66) (dz dl_Pending_takeOut_0 28 48 (.if_icmp .ge (18)) 3 rfl) (by decide) (fun hc => ?_) (fun hc => ?_)
    · replace h := h.1 hc
      exact wp_rt none (rt_V rfl (dz dl_Pending_takeOut_0 38 66 (.return_) 1 rfl)) ⟨rfl, h⟩
    · replace h := h.2 hc
      refine wp_aload_n (i := 0) (v := qr 8 (some l0)) (dz dl_Pending_takeOut_0 29 51 (.aload_n 0) 1 rfl) rfl rfl trivial ?_
      refine wp_iload_n (i := 2) (x := l2) (dz dl_Pending_takeOut_0 30 52 (.iload_n 2) 1 rfl) rfl rfl ?_
      have h := h _ rfl
      refine wp_putI l0 (dz dl_Pending_takeOut_0 31 53 (.putfield 16) 3 rfl) lk_Pending_16 kd_513 rfl rfl rfl (okI_0 _) rfl ?_
      refine wp_aload_n (i := 0) (v := qr 8 (some l0)) (dz dl_Pending_takeOut_0 32 56 (.aload_n 0) 1 rfl) rfl rfl trivial ?_
      obtain ⟨m1, n1, h⟩ := h
      refine wp_getA l0 m1 (dz dl_Pending_takeOut_0 33 57 (.getfield 9) 3 rfl) lk_Pending_9 (q := 1) kd_512 rfl rfl n1 ?_
      refine wp_aload_n (i := 0) (v := qr 8 (some l0)) (dz dl_Pending_takeOut_0 34 60 (.aload_n 0) 1 rfl) rfl rfl trivial ?_
      refine wp_getI l0 (dz dl_Pending_takeOut_0 35 61 (.getfield 16) 3 rfl) lk_Pending_16 kd_513 rfl rfl ?_
      refine wp_aload_n (i := 1) (v := qr 2 l1) (dz dl_Pending_takeOut_0 36 64 (.aload_n 1) 1 rfl) rfl rfl trivial ?_
      obtain ⟨i1, h⟩ := h
      have h := h _ rfl
      refine wp_aast m1 (dz dl_Pending_takeOut_0 37 65 (.aastore) 1 rfl) kd_512 (by decide) n1 i1 rfl ?_
      exact wp_rt none (rt_V rfl (dz dl_Pending_takeOut_0 38 66 (.return_) 1 rfl)) ⟨rfl, h⟩
  · replace h := h.2 hc
    refine wp_aload_n (i := 0) (v := qr 8 (some l0)) (dz dl_Pending_takeOut_0 8 12 (.aload_n 0) 1 rfl) rfl rfl trivial ?_
    obtain ⟨m2, n2, h⟩ := h
    refine wp_getA l0 m2 (dz dl_Pending_takeOut_0 9 13 (.getfield 9) 3 rfl) lk_Pending_9 (q := 1) kd_512 rfl rfl n2 ?_
    refine wp_iload_n (i := 3) (x := l3) (dz dl_Pending_takeOut_0 10 16 (.iload_n 3) 1 rfl) rfl rfl ?_
    obtain ⟨i2, h⟩ := h
    refine wp_aald m2 (dz dl_Pending_takeOut_0 11 17 (.aaload) 1 rfl) kd_512 n2 i2 ?_
    refine wp_aload_n (i := 1) (v := qr 2 l1) (dz dl_Pending_takeOut_0 12 18 (.aload_n 1) 1 rfl) rfl rfl trivial ?_
    refine wp_acmp_eq (tgt := 37) (dz dl_Pending_takeOut_0 13 19 (.if_acmp .eq (18)) 3 rfl) (by decide) (fun hc => ?_) (fun hc => ?_)
    · replace h := h.1 hc
      refine wp_iinc (i := 3) (v := l3 + 1) (dz dl_Pending_takeOut_0 23 37 (.iinc 3 (1)) 3 rfl) rfl (congrArg (fun z => l3 + z) (by decide)) [qr 8 (some l0), qr 2 l1, qi l2, qi (l3 + 1)] (by decide) rfl ?_
      refine wp_goto (tgt := 4) (dz dl_Pending_takeOut_0 24 40 (.goto (-36)) 3 rfl) (by decide) ?_
      exact wp_cut h ⟨Or.inr rfl, Or.inr rfl, Or.inr rfl, Or.inr rfl, trivial⟩
    · replace h := h.2 hc
      refine wp_aload_n (i := 0) (v := qr 8 (some l0)) (dz dl_Pending_takeOut_0 14 22 (.aload_n 0) 1 rfl) rfl rfl trivial ?_
      refine wp_getA l0 m2 (dz dl_Pending_takeOut_0 15 23 (.getfield 9) 3 rfl) lk_Pending_9 (q := 1) kd_512 rfl rfl n2 ?_
      refine wp_iload_n (i := 2) (x := l2) (dz dl_Pending_takeOut_0 16 26 (.iload_n 2) 1 rfl) rfl rfl ?_
      refine wp_aload_n (i := 0) (v := qr 8 (some l0)) (dz dl_Pending_takeOut_0 17 27 (.aload_n 0) 1 rfl) rfl rfl trivial ?_
      refine wp_getA l0 m2 (dz dl_Pending_takeOut_0 18 28 (.getfield 9) 3 rfl) lk_Pending_9 (q := 1) kd_512 rfl rfl n2 ?_
      refine wp_iload_n (i := 3) (x := l3) (dz dl_Pending_takeOut_0 19 31 (.iload_n 3) 1 rfl) rfl rfl ?_
      refine wp_aald m2 (dz dl_Pending_takeOut_0 20 32 (.aaload) 1 rfl) kd_512 n2 i2 ?_
      obtain ⟨i3, h⟩ := h
      have h := h _ rfl
      refine wp_aast m2 (dz dl_Pending_takeOut_0 21 33 (.aastore) 1 rfl) kd_512 (by decide) n2 i3 rfl ?_
      refine wp_iinc (i := 2) (v := l2 + 1) (dz dl_Pending_takeOut_0 22 34 (.iinc 2 (1)) 3 rfl) rfl (congrArg (fun z => l2 + z) (by decide)) [qr 8 (some l0), qr 2 l1, qi (l2 + 1), qi l3] (by decide) rfl ?_
      refine wp_iinc (i := 3) (v := l3 + 1) (dz dl_Pending_takeOut_0 23 37 (.iinc 3 (1)) 3 rfl) rfl (congrArg (fun z => l3 + z) (by decide)) [qr 8 (some l0), qr 2 l1, qi (l2 + 1), qi (l3 + 1)] (by decide) rfl ?_
      refine wp_goto (tgt := 4) (dz dl_Pending_takeOut_0 24 40 (.goto (-36)) 3 rfl) (by decide) ?_
      exact wp_cut h ⟨Or.inr rfl, Or.inr rfl, Or.inr rfl, Or.inr rfl, trivial⟩

theorem b_Pending_dropEnded_0 {X : Nat × (Nat → Int32)} {k : Nat} {g : sg} {l0 : Nat} {l1 : Int32} {Z : Int32 → sg → Prop} (h : nnWP X M_Pending_dropEnded k 9 [qr 8 (some l0), qi l1, qi (gI g 513 l0 0), qi ((gI g 513 l0 0) - (1 : Int32))] [] g (zI Z)) : nnWP X M_Pending_dropEnded k 0 [qr 8 (some l0), qi l1, none, none] [] g (zI Z) := by
  refine wp_aload_n (i := 0) (v := qr 8 (some l0)) (dz dl_Pending_dropEnded_0 0 0 (.aload_n 0) 1 rfl) rfl rfl trivial ?_
  refine wp_getI l0 (dz dl_Pending_dropEnded_0 1 1 (.getfield 16) 3 rfl) lk_Pending_16 kd_513 rfl rfl ?_
  refine wp_istore_n (i := 2) (dz dl_Pending_dropEnded_0 2 4 (.istore_n 2) 1 rfl) rfl [qr 8 (some l0), qi l1, qi (gI g 513 l0 0), none] (by decide) rfl ?_
  refine wp_iload_n (i := 2) (x := gI g 513 l0 0) (dz dl_Pending_dropEnded_0 3 5 (.iload_n 2) 1 rfl) rfl rfl ?_
  refine wp_iconst (dz dl_Pending_dropEnded_0 4 6 (.iconst (1)) 1 rfl) (v := (1 : Int32)) (by decide) ?_
  refine wp_isub (dz dl_Pending_dropEnded_0 5 7 (.isub) 1 rfl) ?_
  refine wp_istore_n (i := 3) (dz dl_Pending_dropEnded_0 6 8 (.istore_n 3) 1 rfl) rfl [qr 8 (some l0), qi l1, qi (gI g 513 l0 0), qi ((gI g 513 l0 0) - (1 : Int32))] (by decide) rfl ?_
  exact wp_cut h ⟨Or.inr rfl, Or.inr rfl, Or.inr rfl, Or.inr rfl, trivial⟩
theorem t_Pending_dropEnded {X : Nat × (Nat → Int32)} {k : Nat} {g : sg} {l0 : Nat} {l1 : Int32} {Z : Int32 → sg → Prop} (h : nnWP X M_Pending_dropEnded k 9 [qr 8 (some l0), qi l1, qi (gI g 513 l0 0), qi ((gI g 513 l0 0) - (1 : Int32))] [] g (zI Z)) : nnMT X M_Pending_dropEnded k [qr 8 (some l0), qi l1] g (zI Z) := b_Pending_dropEnded_0 h

theorem b_Pending_dropEnded_9 {X : Nat × (Nat → Int32)} {k : Nat} {g : sg} {l0 : Nat} {l1 : Int32} {l2 : Int32} {l3 : Int32} {Z : Int32 → sg → Prop} (h : (l3 < 0 → Z (l2 - (gI g 513 l0 0)) g) ∧ (¬ l3 < 0 → ∃ m1, gA g 512 l0 = some m1 ∧ vp_in l3 m1 ∧ ∃ a1, gR g 512 l0 l3.toNatClampNeg = some a1 ∧ nnMT X M_Entry_dropAsksEnded 0 [qr 2 (some a1), qi l1] g (zI fun r1 g1 => gExt g g1 → (¬ r1 = 0 → nnWP X M_Pending_dropEnded k 9 [qr 8 (some l0), qi l1, qi l2, qi (l3 + (-1))] [] g1 (zI Z)) ∧ (r1 = 0 → nnMT X M_Pending_takeOut 0 [qr 8 (some l0), qr 2 (gR g1 512 l0 l3.toNatClampNeg)] g1 (zV fun g2 => gExt g1 g2 → nnWP X M_Pending_dropEnded k 9 [qr 8 (some l0), qi l1, qi l2, qi (l3 + (-1))] [] g2 (zI Z)))))) : nnWP X M_Pending_dropEnded k 9 [qr 8 (some l0), qi l1, qi l2, qi l3] [] g (zI Z) := by
  refine wp_iload_n (i := 3) (x := l3) (dz dl_Pending_dropEnded_0 7 9 (.iload_n 3) 1 rfl) rfl rfl ?_
  refine wp_if_lt (tgt := 42) (dz dl_Pending_dropEnded_0 8 10 (.ifCond .lt (32)) 3 rfl) (by decide) (fun hc => ?_) (fun hc => ?_)
  · replace h := h.1 hc
    refine wp_iload_n (i := 2) (x := l2) (dz dl_Pending_dropEnded_0 24 42 (.iload_n 2) 1 rfl) rfl rfl ?_
    refine wp_aload_n (i := 0) (v := qr 8 (some l0)) (dz dl_Pending_dropEnded_0 25 43 (.aload_n 0) 1 rfl) rfl rfl trivial ?_
    refine wp_getI l0 (dz dl_Pending_dropEnded_0 26 44 (.getfield 16) 3 rfl) lk_Pending_16 kd_513 rfl rfl ?_
    refine wp_isub (dz dl_Pending_dropEnded_0 27 47 (.isub) 1 rfl) ?_
    exact wp_rt (qi _) (rt_I rfl (dz dl_Pending_dropEnded_0 28 48 (.ireturn) 1 rfl)) ⟨_, rfl, h⟩
  · replace h := h.2 hc
    refine wp_aload_n (i := 0) (v := qr 8 (some l0)) (dz dl_Pending_dropEnded_0 9 13 (.aload_n 0) 1 rfl) rfl rfl trivial ?_
    obtain ⟨m1, n1, h⟩ := h
    refine wp_getA l0 m1 (dz dl_Pending_dropEnded_0 10 14 (.getfield 9) 3 rfl) lk_Pending_9 (q := 1) kd_512 rfl rfl n1 ?_
    refine wp_iload_n (i := 3) (x := l3) (dz dl_Pending_dropEnded_0 11 17 (.iload_n 3) 1 rfl) rfl rfl ?_
    obtain ⟨i1, h⟩ := h
    refine wp_aald m1 (dz dl_Pending_dropEnded_0 12 18 (.aaload) 1 rfl) kd_512 n1 i1 ?_
    refine wp_iload_n (i := 1) (x := l1) (dz dl_Pending_dropEnded_0 13 19 (.iload_n 1) 1 rfl) rfl rfl ?_
    obtain ⟨a1, e1, h⟩ := h
    refine wp_callV a1 0 [qi l1] [] (dz dl_Pending_dropEnded_0 14 20 (.invokevirtual 30) 3 rfl) ok_Entry_dropAsksEnded lm_Pending_30 (by decide) ws_Entry_dropAsksEnded wv_Entry_dropAsksEnded ⟨Nat.le_of_ble_eq_true rfl, Nat.le_of_ble_eq_true rfl⟩ pn_Entry_dropAsksEnded (Nat.le_of_ble_eq_true rfl) (Nat.le_of_ble_eq_true rfl) e1 (Or.inl rfl) (Nat.zero_le _) (mt_mono h ?_)
    rintro _ g1 ⟨r1, rfl, h⟩ y1
    replace h := h y1.1
    show nnWP _ _ _ _ _ [qi r1] _ _
    refine wp_if_ne (tgt := 36) (dz dl_Pending_dropEnded_0 15 23 (.ifCond .ne (13)) 3 rfl) (by decide) (fun hc => ?_) (fun hc => ?_)
    · replace h := h.1 hc
      refine wp_iinc (i := 3) (v := l3 + (-1)) (dz dl_Pending_dropEnded_0 22 36 (.iinc 3 (-1)) 3 rfl) rfl (congrArg (fun z => l3 + z) (by decide)) [qr 8 (some l0), qi l1, qi l2, qi (l3 + (-1))] (by decide) rfl ?_
      refine wp_goto (tgt := 9) (dz dl_Pending_dropEnded_0 23 39 (.goto (-30)) 3 rfl) (by decide) ?_
      exact wp_cut h ⟨Or.inr rfl, Or.inr rfl, Or.inr rfl, Or.inr rfl, trivial⟩
    · replace h := h.2 hc
      refine wp_aload_n (i := 0) (v := qr 8 (some l0)) (dz dl_Pending_dropEnded_0 16 26 (.aload_n 0) 1 rfl) rfl rfl trivial ?_
      refine wp_aload_n (i := 0) (v := qr 8 (some l0)) (dz dl_Pending_dropEnded_0 17 27 (.aload_n 0) 1 rfl) rfl rfl trivial ?_
      refine wp_getA l0 m1 (dz dl_Pending_dropEnded_0 18 28 (.getfield 9) 3 rfl) lk_Pending_9 (q := 1) kd_512 rfl rfl (y1.1.2 _ _ _ n1) ?_
      refine wp_iload_n (i := 3) (x := l3) (dz dl_Pending_dropEnded_0 19 31 (.iload_n 3) 1 rfl) rfl rfl ?_
      refine wp_aald m1 (dz dl_Pending_dropEnded_0 20 32 (.aaload) 1 rfl) kd_512 (y1.1.2 _ _ _ n1) i1 ?_
      refine wp_callV l0 0 [qr 2 (gR g1 512 l0 l3.toNatClampNeg)] [] (dz dl_Pending_dropEnded_0 21 33 (.invokevirtual 34) 3 rfl) ok_Pending_takeOut lm_Pending_34 (by decide) ws_Pending_takeOut wv_Pending_takeOut ⟨Nat.le_of_ble_eq_true rfl, Nat.le_of_ble_eq_true rfl⟩ pn_Pending_takeOut (Nat.le_of_ble_eq_true rfl) (Nat.le_of_ble_eq_true rfl) rfl (Or.inl rfl) (Nat.zero_le _) (mt_mono h ?_)
      rintro _ g2 ⟨rfl, h⟩ y2
      replace h := h y2.1
      show nnWP _ _ _ _ _ [] _ _
      refine wp_iinc (i := 3) (v := l3 + (-1)) (dz dl_Pending_dropEnded_0 22 36 (.iinc 3 (-1)) 3 rfl) rfl (congrArg (fun z => l3 + z) (by decide)) [qr 8 (some l0), qi l1, qi l2, qi (l3 + (-1))] (by decide) rfl ?_
      refine wp_goto (tgt := 9) (dz dl_Pending_dropEnded_0 23 39 (.goto (-30)) 3 rfl) (by decide) ?_
      exact wp_cut h ⟨Or.inr rfl, Or.inr rfl, Or.inr rfl, Or.inr rfl, trivial⟩

theorem b_Request_init_0 {X : Nat × (Nat → Int32)} {k : Nat} {g : sg} {l0 : Nat} {l1 : Int32} {l2 : Int32} {l3 : Int32} {l4 : Int32} {Z : sg → Prop} (h : ∀ g1, g1 = pI g 580 l0 0 (0 : Int32) → ∀ g2, g2 = pI g1 576 l0 0 l1 → ∀ g3, g3 = pI g2 577 l0 0 l2 → ∀ g4, g4 = pI g3 578 l0 0 l3 → ∀ g5, g5 = pI g4 579 l0 0 l4 → Z g5) : nnWP X M_Request_init k 0 [qr 9 (some l0), qi l1, qi l2, qi l3, qi l4] [] g (zV Z) := by
  refine wp_aload_n (i := 0) (v := qr 9 (some l0)) (dz dl_Request_init_0 0 0 (.aload_n 0) 1 rfl) rfl rfl trivial ?_
  refine wp_objInit l0 (dz dl_Request_init_0 1 1 (.invokespecial 3) 3 rfl) wm_Request_3 w_oi w_oc (by decide) (by decide) (Nat.le_of_ble_eq_true rfl) rfl ?_
  refine wp_aload_n (i := 0) (v := qr 9 (some l0)) (dz dl_Request_init_0 2 4 (.aload_n 0) 1 rfl) rfl rfl trivial ?_
  refine wp_iconst (dz dl_Request_init_0 3 5 (.iconst (0)) 1 rfl) (v := (0 : Int32)) (by decide) ?_
  have h := h _ rfl
  refine wp_putI l0 (dz dl_Request_init_0 4 6 (.putfield 9) 3 rfl) lk_Request_9 kd_580 rfl rfl rfl (okI_0 _) rfl ?_
  refine wp_aload_n (i := 0) (v := qr 9 (some l0)) (dz dl_Request_init_0 5 9 (.aload_n 0) 1 rfl) rfl rfl trivial ?_
  refine wp_iload_n (i := 1) (x := l1) (dz dl_Request_init_0 6 10 (.iload_n 1) 1 rfl) rfl rfl ?_
  have h := h _ rfl
  refine wp_putIF l0 (dz dl_Request_init_0 7 11 (.putfield 15) 3 rfl) wf_Request_15 kd_576 rfl rfl (okI_0 _) rfl ?_
  refine wp_aload_n (i := 0) (v := qr 9 (some l0)) (dz dl_Request_init_0 8 14 (.aload_n 0) 1 rfl) rfl rfl trivial ?_
  refine wp_iload_n (i := 2) (x := l2) (dz dl_Request_init_0 9 15 (.iload_n 2) 1 rfl) rfl rfl ?_
  have h := h _ rfl
  refine wp_putIF l0 (dz dl_Request_init_0 10 16 (.putfield 18) 3 rfl) wf_Request_18 kd_577 rfl rfl (okI_0 _) rfl ?_
  refine wp_aload_n (i := 0) (v := qr 9 (some l0)) (dz dl_Request_init_0 11 19 (.aload_n 0) 1 rfl) rfl rfl trivial ?_
  refine wp_iload_n (i := 3) (x := l3) (dz dl_Request_init_0 12 20 (.iload_n 3) 1 rfl) rfl rfl ?_
  have h := h _ rfl
  refine wp_putIF l0 (dz dl_Request_init_0 13 21 (.putfield 21) 3 rfl) wf_Request_21 kd_578 rfl rfl (okI_0 _) rfl ?_
  refine wp_aload_n (i := 0) (v := qr 9 (some l0)) (dz dl_Request_init_0 14 24 (.aload_n 0) 1 rfl) rfl rfl trivial ?_
  refine wp_iload (i := 4) (x := l4) (dz dl_Request_init_0 15 25 (.iload 4) 2 rfl) rfl ?_
  have h := h _ rfl
  refine wp_putIF l0 (dz dl_Request_init_0 16 27 (.putfield 24) 3 rfl) wf_Request_24 kd_579 rfl rfl (okI_0 _) rfl ?_
  exact wp_rt none (rt_V rfl (dz dl_Request_init_0 17 30 (.return_) 1 rfl)) ⟨rfl, h⟩
theorem t_Request_init {X : Nat × (Nat → Int32)} {k : Nat} {g : sg} {l0 : Nat} {l1 : Int32} {l2 : Int32} {l3 : Int32} {l4 : Int32} {Z : sg → Prop} (h : ∀ g1, g1 = pI g 580 l0 0 (0 : Int32) → ∀ g2, g2 = pI g1 576 l0 0 l1 → ∀ g3, g3 = pI g2 577 l0 0 l2 → ∀ g4, g4 = pI g3 578 l0 0 l3 → ∀ g5, g5 = pI g4 579 l0 0 l4 → Z g5) : nnMT X M_Request_init k [qr 9 (some l0), qi l1, qi l2, qi l3, qi l4] g (zV Z) := b_Request_init_0 h

theorem b_Route_init_0 {X : Nat × (Nat → Int32)} {k : Nat} {g : sg} {l0 : Nat} {l1 : Int32} {l2 : Int32} {Z : sg → Prop} (h : 1 ≤ k ∧ gA g 643 l0 = none ∧ ∀ g1, g1 = pA g 643 l0 5 → ∀ g2, g2 = pI g1 640 l0 0 l1 → ∀ g3, g3 = pI g2 641 l0 0 l2 → nnWP X M_Route_init (k - 1) 23 [qr 10 (some l0), none, none, qi (0 : Int32)] [] g3 (zV Z)) : nnWP X M_Route_init k 0 [qr 10 (some l0), qi l1, qi l2, none] [] g (zV Z) := by
  refine wp_aload_n (i := 0) (v := qr 10 (some l0)) (dz dl_Route_init_0 0 0 (.aload_n 0) 1 rfl) rfl rfl trivial ?_
  refine wp_objInit l0 (dz dl_Route_init_0 1 1 (.invokespecial 3) 3 rfl) wm_Route_3 w_oi w_oc (by decide) (by decide) (Nat.le_of_ble_eq_true rfl) rfl ?_
  refine wp_aload_n (i := 0) (v := qr 10 (some l0)) (dz dl_Route_init_0 2 4 (.aload_n 0) 1 rfl) rfl rfl trivial ?_
  refine wp_iconst (dz dl_Route_init_0 3 5 (.iconst (5)) 1 rfl) (v := (5 : Int32)) (by decide) ?_
  obtain ⟨u1, h⟩ := h
  obtain ⟨q1, h⟩ := h
  have h := h _ rfl
  refine wp_newA (n := 5) l0 1 (dz dl_Route_init_0 4 6 (.newarray .int) 2 rfl) (dz dl_Route_init_0 5 8 (.putfield 9) 3 rfl) wf_Route_9 kd_643 rfl (by decide) (by decide) wa_0 rfl rfl rfl (by decide) (by decide) (by decide) u1 q1 rfl ?_
  refine wp_aload_n (i := 0) (v := qr 10 (some l0)) (dz dl_Route_init_0 6 11 (.aload_n 0) 1 rfl) rfl rfl trivial ?_
  refine wp_iload_n (i := 1) (x := l1) (dz dl_Route_init_0 7 12 (.iload_n 1) 1 rfl) rfl rfl ?_
  have h := h _ rfl
  refine wp_putIF l0 (dz dl_Route_init_0 8 13 (.putfield 15) 3 rfl) wf_Route_15 kd_640 rfl rfl (okI_0 _) rfl ?_
  refine wp_aload_n (i := 0) (v := qr 10 (some l0)) (dz dl_Route_init_0 9 16 (.aload_n 0) 1 rfl) rfl rfl trivial ?_
  refine wp_iload_n (i := 2) (x := l2) (dz dl_Route_init_0 10 17 (.iload_n 2) 1 rfl) rfl rfl ?_
  have h := h _ rfl
  refine wp_putIF l0 (dz dl_Route_init_0 11 18 (.putfield 19) 3 rfl) wf_Route_19 kd_641 rfl rfl (okI_0 _) rfl ?_
  refine wp_iconst (dz dl_Route_init_0 12 21 (.iconst (0)) 1 rfl) (v := (0 : Int32)) (by decide) ?_
  refine wp_istore_n (i := 3) (dz dl_Route_init_0 13 22 (.istore_n 3) 1 rfl) rfl [qr 10 (some l0), qi l1, qi l2, qi (0 : Int32)] (by decide) rfl ?_
  exact wp_cut h ⟨Or.inr rfl, Or.inl rfl, Or.inl rfl, Or.inr rfl, trivial⟩
theorem t_Route_init {X : Nat × (Nat → Int32)} {k : Nat} {g : sg} {l0 : Nat} {l1 : Int32} {l2 : Int32} {Z : sg → Prop} (h : 1 ≤ k ∧ gA g 643 l0 = none ∧ ∀ g1, g1 = pA g 643 l0 5 → ∀ g2, g2 = pI g1 640 l0 0 l1 → ∀ g3, g3 = pI g2 641 l0 0 l2 → nnWP X M_Route_init (k - 1) 23 [qr 10 (some l0), none, none, qi (0 : Int32)] [] g3 (zV Z)) : nnMT X M_Route_init k [qr 10 (some l0), qi l1, qi l2] g (zV Z) := b_Route_init_0 h

theorem b_Route_init_23 {X : Nat × (Nat → Int32)} {k : Nat} {g : sg} {l0 : Nat} {l3 : Int32} {Z : sg → Prop} (h : ((5 : Int32) ≤ l3 → Z g) ∧ (¬ (5 : Int32) ≤ l3 → gA g 643 l0 = some 5 ∧ vp_in l3 5 ∧ ∀ g1, g1 = pI g 643 l0 l3.toNatClampNeg (-1 : Int32) → nnWP X M_Route_init k 23 [qr 10 (some l0), none, none, qi (l3 + 1)] [] g1 (zV Z))) : nnWP X M_Route_init k 23 [qr 10 (some l0), none, none, qi l3] [] g (zV Z) := by
  refine wp_iload_n (i := 3) (x := l3) (dz dl_Route_init_0 14 23 (.iload_n 3) 1 rfl) rfl rfl ?_
  refine wp_iconst (dz dl_Route_init_0 15 24 (.iconst (5)) 1 rfl) (v := (5 : Int32)) (by decide) ?_
  refine wp_icmp_ge (tgt := 41) (dz dl_Route_init_0 16 25 (.if_icmp .ge (16)) 3 rfl) (by decide) (fun hc => ?_) (fun hc => ?_)
  · replace h := h.1 hc
    exact wp_rt none (rt_V rfl (dz dl_Route_init_0 24 41 (.return_) 1 rfl)) ⟨rfl, h⟩
  · replace h := h.2 hc
    refine wp_aload_n (i := 0) (v := qr 10 (some l0)) (dz dl_Route_init_0 17 28 (.aload_n 0) 1 rfl) rfl rfl trivial ?_
    obtain ⟨n1, h⟩ := h
    refine wp_getA l0 5 (dz dl_Route_init_0 18 29 (.getfield 9) 3 rfl) lk_Route_9 (q := 0) kd_643 rfl rfl n1 ?_
    refine wp_iload_n (i := 3) (x := l3) (dz dl_Route_init_0 19 32 (.iload_n 3) 1 rfl) rfl rfl ?_
    refine wp_iconst (dz dl_Route_init_0 20 33 (.iconst (-1)) 1 rfl) (v := (-1 : Int32)) (by decide) ?_
    obtain ⟨i1, h⟩ := h
    have h := h _ rfl
    refine wp_iast 5 (dz dl_Route_init_0 21 34 (.iastore) 1 rfl) kd_643 n1 i1 rfl ?_
    refine wp_iinc (i := 3) (v := l3 + 1) (dz dl_Route_init_0 22 35 (.iinc 3 (1)) 3 rfl) rfl (congrArg (fun z => l3 + z) (by decide)) [qr 10 (some l0), none, none, qi (l3 + 1)] (by decide) rfl ?_
    refine wp_goto (tgt := 23) (dz dl_Route_init_0 23 38 (.goto (-15)) 3 rfl) (by decide) ?_
    exact wp_cut h ⟨Or.inr rfl, Or.inl rfl, Or.inl rfl, Or.inr rfl, trivial⟩

theorem b_Route_begin_0 {X : Nat × (Nat → Int32)} {k : Nat} {g : sg} {l0 : Nat} {l1 : Int32} {l2 : Int32} {l3 : Int32} {Z : sg → Prop} (h : ∀ g1, g1 = pI g 642 l0 0 l1 → nnWP X M_Route_begin k 8 [qr 10 (some l0), none, qi l2, qi l3, qi (0 : Int32)] [] g1 (zV Z)) : nnWP X M_Route_begin k 0 [qr 10 (some l0), qi l1, qi l2, qi l3, none] [] g (zV Z) := by
  refine wp_aload_n (i := 0) (v := qr 10 (some l0)) (dz dl_Route_begin_0 0 0 (.aload_n 0) 1 rfl) rfl rfl trivial ?_
  refine wp_iload_n (i := 1) (x := l1) (dz dl_Route_begin_0 1 1 (.iload_n 1) 1 rfl) rfl rfl ?_
  have h := h _ rfl
  refine wp_putI l0 (dz dl_Route_begin_0 2 2 (.putfield 22) 3 rfl) lk_Route_22 kd_642 rfl rfl rfl (okI_0 _) rfl ?_
  refine wp_iconst (dz dl_Route_begin_0 3 5 (.iconst (0)) 1 rfl) (v := (0 : Int32)) (by decide) ?_
  refine wp_istore (i := 4) (dz dl_Route_begin_0 4 6 (.istore 4) 2 rfl) [qr 10 (some l0), qi l1, qi l2, qi l3, qi (0 : Int32)] (by decide) rfl ?_
  exact wp_cut h ⟨Or.inr rfl, Or.inl rfl, Or.inr rfl, Or.inr rfl, Or.inr rfl, trivial⟩
theorem t_Route_begin {X : Nat × (Nat → Int32)} {k : Nat} {g : sg} {l0 : Nat} {l1 : Int32} {l2 : Int32} {l3 : Int32} {Z : sg → Prop} (h : ∀ g1, g1 = pI g 642 l0 0 l1 → nnWP X M_Route_begin k 8 [qr 10 (some l0), none, qi l2, qi l3, qi (0 : Int32)] [] g1 (zV Z)) : nnMT X M_Route_begin k [qr 10 (some l0), qi l1, qi l2, qi l3] g (zV Z) := b_Route_begin_0 h

theorem b_Route_begin_8 {X : Nat × (Nat → Int32)} {k : Nat} {g : sg} {l0 : Nat} {l2 : Int32} {l3 : Int32} {l4 : Int32} {Z : sg → Prop} (h : ((5 : Int32) ≤ l4 → Z g) ∧ (¬ (5 : Int32) ≤ l4 → gA g 643 l0 = some 5 ∧ (¬ l4 = l2 → vp_in l4 5 ∧ ∀ g1, g1 = pI g 643 l0 l4.toNatClampNeg (-1 : Int32) → nnWP X M_Route_begin k 8 [qr 10 (some l0), none, qi l2, qi l3, qi (l4 + 1)] [] g1 (zV Z)) ∧ (l4 = l2 → (l3 = (99 : Int32) → vp_in l4 5 ∧ ∀ g2, g2 = pI g 643 l0 l4.toNatClampNeg (-1 : Int32) → nnWP X M_Route_begin k 8 [qr 10 (some l0), none, qi l2, qi l3, qi (l4 + 1)] [] g2 (zV Z)) ∧ (¬ l3 = (99 : Int32) → vp_in l4 5 ∧ ∀ g3, g3 = pI g 643 l0 l4.toNatClampNeg l3 → nnWP X M_Route_begin k 8 [qr 10 (some l0), none, qi l2, qi l3, qi (l4 + 1)] [] g3 (zV Z))))) : nnWP X M_Route_begin k 8 [qr 10 (some l0), none, qi l2, qi l3, qi l4] [] g (zV Z) := by
  refine wp_iload (i := 4) (x := l4) (dz dl_Route_begin_0 5 8 (.iload 4) 2 rfl) rfl ?_
  refine wp_iconst (dz dl_Route_begin_0 6 10 (.iconst (5)) 1 rfl) (v := (5 : Int32)) (by decide) ?_
  refine wp_icmp_ge (tgt := 44) (dz dl_Route_begin_0 7 11 (.if_icmp .ge (33)) 3 rfl) (by decide) (fun hc => ?_) (fun hc => ?_)
  · replace h := h.1 hc
    exact wp_rt none (rt_V rfl (dz dl_Route_begin_0 23 44 (.return_) 1 rfl)) ⟨rfl, h⟩
  · replace h := h.2 hc
    refine wp_aload_n (i := 0) (v := qr 10 (some l0)) (dz dl_Route_begin_0 8 14 (.aload_n 0) 1 rfl) rfl rfl trivial ?_
    obtain ⟨n1, h⟩ := h
    refine wp_getA l0 5 (dz dl_Route_begin_0 9 15 (.getfield 9) 3 rfl) lk_Route_9 (q := 0) kd_643 rfl rfl n1 ?_
    refine wp_iload (i := 4) (x := l4) (dz dl_Route_begin_0 10 18 (.iload 4) 2 rfl) rfl ?_
    refine wp_iload (i := 4) (x := l4) (dz dl_Route_begin_0 11 20 (.iload 4) 2 rfl) rfl ?_
    refine wp_iload_n (i := 2) (x := l2) (dz dl_Route_begin_0 12 22 (.iload_n 2) 1 rfl) rfl rfl ?_
    refine wp_icmp_ne (tgt := 36) (dz dl_Route_begin_0 13 23 (.if_icmp .ne (13)) 3 rfl) (by decide) (fun hc => ?_) (fun hc => ?_)
    · replace h := h.1 hc
      refine wp_iconst (dz dl_Route_begin_0 19 36 (.iconst (-1)) 1 rfl) (v := (-1 : Int32)) (by decide) ?_
      obtain ⟨i1, h⟩ := h
      have h := h _ rfl
      refine wp_iast 5 (dz dl_Route_begin_0 20 37 (.iastore) 1 rfl) kd_643 n1 i1 rfl ?_
      refine wp_iinc (i := 4) (v := l4 + 1) (dz dl_Route_begin_0 21 38 (.iinc 4 (1)) 3 rfl) rfl (congrArg (fun z => l4 + z) (by decide)) [qr 10 (some l0), none, qi l2, qi l3, qi (l4 + 1)] (by decide) rfl ?_
      refine wp_goto (tgt := 8) (dz dl_Route_begin_0 22 41 (.goto (-33)) 3 rfl) (by decide) ?_
      exact wp_cut h ⟨Or.inr rfl, Or.inl rfl, Or.inr rfl, Or.inr rfl, Or.inr rfl, trivial⟩
    · replace h := h.2 hc
      refine wp_iload_n (i := 3) (x := l3) (dz dl_Route_begin_0 14 26 (.iload_n 3) 1 rfl) rfl rfl ?_
      refine wp_bipush (dz dl_Route_begin_0 15 27 (.bipush (99)) 2 rfl) (v := (99 : Int32)) (by decide) ?_
      refine wp_icmp_eq (tgt := 36) (dz dl_Route_begin_0 16 29 (.if_icmp .eq (7)) 3 rfl) (by decide) (fun hc => ?_) (fun hc => ?_)
      · replace h := h.1 hc
        refine wp_iconst (dz dl_Route_begin_0 19 36 (.iconst (-1)) 1 rfl) (v := (-1 : Int32)) (by decide) ?_
        obtain ⟨i2, h⟩ := h
        have h := h _ rfl
        refine wp_iast 5 (dz dl_Route_begin_0 20 37 (.iastore) 1 rfl) kd_643 n1 i2 rfl ?_
        refine wp_iinc (i := 4) (v := l4 + 1) (dz dl_Route_begin_0 21 38 (.iinc 4 (1)) 3 rfl) rfl (congrArg (fun z => l4 + z) (by decide)) [qr 10 (some l0), none, qi l2, qi l3, qi (l4 + 1)] (by decide) rfl ?_
        refine wp_goto (tgt := 8) (dz dl_Route_begin_0 22 41 (.goto (-33)) 3 rfl) (by decide) ?_
        exact wp_cut h ⟨Or.inr rfl, Or.inl rfl, Or.inr rfl, Or.inr rfl, Or.inr rfl, trivial⟩
      · replace h := h.2 hc
        refine wp_iload_n (i := 3) (x := l3) (dz dl_Route_begin_0 17 32 (.iload_n 3) 1 rfl) rfl rfl ?_
        refine wp_goto (tgt := 37) (dz dl_Route_begin_0 18 33 (.goto (4)) 3 rfl) (by decide) ?_
        obtain ⟨i3, h⟩ := h
        have h := h _ rfl
        refine wp_iast 5 (dz dl_Route_begin_0 20 37 (.iastore) 1 rfl) kd_643 n1 i3 rfl ?_
        refine wp_iinc (i := 4) (v := l4 + 1) (dz dl_Route_begin_0 21 38 (.iinc 4 (1)) 3 rfl) rfl (congrArg (fun z => l4 + z) (by decide)) [qr 10 (some l0), none, qi l2, qi l3, qi (l4 + 1)] (by decide) rfl ?_
        refine wp_goto (tgt := 8) (dz dl_Route_begin_0 22 41 (.goto (-33)) 3 rfl) (by decide) ?_
        exact wp_cut h ⟨Or.inr rfl, Or.inl rfl, Or.inr rfl, Or.inr rfl, Or.inr rfl, trivial⟩

theorem b_Route_improve_0 {X : Nat × (Nat → Int32)} {k : Nat} {g : sg} {l0 : Nat} {l1 : Int32} {l2 : Int32} {Z : Int32 → sg → Prop} (h : (l2 = (99 : Int32) → Z (0 : Int32) g) ∧ (¬ l2 = (99 : Int32) → gA g 643 l0 = some 5 ∧ vp_in l1 5 ∧ ((gI g 643 l0 l1.toNatClampNeg) = (-1 : Int32) → nnMT X M_Route_least 0 [qr 10 (some l0)] g (zI fun r1 g1 => gExt g g1 → ∀ g2, g2 = pI g1 643 l0 l1.toNatClampNeg l2 → (r1 = (-1 : Int32) → Z (1 : Int32) g2) ∧ (¬ r1 = (-1 : Int32) → (r1 ≤ l2 → Z (0 : Int32) g2) ∧ (¬ r1 ≤ l2 → Z (1 : Int32) g2)))) ∧ (¬ (gI g 643 l0 l1.toNatClampNeg) = (-1 : Int32) → (l2 < (gI g 643 l0 l1.toNatClampNeg) → nnMT X M_Route_least 0 [qr 10 (some l0)] g (zI fun r2 g3 => gExt g g3 → ∀ g4, g4 = pI g3 643 l0 l1.toNatClampNeg l2 → (r2 = (-1 : Int32) → Z (1 : Int32) g4) ∧ (¬ r2 = (-1 : Int32) → (r2 ≤ l2 → Z (0 : Int32) g4) ∧ (¬ r2 ≤ l2 → Z (1 : Int32) g4)))) ∧ (¬ l2 < (gI g 643 l0 l1.toNatClampNeg) → Z (0 : Int32) g)))) : nnWP X M_Route_improve k 0 [qr 10 (some l0), qi l1, qi l2, none] [] g (zI Z) := by
  refine wp_iload_n (i := 2) (x := l2) (dz dl_Route_improve_0 0 0 (.iload_n 2) 1 rfl) rfl rfl ?_
  refine wp_bipush (dz dl_Route_improve_0 1 1 (.bipush (99)) 2 rfl) (v := (99 : Int32)) (by decide) ?_
  refine wp_icmp_eq (tgt := 26) (dz dl_Route_improve_0 2 3 (.if_icmp .eq (23)) 3 rfl) (by decide) (fun hc => ?_) (fun hc => ?_)
  · replace h := h.1 hc
    refine wp_iconst (dz dl_Route_improve_0 15 26 (.iconst (0)) 1 rfl) (v := (0 : Int32)) (by decide) ?_
    exact wp_rt (qi _) (rt_Z rfl (Or.inl rfl) (dz dl_Route_improve_0 16 27 (.ireturn) 1 rfl)) ⟨_, rfl, h⟩
  · replace h := h.2 hc
    refine wp_aload_n (i := 0) (v := qr 10 (some l0)) (dz dl_Route_improve_0 3 6 (.aload_n 0) 1 rfl) rfl rfl trivial ?_
    obtain ⟨n1, h⟩ := h
    refine wp_getA l0 5 (dz dl_Route_improve_0 4 7 (.getfield 9) 3 rfl) lk_Route_9 (q := 0) kd_643 rfl rfl n1 ?_
    refine wp_iload_n (i := 1) (x := l1) (dz dl_Route_improve_0 5 10 (.iload_n 1) 1 rfl) rfl rfl ?_
    obtain ⟨i1, h⟩ := h
    refine wp_iald 5 (dz dl_Route_improve_0 6 11 (.iaload) 1 rfl) kd_643 n1 i1 ?_
    refine wp_iconst (dz dl_Route_improve_0 7 12 (.iconst (-1)) 1 rfl) (v := (-1 : Int32)) (by decide) ?_
    refine wp_icmp_eq (tgt := 28) (dz dl_Route_improve_0 8 13 (.if_icmp .eq (15)) 3 rfl) (by decide) (fun hc => ?_) (fun hc => ?_)
    · replace h := h.1 hc
      refine wp_aload_n (i := 0) (v := qr 10 (some l0)) (dz dl_Route_improve_0 17 28 (.aload_n 0) 1 rfl) rfl rfl trivial ?_
      refine wp_callV l0 0 [] [] (dz dl_Route_improve_0 18 29 (.invokevirtual 25) 3 rfl) ok_Route_least lm_Route_25 (by decide) ws_Route_least wv_Route_least ⟨Nat.le_of_ble_eq_true rfl, Nat.le_of_ble_eq_true rfl⟩ pn_Route_least (Nat.le_of_ble_eq_true rfl) (Nat.le_of_ble_eq_true rfl) rfl (Or.inl rfl) (Nat.zero_le _) (mt_mono h ?_)
      rintro _ g1 ⟨r1, rfl, h⟩ y1
      replace h := h y1.1
      show nnWP _ _ _ _ _ [qi r1] _ _
      refine wp_istore_n (i := 3) (dz dl_Route_improve_0 19 32 (.istore_n 3) 1 rfl) rfl [qr 10 (some l0), qi l1, qi l2, qi r1] (by decide) rfl ?_
      refine wp_aload_n (i := 0) (v := qr 10 (some l0)) (dz dl_Route_improve_0 20 33 (.aload_n 0) 1 rfl) rfl rfl trivial ?_
      refine wp_getA l0 5 (dz dl_Route_improve_0 21 34 (.getfield 9) 3 rfl) lk_Route_9 (q := 0) kd_643 rfl rfl (y1.1.2 _ _ _ n1) ?_
      refine wp_iload_n (i := 1) (x := l1) (dz dl_Route_improve_0 22 37 (.iload_n 1) 1 rfl) rfl rfl ?_
      refine wp_iload_n (i := 2) (x := l2) (dz dl_Route_improve_0 23 38 (.iload_n 2) 1 rfl) rfl rfl ?_
      have h := h _ rfl
      refine wp_iast 5 (dz dl_Route_improve_0 24 39 (.iastore) 1 rfl) kd_643 (y1.1.2 _ _ _ n1) i1 rfl ?_
      refine wp_iload_n (i := 3) (x := r1) (dz dl_Route_improve_0 25 40 (.iload_n 3) 1 rfl) rfl rfl ?_
      refine wp_iconst (dz dl_Route_improve_0 26 41 (.iconst (-1)) 1 rfl) (v := (-1 : Int32)) (by decide) ?_
      refine wp_icmp_eq (tgt := 50) (dz dl_Route_improve_0 27 42 (.if_icmp .eq (8)) 3 rfl) (by decide) (fun hc => ?_) (fun hc => ?_)
      · replace h := h.1 hc
        refine wp_iconst (dz dl_Route_improve_0 31 50 (.iconst (1)) 1 rfl) (v := (1 : Int32)) (by decide) ?_
        refine wp_goto (tgt := 55) (dz dl_Route_improve_0 32 51 (.goto (4)) 3 rfl) (by decide) ?_
        exact wp_rt (qi _) (rt_Z rfl (Or.inr rfl) (dz dl_Route_improve_0 34 55 (.ireturn) 1 rfl)) ⟨_, rfl, h⟩
      · replace h := h.2 hc
        refine wp_iload_n (i := 2) (x := l2) (dz dl_Route_improve_0 28 45 (.iload_n 2) 1 rfl) rfl rfl ?_
        refine wp_iload_n (i := 3) (x := r1) (dz dl_Route_improve_0 29 46 (.iload_n 3) 1 rfl) rfl rfl ?_
        refine wp_icmp_ge (tgt := 54) (dz dl_Route_improve_0 30 47 (.if_icmp .ge (7)) 3 rfl) (by decide) (fun hc => ?_) (fun hc => ?_)
        · replace h := h.1 hc
          refine wp_iconst (dz dl_Route_improve_0 33 54 (.iconst (0)) 1 rfl) (v := (0 : Int32)) (by decide) ?_
          exact wp_rt (qi _) (rt_Z rfl (Or.inl rfl) (dz dl_Route_improve_0 34 55 (.ireturn) 1 rfl)) ⟨_, rfl, h⟩
        · replace h := h.2 hc
          refine wp_iconst (dz dl_Route_improve_0 31 50 (.iconst (1)) 1 rfl) (v := (1 : Int32)) (by decide) ?_
          refine wp_goto (tgt := 55) (dz dl_Route_improve_0 32 51 (.goto (4)) 3 rfl) (by decide) ?_
          exact wp_rt (qi _) (rt_Z rfl (Or.inr rfl) (dz dl_Route_improve_0 34 55 (.ireturn) 1 rfl)) ⟨_, rfl, h⟩
    · replace h := h.2 hc
      refine wp_aload_n (i := 0) (v := qr 10 (some l0)) (dz dl_Route_improve_0 9 16 (.aload_n 0) 1 rfl) rfl rfl trivial ?_
      refine wp_getA l0 5 (dz dl_Route_improve_0 10 17 (.getfield 9) 3 rfl) lk_Route_9 (q := 0) kd_643 rfl rfl n1 ?_
      refine wp_iload_n (i := 1) (x := l1) (dz dl_Route_improve_0 11 20 (.iload_n 1) 1 rfl) rfl rfl ?_
      refine wp_iald 5 (dz dl_Route_improve_0 12 21 (.iaload) 1 rfl) kd_643 n1 i1 ?_
      refine wp_iload_n (i := 2) (x := l2) (dz dl_Route_improve_0 13 22 (.iload_n 2) 1 rfl) rfl rfl ?_
      refine wp_icmp_gt (tgt := 28) (dz dl_Route_improve_0 14 23 (.if_icmp .gt (5)) 3 rfl) (by decide) (fun hc => ?_) (fun hc => ?_)
      · replace h := h.1 hc
        refine wp_aload_n (i := 0) (v := qr 10 (some l0)) (dz dl_Route_improve_0 17 28 (.aload_n 0) 1 rfl) rfl rfl trivial ?_
        refine wp_callV l0 0 [] [] (dz dl_Route_improve_0 18 29 (.invokevirtual 25) 3 rfl) ok_Route_least lm_Route_25 (by decide) ws_Route_least wv_Route_least ⟨Nat.le_of_ble_eq_true rfl, Nat.le_of_ble_eq_true rfl⟩ pn_Route_least (Nat.le_of_ble_eq_true rfl) (Nat.le_of_ble_eq_true rfl) rfl (Or.inl rfl) (Nat.zero_le _) (mt_mono h ?_)
        rintro _ g3 ⟨r2, rfl, h⟩ y2
        replace h := h y2.1
        show nnWP _ _ _ _ _ [qi r2] _ _
        refine wp_istore_n (i := 3) (dz dl_Route_improve_0 19 32 (.istore_n 3) 1 rfl) rfl [qr 10 (some l0), qi l1, qi l2, qi r2] (by decide) rfl ?_
        refine wp_aload_n (i := 0) (v := qr 10 (some l0)) (dz dl_Route_improve_0 20 33 (.aload_n 0) 1 rfl) rfl rfl trivial ?_
        refine wp_getA l0 5 (dz dl_Route_improve_0 21 34 (.getfield 9) 3 rfl) lk_Route_9 (q := 0) kd_643 rfl rfl (y2.1.2 _ _ _ n1) ?_
        refine wp_iload_n (i := 1) (x := l1) (dz dl_Route_improve_0 22 37 (.iload_n 1) 1 rfl) rfl rfl ?_
        refine wp_iload_n (i := 2) (x := l2) (dz dl_Route_improve_0 23 38 (.iload_n 2) 1 rfl) rfl rfl ?_
        have h := h _ rfl
        refine wp_iast 5 (dz dl_Route_improve_0 24 39 (.iastore) 1 rfl) kd_643 (y2.1.2 _ _ _ n1) i1 rfl ?_
        refine wp_iload_n (i := 3) (x := r2) (dz dl_Route_improve_0 25 40 (.iload_n 3) 1 rfl) rfl rfl ?_
        refine wp_iconst (dz dl_Route_improve_0 26 41 (.iconst (-1)) 1 rfl) (v := (-1 : Int32)) (by decide) ?_
        refine wp_icmp_eq (tgt := 50) (dz dl_Route_improve_0 27 42 (.if_icmp .eq (8)) 3 rfl) (by decide) (fun hc => ?_) (fun hc => ?_)
        · replace h := h.1 hc
          refine wp_iconst (dz dl_Route_improve_0 31 50 (.iconst (1)) 1 rfl) (v := (1 : Int32)) (by decide) ?_
          refine wp_goto (tgt := 55) (dz dl_Route_improve_0 32 51 (.goto (4)) 3 rfl) (by decide) ?_
          exact wp_rt (qi _) (rt_Z rfl (Or.inr rfl) (dz dl_Route_improve_0 34 55 (.ireturn) 1 rfl)) ⟨_, rfl, h⟩
        · replace h := h.2 hc
          refine wp_iload_n (i := 2) (x := l2) (dz dl_Route_improve_0 28 45 (.iload_n 2) 1 rfl) rfl rfl ?_
          refine wp_iload_n (i := 3) (x := r2) (dz dl_Route_improve_0 29 46 (.iload_n 3) 1 rfl) rfl rfl ?_
          refine wp_icmp_ge (tgt := 54) (dz dl_Route_improve_0 30 47 (.if_icmp .ge (7)) 3 rfl) (by decide) (fun hc => ?_) (fun hc => ?_)
          · replace h := h.1 hc
            refine wp_iconst (dz dl_Route_improve_0 33 54 (.iconst (0)) 1 rfl) (v := (0 : Int32)) (by decide) ?_
            exact wp_rt (qi _) (rt_Z rfl (Or.inl rfl) (dz dl_Route_improve_0 34 55 (.ireturn) 1 rfl)) ⟨_, rfl, h⟩
          · replace h := h.2 hc
            refine wp_iconst (dz dl_Route_improve_0 31 50 (.iconst (1)) 1 rfl) (v := (1 : Int32)) (by decide) ?_
            refine wp_goto (tgt := 55) (dz dl_Route_improve_0 32 51 (.goto (4)) 3 rfl) (by decide) ?_
            exact wp_rt (qi _) (rt_Z rfl (Or.inr rfl) (dz dl_Route_improve_0 34 55 (.ireturn) 1 rfl)) ⟨_, rfl, h⟩
      · replace h := h.2 hc
        refine wp_iconst (dz dl_Route_improve_0 15 26 (.iconst (0)) 1 rfl) (v := (0 : Int32)) (by decide) ?_
        exact wp_rt (qi _) (rt_Z rfl (Or.inl rfl) (dz dl_Route_improve_0 16 27 (.ireturn) 1 rfl)) ⟨_, rfl, h⟩
theorem t_Route_improve {X : Nat × (Nat → Int32)} {k : Nat} {g : sg} {l0 : Nat} {l1 : Int32} {l2 : Int32} {Z : Int32 → sg → Prop} (h : (l2 = (99 : Int32) → Z (0 : Int32) g) ∧ (¬ l2 = (99 : Int32) → gA g 643 l0 = some 5 ∧ vp_in l1 5 ∧ ((gI g 643 l0 l1.toNatClampNeg) = (-1 : Int32) → nnMT X M_Route_least 0 [qr 10 (some l0)] g (zI fun r1 g1 => gExt g g1 → ∀ g2, g2 = pI g1 643 l0 l1.toNatClampNeg l2 → (r1 = (-1 : Int32) → Z (1 : Int32) g2) ∧ (¬ r1 = (-1 : Int32) → (r1 ≤ l2 → Z (0 : Int32) g2) ∧ (¬ r1 ≤ l2 → Z (1 : Int32) g2)))) ∧ (¬ (gI g 643 l0 l1.toNatClampNeg) = (-1 : Int32) → (l2 < (gI g 643 l0 l1.toNatClampNeg) → nnMT X M_Route_least 0 [qr 10 (some l0)] g (zI fun r2 g3 => gExt g g3 → ∀ g4, g4 = pI g3 643 l0 l1.toNatClampNeg l2 → (r2 = (-1 : Int32) → Z (1 : Int32) g4) ∧ (¬ r2 = (-1 : Int32) → (r2 ≤ l2 → Z (0 : Int32) g4) ∧ (¬ r2 ≤ l2 → Z (1 : Int32) g4)))) ∧ (¬ l2 < (gI g 643 l0 l1.toNatClampNeg) → Z (0 : Int32) g)))) : nnMT X M_Route_improve k [qr 10 (some l0), qi l1, qi l2] g (zI Z) := b_Route_improve_0 h

theorem b_Route_least_0 {X : Nat × (Nat → Int32)} {k : Nat} {g : sg} {l0 : Nat} {Z : Int32 → sg → Prop} (h : nnWP X M_Route_least k 4 [qr 10 (some l0), qi (-1 : Int32), qi (0 : Int32)] [] g (zI Z)) : nnWP X M_Route_least k 0 [qr 10 (some l0), none, none] [] g (zI Z) := by
  refine wp_iconst (dz dl_Route_least_0 0 0 (.iconst (-1)) 1 rfl) (v := (-1 : Int32)) (by decide) ?_
  refine wp_istore_n (i := 1) (dz dl_Route_least_0 1 1 (.istore_n 1) 1 rfl) rfl [qr 10 (some l0), qi (-1 : Int32), none] (by decide) rfl ?_
  refine wp_iconst (dz dl_Route_least_0 2 2 (.iconst (0)) 1 rfl) (v := (0 : Int32)) (by decide) ?_
  refine wp_istore_n (i := 2) (dz dl_Route_least_0 3 3 (.istore_n 2) 1 rfl) rfl [qr 10 (some l0), qi (-1 : Int32), qi (0 : Int32)] (by decide) rfl ?_
  exact wp_cut h ⟨Or.inr rfl, Or.inr rfl, Or.inr rfl, trivial⟩
theorem t_Route_least {X : Nat × (Nat → Int32)} {k : Nat} {g : sg} {l0 : Nat} {Z : Int32 → sg → Prop} (h : nnWP X M_Route_least k 4 [qr 10 (some l0), qi (-1 : Int32), qi (0 : Int32)] [] g (zI Z)) : nnMT X M_Route_least k [qr 10 (some l0)] g (zI Z) := b_Route_least_0 h

theorem b_Route_least_4 {X : Nat × (Nat → Int32)} {k : Nat} {g : sg} {l0 : Nat} {l1 : Int32} {l2 : Int32} {Z : Int32 → sg → Prop} (h : ((5 : Int32) ≤ l2 → Z l1 g) ∧ (¬ (5 : Int32) ≤ l2 → gA g 643 l0 = some 5 ∧ vp_in l2 5 ∧ ((gI g 643 l0 l2.toNatClampNeg) = (-1 : Int32) → nnWP X M_Route_least k 4 [qr 10 (some l0), qi l1, qi (l2 + 1)] [] g (zI Z)) ∧ (¬ (gI g 643 l0 l2.toNatClampNeg) = (-1 : Int32) → (l1 = (-1 : Int32) → nnWP X M_Route_least k 4 [qr 10 (some l0), qi (gI g 643 l0 l2.toNatClampNeg), qi (l2 + 1)] [] g (zI Z)) ∧ (¬ l1 = (-1 : Int32) → (l1 ≤ (gI g 643 l0 l2.toNatClampNeg) → nnWP X M_Route_least k 4 [qr 10 (some l0), qi l1, qi (l2 + 1)] [] g (zI Z)) ∧ (¬ l1 ≤ (gI g 643 l0 l2.toNatClampNeg) → nnWP X M_Route_least k 4 [qr 10 (some l0), qi (gI g 643 l0 l2.toNatClampNeg), qi (l2 + 1)] [] g (zI Z)))))) : nnWP X M_Route_least k 4 [qr 10 (some l0), qi l1, qi l2] [] g (zI Z) := by
  refine wp_iload_n (i := 2) (x := l2) (dz dl_Route_least_0 4 4 (.iload_n 2) 1 rfl) rfl rfl ?_
  refine wp_iconst (dz dl_Route_least_0 5 5 (.iconst (5)) 1 rfl) (v := (5 : Int32)) (by decide) ?_
  refine wp_icmp_ge (tgt := 47) (dz dl_Route_least_0 6 6 (.if_icmp .ge (41)) 3 rfl) (by decide) (fun hc => ?_) (fun hc => ?_)
  · replace h := h.1 hc
    refine wp_iload_n (i := 1) (x := l1) (dz dl_Route_least_0 29 47 (.iload_n 1) 1 rfl) rfl rfl ?_
    exact wp_rt (qi _) (rt_I rfl (dz dl_Route_least_0 30 48 (.ireturn) 1 rfl)) ⟨_, rfl, h⟩
  · replace h := h.2 hc
    refine wp_aload_n (i := 0) (v := qr 10 (some l0)) (dz dl_Route_least_0 7 9 (.aload_n 0) 1 rfl) rfl rfl trivial ?_
    obtain ⟨n1, h⟩ := h
    refine wp_getA l0 5 (dz dl_Route_least_0 8 10 (.getfield 9) 3 rfl) lk_Route_9 (q := 0) kd_643 rfl rfl n1 ?_
    refine wp_iload_n (i := 2) (x := l2) (dz dl_Route_least_0 9 13 (.iload_n 2) 1 rfl) rfl rfl ?_
    obtain ⟨i1, h⟩ := h
    refine wp_iald 5 (dz dl_Route_least_0 10 14 (.iaload) 1 rfl) kd_643 n1 i1 ?_
    refine wp_iconst (dz dl_Route_least_0 11 15 (.iconst (-1)) 1 rfl) (v := (-1 : Int32)) (by decide) ?_
    refine wp_icmp_eq (tgt := 41) (dz dl_Route_least_0 12 16 (.if_icmp .eq (25)) 3 rfl) (by decide) (fun hc => ?_) (fun hc => ?_)
    · replace h := h.1 hc
      refine wp_iinc (i := 2) (v := l2 + 1) (dz dl_Route_least_0 27 41 (.iinc 2 (1)) 3 rfl) rfl (congrArg (fun z => l2 + z) (by decide)) [qr 10 (some l0), qi l1, qi (l2 + 1)] (by decide) rfl ?_
      refine wp_goto (tgt := 4) (dz dl_Route_least_0 28 44 (.goto (-40)) 3 rfl) (by decide) ?_
      exact wp_cut h ⟨Or.inr rfl, Or.inr rfl, Or.inr rfl, trivial⟩
    · replace h := h.2 hc
      refine wp_iload_n (i := 1) (x := l1) (dz dl_Route_least_0 13 19 (.iload_n 1) 1 rfl) rfl rfl ?_
      refine wp_iconst (dz dl_Route_least_0 14 20 (.iconst (-1)) 1 rfl) (v := (-1 : Int32)) (by decide) ?_
      refine wp_icmp_eq (tgt := 34) (dz dl_Route_least_0 15 21 (.if_icmp .eq (13)) 3 rfl) (by decide) (fun hc => ?_) (fun hc => ?_)
      · replace h := h.1 hc
        refine wp_aload_n (i := 0) (v := qr 10 (some l0)) (dz dl_Route_least_0 22 34 (.aload_n 0) 1 rfl) rfl rfl trivial ?_
        refine wp_getA l0 5 (dz dl_Route_least_0 23 35 (.getfield 9) 3 rfl) lk_Route_9 (q := 0) kd_643 rfl rfl n1 ?_
        refine wp_iload_n (i := 2) (x := l2) (dz dl_Route_least_0 24 38 (.iload_n 2) 1 rfl) rfl rfl ?_
        refine wp_iald 5 (dz dl_Route_least_0 25 39 (.iaload) 1 rfl) kd_643 n1 i1 ?_
        refine wp_istore_n (i := 1) (dz dl_Route_least_0 26 40 (.istore_n 1) 1 rfl) rfl [qr 10 (some l0), qi (gI g 643 l0 l2.toNatClampNeg), qi l2] (by decide) rfl ?_
        refine wp_iinc (i := 2) (v := l2 + 1) (dz dl_Route_least_0 27 41 (.iinc 2 (1)) 3 rfl) rfl (congrArg (fun z => l2 + z) (by decide)) [qr 10 (some l0), qi (gI g 643 l0 l2.toNatClampNeg), qi (l2 + 1)] (by decide) rfl ?_
        refine wp_goto (tgt := 4) (dz dl_Route_least_0 28 44 (.goto (-40)) 3 rfl) (by decide) ?_
        exact wp_cut h ⟨Or.inr rfl, Or.inr rfl, Or.inr rfl, trivial⟩
      · replace h := h.2 hc
        refine wp_aload_n (i := 0) (v := qr 10 (some l0)) (dz dl_Route_least_0 16 24 (.aload_n 0) 1 rfl) rfl rfl trivial ?_
        refine wp_getA l0 5 (dz dl_Route_least_0 17 25 (.getfield 9) 3 rfl) lk_Route_9 (q := 0) kd_643 rfl rfl n1 ?_
        refine wp_iload_n (i := 2) (x := l2) (dz dl_Route_least_0 18 28 (.iload_n 2) 1 rfl) rfl rfl ?_
        refine wp_iald 5 (dz dl_Route_least_0 19 29 (.iaload) 1 rfl) kd_643 n1 i1 ?_
        refine wp_iload_n (i := 1) (x := l1) (dz dl_Route_least_0 20 30 (.iload_n 1) 1 rfl) rfl rfl ?_
        refine wp_icmp_ge (tgt := 41) (dz dl_Route_least_0 21 31 (.if_icmp .ge (10)) 3 rfl) (by decide) (fun hc => ?_) (fun hc => ?_)
        · replace h := h.1 hc
          refine wp_iinc (i := 2) (v := l2 + 1) (dz dl_Route_least_0 27 41 (.iinc 2 (1)) 3 rfl) rfl (congrArg (fun z => l2 + z) (by decide)) [qr 10 (some l0), qi l1, qi (l2 + 1)] (by decide) rfl ?_
          refine wp_goto (tgt := 4) (dz dl_Route_least_0 28 44 (.goto (-40)) 3 rfl) (by decide) ?_
          exact wp_cut h ⟨Or.inr rfl, Or.inr rfl, Or.inr rfl, trivial⟩
        · replace h := h.2 hc
          refine wp_aload_n (i := 0) (v := qr 10 (some l0)) (dz dl_Route_least_0 22 34 (.aload_n 0) 1 rfl) rfl rfl trivial ?_
          refine wp_getA l0 5 (dz dl_Route_least_0 23 35 (.getfield 9) 3 rfl) lk_Route_9 (q := 0) kd_643 rfl rfl n1 ?_
          refine wp_iload_n (i := 2) (x := l2) (dz dl_Route_least_0 24 38 (.iload_n 2) 1 rfl) rfl rfl ?_
          refine wp_iald 5 (dz dl_Route_least_0 25 39 (.iaload) 1 rfl) kd_643 n1 i1 ?_
          refine wp_istore_n (i := 1) (dz dl_Route_least_0 26 40 (.istore_n 1) 1 rfl) rfl [qr 10 (some l0), qi (gI g 643 l0 l2.toNatClampNeg), qi l2] (by decide) rfl ?_
          refine wp_iinc (i := 2) (v := l2 + 1) (dz dl_Route_least_0 27 41 (.iinc 2 (1)) 3 rfl) rfl (congrArg (fun z => l2 + z) (by decide)) [qr 10 (some l0), qi (gI g 643 l0 l2.toNatClampNeg), qi (l2 + 1)] (by decide) rfl ?_
          refine wp_goto (tgt := 4) (dz dl_Route_least_0 28 44 (.goto (-40)) 3 rfl) (by decide) ?_
          exact wp_cut h ⟨Or.inr rfl, Or.inr rfl, Or.inr rfl, trivial⟩

theorem b_Routes_init_0 {X : Nat × (Nat → Int32)} {k : Nat} {g : sg} {l0 : Nat} {Z : sg → Prop} (h : 4 ≤ k ∧ gA g 704 l0 = none ∧ ∀ g1, g1 = pA g 704 l0 50 → Z g1) : nnWP X M_Routes_init k 0 [qr 11 (some l0)] [] g (zV Z) := by
  refine wp_aload_n (i := 0) (v := qr 11 (some l0)) (dz dl_Routes_init_0 0 0 (.aload_n 0) 1 rfl) rfl rfl trivial ?_
  refine wp_objInit l0 (dz dl_Routes_init_0 1 1 (.invokespecial 3) 3 rfl) wm_Routes_3 w_oi w_oc (by decide) (by decide) (Nat.le_of_ble_eq_true rfl) rfl ?_
  refine wp_aload_n (i := 0) (v := qr 11 (some l0)) (dz dl_Routes_init_0 2 4 (.aload_n 0) 1 rfl) rfl rfl trivial ?_
  refine wp_bipush (dz dl_Routes_init_0 3 5 (.bipush (50)) 2 rfl) (v := (50 : Int32)) (by decide) ?_
  obtain ⟨u1, h⟩ := h
  obtain ⟨q1, h⟩ := h
  have h := h _ rfl
  refine wp_newR (n := 50) l0 4 (dz dl_Routes_init_0 4 7 (.anewarray 9) 3 rfl) (dz dl_Routes_init_0 5 10 (.putfield 11) 3 rfl) wf_Routes_11 kd_704 (by decide) wc_Routes_9 (by decide) rfl rfl rfl (by decide) (by decide) (by decide) u1 q1 rfl ?_
  exact wp_rt none (rt_V rfl (dz dl_Routes_init_0 6 13 (.return_) 1 rfl)) ⟨rfl, h⟩
theorem t_Routes_init {X : Nat × (Nat → Int32)} {k : Nat} {g : sg} {l0 : Nat} {Z : sg → Prop} (h : 4 ≤ k ∧ gA g 704 l0 = none ∧ ∀ g1, g1 = pA g 704 l0 50 → Z g1) : nnMT X M_Routes_init k [qr 11 (some l0)] g (zV Z) := b_Routes_init_0 h

theorem b_Routes_find_0 {X : Nat × (Nat → Int32)} {k : Nat} {g : sg} {l0 : Nat} {l1 : Int32} {l2 : Int32} {Z : Option Nat → sg → Prop} (h : nnWP X M_Routes_find k 2 [qr 11 (some l0), qi l1, qi l2, qi (0 : Int32)] [] g (zR 10 Z)) : nnWP X M_Routes_find k 0 [qr 11 (some l0), qi l1, qi l2, none] [] g (zR 10 Z) := by
  refine wp_iconst (dz dl_Routes_find_0 0 0 (.iconst (0)) 1 rfl) (v := (0 : Int32)) (by decide) ?_
  refine wp_istore_n (i := 3) (dz dl_Routes_find_0 1 1 (.istore_n 3) 1 rfl) rfl [qr 11 (some l0), qi l1, qi l2, qi (0 : Int32)] (by decide) rfl ?_
  exact wp_cut h ⟨Or.inr rfl, Or.inr rfl, Or.inr rfl, Or.inr rfl, trivial⟩
theorem t_Routes_find {X : Nat × (Nat → Int32)} {k : Nat} {g : sg} {l0 : Nat} {l1 : Int32} {l2 : Int32} {Z : Option Nat → sg → Prop} (h : nnWP X M_Routes_find k 2 [qr 11 (some l0), qi l1, qi l2, qi (0 : Int32)] [] g (zR 10 Z)) : nnMT X M_Routes_find k [qr 11 (some l0), qi l1, qi l2] g (zR 10 Z) := b_Routes_find_0 h

theorem b_Routes_find_2 {X : Nat × (Nat → Int32)} {k : Nat} {g : sg} {l0 : Nat} {l1 : Int32} {l2 : Int32} {l3 : Int32} {Z : Option Nat → sg → Prop} (h : ((gI g 705 l0 0) ≤ l3 → Z none g) ∧ (¬ (gI g 705 l0 0) ≤ l3 → gA g 704 l0 = some 50 ∧ vp_in l3 50 ∧ ∃ a1, gR g 704 l0 l3.toNatClampNeg = some a1 ∧ (¬ (gI g 640 a1 0) = l1 → nnWP X M_Routes_find k 2 [qr 11 (some l0), qi l1, qi l2, qi (l3 + 1)] [] g (zR 10 Z)) ∧ ((gI g 640 a1 0) = l1 → (¬ (gI g 641 a1 0) = l2 → nnWP X M_Routes_find k 2 [qr 11 (some l0), qi l1, qi l2, qi (l3 + 1)] [] g (zR 10 Z)) ∧ ((gI g 641 a1 0) = l2 → Z (gR g 704 l0 l3.toNatClampNeg) g)))) : nnWP X M_Routes_find k 2 [qr 11 (some l0), qi l1, qi l2, qi l3] [] g (zR 10 Z) := by
  refine wp_iload_n (i := 3) (x := l3) (dz dl_Routes_find_0 2 2 (.iload_n 3) 1 rfl) rfl rfl ?_
  refine wp_aload_n (i := 0) (v := qr 11 (some l0)) (dz dl_Routes_find_0 3 3 (.aload_n 0) 1 rfl) rfl rfl trivial ?_
  refine wp_getI l0 (dz dl_Routes_find_0 4 4 (.getfield 17) 3 rfl) lk_Routes_17 kd_705 rfl rfl ?_
  refine wp_icmp_ge (tgt := 49) (dz dl_Routes_find_0 5 7 (.if_icmp .ge (42)) 3 rfl) (by decide) (fun hc => ?_) (fun hc => ?_)
  · replace h := h.1 hc
    refine wp_null 10 (dz dl_Routes_find_0 27 49 (.aconst_null) 1 rfl) ?_
    exact wp_rt (qr 10 _) (rt_R rfl (dz dl_Routes_find_0 28 50 (.areturn) 1 rfl)) ⟨_, rfl, h⟩
  · replace h := h.2 hc
    refine wp_aload_n (i := 0) (v := qr 11 (some l0)) (dz dl_Routes_find_0 6 10 (.aload_n 0) 1 rfl) rfl rfl trivial ?_
    obtain ⟨n1, h⟩ := h
    refine wp_getA l0 50 (dz dl_Routes_find_0 7 11 (.getfield 11) 3 rfl) lk_Routes_11 (q := 1) kd_704 rfl rfl n1 ?_
    refine wp_iload_n (i := 3) (x := l3) (dz dl_Routes_find_0 8 14 (.iload_n 3) 1 rfl) rfl rfl ?_
    obtain ⟨i1, h⟩ := h
    refine wp_aald 50 (dz dl_Routes_find_0 9 15 (.aaload) 1 rfl) kd_704 n1 i1 ?_
    obtain ⟨a1, e1, h⟩ := h
    refine wp_getI a1 (dz dl_Routes_find_0 10 16 (.getfield 21) 3 rfl) lk_Routes_21 kd_640 rfl e1 ?_
    refine wp_iload_n (i := 1) (x := l1) (dz dl_Routes_find_0 11 19 (.iload_n 1) 1 rfl) rfl rfl ?_
    refine wp_icmp_ne (tgt := 43) (dz dl_Routes_find_0 12 20 (.if_icmp .ne (23)) 3 rfl) (by decide) (fun hc => ?_) (fun hc => ?_)
    · replace h := h.1 hc
      refine wp_iinc (i := 3) (v := l3 + 1) (dz dl_Routes_find_0 25 43 (.iinc 3 (1)) 3 rfl) rfl (congrArg (fun z => l3 + z) (by decide)) [qr 11 (some l0), qi l1, qi l2, qi (l3 + 1)] (by decide) rfl ?_
      refine wp_goto (tgt := 2) (dz dl_Routes_find_0 26 46 (.goto (-44)) 3 rfl) (by decide) ?_
      exact wp_cut h ⟨Or.inr rfl, Or.inr rfl, Or.inr rfl, Or.inr rfl, trivial⟩
    · replace h := h.2 hc
      refine wp_aload_n (i := 0) (v := qr 11 (some l0)) (dz dl_Routes_find_0 13 23 (.aload_n 0) 1 rfl) rfl rfl trivial ?_
      refine wp_getA l0 50 (dz dl_Routes_find_0 14 24 (.getfield 11) 3 rfl) lk_Routes_11 (q := 1) kd_704 rfl rfl n1 ?_
      refine wp_iload_n (i := 3) (x := l3) (dz dl_Routes_find_0 15 27 (.iload_n 3) 1 rfl) rfl rfl ?_
      refine wp_aald 50 (dz dl_Routes_find_0 16 28 (.aaload) 1 rfl) kd_704 n1 i1 ?_
      refine wp_getI a1 (dz dl_Routes_find_0 17 29 (.getfield 24) 3 rfl) lk_Routes_24 kd_641 rfl e1 ?_
      refine wp_iload_n (i := 2) (x := l2) (dz dl_Routes_find_0 18 32 (.iload_n 2) 1 rfl) rfl rfl ?_
      refine wp_icmp_ne (tgt := 43) (dz dl_Routes_find_0 19 33 (.if_icmp .ne (10)) 3 rfl) (by decide) (fun hc => ?_) (fun hc => ?_)
      · replace h := h.1 hc
        refine wp_iinc (i := 3) (v := l3 + 1) (dz dl_Routes_find_0 25 43 (.iinc 3 (1)) 3 rfl) rfl (congrArg (fun z => l3 + z) (by decide)) [qr 11 (some l0), qi l1, qi l2, qi (l3 + 1)] (by decide) rfl ?_
        refine wp_goto (tgt := 2) (dz dl_Routes_find_0 26 46 (.goto (-44)) 3 rfl) (by decide) ?_
        exact wp_cut h ⟨Or.inr rfl, Or.inr rfl, Or.inr rfl, Or.inr rfl, trivial⟩
      · replace h := h.2 hc
        refine wp_aload_n (i := 0) (v := qr 11 (some l0)) (dz dl_Routes_find_0 20 36 (.aload_n 0) 1 rfl) rfl rfl trivial ?_
        refine wp_getA l0 50 (dz dl_Routes_find_0 21 37 (.getfield 11) 3 rfl) lk_Routes_11 (q := 1) kd_704 rfl rfl n1 ?_
        refine wp_iload_n (i := 3) (x := l3) (dz dl_Routes_find_0 22 40 (.iload_n 3) 1 rfl) rfl rfl ?_
        refine wp_aald 50 (dz dl_Routes_find_0 23 41 (.aaload) 1 rfl) kd_704 n1 i1 ?_
        exact wp_rt (qr 10 _) (rt_R rfl (dz dl_Routes_find_0 24 42 (.areturn) 1 rfl)) ⟨_, rfl, h⟩

theorem b_Routes_make_0 {X : Nat × (Nat → Int32)} {k : Nat} {g : sg} {l0 : Nat} {l1 : Int32} {l2 : Int32} {Z : Option Nat → sg → Prop} (h : nnMT X M_Routes_countOf 0 [qr 11 (some l0), qi l1] g (zI fun r1 g1 => gExt g g1 → ((10 : Int32) ≤ r1 → Z none g1) ∧ (¬ (10 : Int32) ≤ r1 → gA g1 704 l0 = some 50 ∧ ((gI g1 705 l0 0) < (nI 50) → 1 ≤ k ∧ ∀ g2, g2 = pN g1 10 → 1 ≤ (k - 1) ∧ nnMT X M_Route_init 1 [qr 10 (some (gC g1 10)), qi l1, qi l2] g2 (zV fun g3 => gExt g2 g3 → vp_in (gI g3 705 l0 0) 50 ∧ ∀ g4, g4 = pR g3 704 l0 (gI g3 705 l0 0).toNatClampNeg (some (gC g1 10)) → ∀ g5, g5 = pI g4 705 l0 0 ((gI g4 705 l0 0) + (1 : Int32)) → Z (some (gC g1 10)) g5)) ∧ (¬ (gI g1 705 l0 0) < (nI 50) → Z none g1)))) : nnWP X M_Routes_make k 0 [qr 11 (some l0), qi l1, qi l2, none] [] g (zR 10 Z) := by
  refine wp_aload_n (i := 0) (v := qr 11 (some l0)) (dz dl_Routes_make_0 0 0 (.aload_n 0) 1 rfl) rfl rfl trivial ?_
  refine wp_iload_n (i := 1) (x := l1) (dz dl_Routes_make_0 1 1 (.iload_n 1) 1 rfl) rfl rfl ?_
  refine wp_callV l0 0 [qi l1] [] (dz dl_Routes_make_0 2 2 (.invokevirtual 27) 3 rfl) ok_Routes_countOf lm_Routes_27 (by decide) ws_Routes_countOf wv_Routes_countOf ⟨Nat.le_of_ble_eq_true rfl, Nat.le_of_ble_eq_true rfl⟩ pn_Routes_countOf (Nat.le_of_ble_eq_true rfl) (Nat.le_of_ble_eq_true rfl) rfl (Or.inl rfl) (Nat.zero_le _) (mt_mono h ?_)
  rintro _ g1 ⟨r1, rfl, h⟩ y1
  replace h := h y1.1
  show nnWP _ _ _ _ _ [qi r1] _ _
  refine wp_bipush (dz dl_Routes_make_0 3 5 (.bipush (10)) 2 rfl) (v := (10 : Int32)) (by decide) ?_
  refine wp_icmp_ge (tgt := 22) (dz dl_Routes_make_0 4 7 (.if_icmp .ge (15)) 3 rfl) (by decide) (fun hc => ?_) (fun hc => ?_)
  · replace h := h.1 hc
    refine wp_null 10 (dz dl_Routes_make_0 11 22 (.aconst_null) 1 rfl) ?_
    exact wp_rt (qr 10 _) (rt_R rfl (dz dl_Routes_make_0 12 23 (.areturn) 1 rfl)) ⟨_, rfl, h⟩
  · replace h := h.2 hc
    refine wp_aload_n (i := 0) (v := qr 11 (some l0)) (dz dl_Routes_make_0 5 10 (.aload_n 0) 1 rfl) rfl rfl trivial ?_
    refine wp_getI l0 (dz dl_Routes_make_0 6 11 (.getfield 17) 3 rfl) lk_Routes_17 kd_705 rfl rfl ?_
    refine wp_aload_n (i := 0) (v := qr 11 (some l0)) (dz dl_Routes_make_0 7 14 (.aload_n 0) 1 rfl) rfl rfl trivial ?_
    obtain ⟨n1, h⟩ := h
    refine wp_getA l0 50 (dz dl_Routes_make_0 8 15 (.getfield 11) 3 rfl) lk_Routes_11 (q := 1) kd_704 rfl rfl n1 ?_
    refine wp_alen 50 (dz dl_Routes_make_0 9 18 (.arraylength) 1 rfl) n1 ?_
    refine wp_icmp_lt (tgt := 24) (dz dl_Routes_make_0 10 19 (.if_icmp .lt (5)) 3 rfl) (by decide) (fun hc => ?_) (fun hc => ?_)
    · replace h := h.1 hc
      obtain ⟨u1, h⟩ := h
      have h := h _ rfl
      refine wp_new 1 (dz dl_Routes_make_0 13 24 (.new 9) 3 rfl) (by decide) wc_Routes_9 wi_10 wn_10 ⟨by decide, by decide⟩ rfl u1 ?_
      refine wp_dup (dz dl_Routes_make_0 14 27 (.dup) 1 rfl) ?_
      refine wp_iload_n (i := 1) (x := l1) (dz dl_Routes_make_0 15 28 (.iload_n 1) 1 rfl) rfl rfl ?_
      refine wp_iload_n (i := 2) (x := l2) (dz dl_Routes_make_0 16 29 (.iload_n 2) 1 rfl) rfl rfl ?_
      obtain ⟨u2, h⟩ := h
      refine wp_callI (gC g1 10) 1 [qi l1, qi l2] [qr 10 (some (gC g1 10))] (dz dl_Routes_make_0 17 30 (.invokespecial 31) 3 rfl) ok_Route_init rfl rfl lm_Routes_31 ws_Route_init ⟨Nat.le_of_ble_eq_true rfl, Nat.le_of_ble_eq_true rfl⟩ pn_Route_init (Nat.le_of_ble_eq_true rfl) (Nat.le_of_ble_eq_true rfl) rfl (Or.inl rfl) u2 (mt_mono h ?_)
      rintro _ g3 ⟨rfl, h⟩ y2
      replace h := h y2.1
      show nnWP _ _ _ _ _ [qr 10 (some (gC g1 10))] _ _
      refine wp_astore_n (i := 3) (dz dl_Routes_make_0 18 33 (.astore_n 3) 1 rfl) rfl [qr 11 (some l0), qi l1, qi l2, qr 10 (some (gC g1 10))] (by decide) trivial rfl ?_
      refine wp_aload_n (i := 0) (v := qr 11 (some l0)) (dz dl_Routes_make_0 19 34 (.aload_n 0) 1 rfl) rfl rfl trivial ?_
      refine wp_getA l0 50 (dz dl_Routes_make_0 20 35 (.getfield 11) 3 rfl) lk_Routes_11 (q := 1) kd_704 rfl rfl (y2.1.2 _ _ _ (gA_pN_ne (by decide) n1)) ?_
      refine wp_aload_n (i := 0) (v := qr 11 (some l0)) (dz dl_Routes_make_0 21 38 (.aload_n 0) 1 rfl) rfl rfl trivial ?_
      refine wp_getI l0 (dz dl_Routes_make_0 22 39 (.getfield 17) 3 rfl) lk_Routes_17 kd_705 rfl rfl ?_
      refine wp_aload_n (i := 3) (v := qr 10 (some (gC g1 10))) (dz dl_Routes_make_0 23 42 (.aload_n 3) 1 rfl) rfl rfl trivial ?_
      obtain ⟨i1, h⟩ := h
      have h := h _ rfl
      refine wp_aast 50 (dz dl_Routes_make_0 24 43 (.aastore) 1 rfl) kd_704 (by decide) (y2.1.2 _ _ _ (gA_pN_ne (by decide) n1)) i1 rfl ?_
      refine wp_aload_n (i := 0) (v := qr 11 (some l0)) (dz dl_Routes_make_0 25 44 (.aload_n 0) 1 rfl) rfl rfl trivial ?_
      refine wp_dup (dz dl_Routes_make_0 26 45 (.dup) 1 rfl) ?_
      refine wp_getI l0 (dz dl_Routes_make_0 27 46 (.getfield 17) 3 rfl) lk_Routes_17 kd_705 rfl rfl ?_
      refine wp_iconst (dz dl_Routes_make_0 28 49 (.iconst (1)) 1 rfl) (v := (1 : Int32)) (by decide) ?_
      refine wp_iadd (dz dl_Routes_make_0 29 50 (.iadd) 1 rfl) ?_
      have h := h _ rfl
      refine wp_putI l0 (dz dl_Routes_make_0 30 51 (.putfield 17) 3 rfl) lk_Routes_17 kd_705 rfl rfl rfl (okI_0 _) rfl ?_
      refine wp_aload_n (i := 3) (v := qr 10 (some (gC g1 10))) (dz dl_Routes_make_0 31 54 (.aload_n 3) 1 rfl) rfl rfl trivial ?_
      exact wp_rt (qr 10 _) (rt_R rfl (dz dl_Routes_make_0 32 55 (.areturn) 1 rfl)) ⟨_, rfl, h⟩
    · replace h := h.2 hc
      refine wp_null 10 (dz dl_Routes_make_0 11 22 (.aconst_null) 1 rfl) ?_
      exact wp_rt (qr 10 _) (rt_R rfl (dz dl_Routes_make_0 12 23 (.areturn) 1 rfl)) ⟨_, rfl, h⟩
theorem t_Routes_make {X : Nat × (Nat → Int32)} {k : Nat} {g : sg} {l0 : Nat} {l1 : Int32} {l2 : Int32} {Z : Option Nat → sg → Prop} (h : nnMT X M_Routes_countOf 0 [qr 11 (some l0), qi l1] g (zI fun r1 g1 => gExt g g1 → ((10 : Int32) ≤ r1 → Z none g1) ∧ (¬ (10 : Int32) ≤ r1 → gA g1 704 l0 = some 50 ∧ ((gI g1 705 l0 0) < (nI 50) → 1 ≤ k ∧ ∀ g2, g2 = pN g1 10 → 1 ≤ (k - 1) ∧ nnMT X M_Route_init 1 [qr 10 (some (gC g1 10)), qi l1, qi l2] g2 (zV fun g3 => gExt g2 g3 → vp_in (gI g3 705 l0 0) 50 ∧ ∀ g4, g4 = pR g3 704 l0 (gI g3 705 l0 0).toNatClampNeg (some (gC g1 10)) → ∀ g5, g5 = pI g4 705 l0 0 ((gI g4 705 l0 0) + (1 : Int32)) → Z (some (gC g1 10)) g5)) ∧ (¬ (gI g1 705 l0 0) < (nI 50) → Z none g1)))) : nnMT X M_Routes_make k [qr 11 (some l0), qi l1, qi l2] g (zR 10 Z) := b_Routes_make_0 h

theorem b_Routes_countOf_0 {X : Nat × (Nat → Int32)} {k : Nat} {g : sg} {l0 : Nat} {l1 : Int32} {Z : Int32 → sg → Prop} (h : nnWP X M_Routes_countOf k 4 [qr 11 (some l0), qi l1, qi (0 : Int32), qi (0 : Int32)] [] g (zI Z)) : nnWP X M_Routes_countOf k 0 [qr 11 (some l0), qi l1, none, none] [] g (zI Z) := by
  refine wp_iconst (dz dl_Routes_countOf_0 0 0 (.iconst (0)) 1 rfl) (v := (0 : Int32)) (by decide) ?_
  refine wp_istore_n (i := 2) (dz dl_Routes_countOf_0 1 1 (.istore_n 2) 1 rfl) rfl [qr 11 (some l0), qi l1, qi (0 : Int32), none] (by decide) rfl ?_
  refine wp_iconst (dz dl_Routes_countOf_0 2 2 (.iconst (0)) 1 rfl) (v := (0 : Int32)) (by decide) ?_
  refine wp_istore_n (i := 3) (dz dl_Routes_countOf_0 3 3 (.istore_n 3) 1 rfl) rfl [qr 11 (some l0), qi l1, qi (0 : Int32), qi (0 : Int32)] (by decide) rfl ?_
  exact wp_cut h ⟨Or.inr rfl, Or.inr rfl, Or.inr rfl, Or.inr rfl, trivial⟩
theorem t_Routes_countOf {X : Nat × (Nat → Int32)} {k : Nat} {g : sg} {l0 : Nat} {l1 : Int32} {Z : Int32 → sg → Prop} (h : nnWP X M_Routes_countOf k 4 [qr 11 (some l0), qi l1, qi (0 : Int32), qi (0 : Int32)] [] g (zI Z)) : nnMT X M_Routes_countOf k [qr 11 (some l0), qi l1] g (zI Z) := b_Routes_countOf_0 h

theorem b_Routes_countOf_4 {X : Nat × (Nat → Int32)} {k : Nat} {g : sg} {l0 : Nat} {l1 : Int32} {l2 : Int32} {l3 : Int32} {Z : Int32 → sg → Prop} (h : ((gI g 705 l0 0) ≤ l3 → Z l2 g) ∧ (¬ (gI g 705 l0 0) ≤ l3 → gA g 704 l0 = some 50 ∧ vp_in l3 50 ∧ ∃ a1, gR g 704 l0 l3.toNatClampNeg = some a1 ∧ (¬ (gI g 640 a1 0) = l1 → nnWP X M_Routes_countOf k 4 [qr 11 (some l0), qi l1, qi l2, qi (l3 + 1)] [] g (zI Z)) ∧ ((gI g 640 a1 0) = l1 → nnWP X M_Routes_countOf k 4 [qr 11 (some l0), qi l1, qi (l2 + 1), qi (l3 + 1)] [] g (zI Z)))) : nnWP X M_Routes_countOf k 4 [qr 11 (some l0), qi l1, qi l2, qi l3] [] g (zI Z) := by
  refine wp_iload_n (i := 3) (x := l3) (dz dl_Routes_countOf_0 4 4 (.iload_n 3) 1 rfl) rfl rfl ?_
  refine wp_aload_n (i := 0) (v := qr 11 (some l0)) (dz dl_Routes_countOf_0 5 5 (.aload_n 0) 1 rfl) rfl rfl trivial ?_
  refine wp_getI l0 (dz dl_Routes_countOf_0 6 6 (.getfield 17) 3 rfl) lk_Routes_17 kd_705 rfl rfl ?_
  refine wp_icmp_ge (tgt := 34) (dz dl_Routes_countOf_0 7 9 (.if_icmp .ge (25)) 3 rfl) (by decide) (fun hc => ?_) (fun hc => ?_)
  · replace h := h.1 hc
    refine wp_iload_n (i := 2) (x := l2) (dz dl_Routes_countOf_0 18 34 (.iload_n 2) 1 rfl) rfl rfl ?_
    exact wp_rt (qi _) (rt_I rfl (dz dl_Routes_countOf_0 19 35 (.ireturn) 1 rfl)) ⟨_, rfl, h⟩
  · replace h := h.2 hc
    refine wp_aload_n (i := 0) (v := qr 11 (some l0)) (dz dl_Routes_countOf_0 8 12 (.aload_n 0) 1 rfl) rfl rfl trivial ?_
    obtain ⟨n1, h⟩ := h
    refine wp_getA l0 50 (dz dl_Routes_countOf_0 9 13 (.getfield 11) 3 rfl) lk_Routes_11 (q := 1) kd_704 rfl rfl n1 ?_
    refine wp_iload_n (i := 3) (x := l3) (dz dl_Routes_countOf_0 10 16 (.iload_n 3) 1 rfl) rfl rfl ?_
    obtain ⟨i1, h⟩ := h
    refine wp_aald 50 (dz dl_Routes_countOf_0 11 17 (.aaload) 1 rfl) kd_704 n1 i1 ?_
    obtain ⟨a1, e1, h⟩ := h
    refine wp_getI a1 (dz dl_Routes_countOf_0 12 18 (.getfield 21) 3 rfl) lk_Routes_21 kd_640 rfl e1 ?_
    refine wp_iload_n (i := 1) (x := l1) (dz dl_Routes_countOf_0 13 21 (.iload_n 1) 1 rfl) rfl rfl ?_
    refine wp_icmp_ne (tgt := 28) (dz dl_Routes_countOf_0 14 22 (.if_icmp .ne (6)) 3 rfl) (by decide) (fun hc => ?_) (fun hc => ?_)
    · replace h := h.1 hc
      refine wp_iinc (i := 3) (v := l3 + 1) (dz dl_Routes_countOf_0 16 28 (.iinc 3 (1)) 3 rfl) rfl (congrArg (fun z => l3 + z) (by decide)) [qr 11 (some l0), qi l1, qi l2, qi (l3 + 1)] (by decide) rfl ?_
      refine wp_goto (tgt := 4) (dz dl_Routes_countOf_0 17 31 (.goto (-27)) 3 rfl) (by decide) ?_
      exact wp_cut h ⟨Or.inr rfl, Or.inr rfl, Or.inr rfl, Or.inr rfl, trivial⟩
    · replace h := h.2 hc
      refine wp_iinc (i := 2) (v := l2 + 1) (dz dl_Routes_countOf_0 15 25 (.iinc 2 (1)) 3 rfl) rfl (congrArg (fun z => l2 + z) (by decide)) [qr 11 (some l0), qi l1, qi (l2 + 1), qi l3] (by decide) rfl ?_
      refine wp_iinc (i := 3) (v := l3 + 1) (dz dl_Routes_countOf_0 16 28 (.iinc 3 (1)) 3 rfl) rfl (congrArg (fun z => l3 + z) (by decide)) [qr 11 (some l0), qi l1, qi (l2 + 1), qi (l3 + 1)] (by decide) rfl ?_
      refine wp_goto (tgt := 4) (dz dl_Routes_countOf_0 17 31 (.goto (-27)) 3 rfl) (by decide) ?_
      exact wp_cut h ⟨Or.inr rfl, Or.inr rfl, Or.inr rfl, Or.inr rfl, trivial⟩

theorem b_Routes_costOf_0 {X : Nat × (Nat → Int32)} {k : Nat} {g : sg} {l0 : Nat} {l1 : Int32} {l2 : Int32} {Z : Int32 → sg → Prop} (h : nnWP X M_Routes_costOf k 5 [qr 11 (some l0), qi l1, qi l2, qi (-1 : Int32), qi (0 : Int32), none] [] g (zI Z)) : nnWP X M_Routes_costOf k 0 [qr 11 (some l0), qi l1, qi l2, none, none, none] [] g (zI Z) := by
  refine wp_iconst (dz dl_Routes_costOf_0 0 0 (.iconst (-1)) 1 rfl) (v := (-1 : Int32)) (by decide) ?_
  refine wp_istore_n (i := 3) (dz dl_Routes_costOf_0 1 1 (.istore_n 3) 1 rfl) rfl [qr 11 (some l0), qi l1, qi l2, qi (-1 : Int32), none, none] (by decide) rfl ?_
  refine wp_iconst (dz dl_Routes_costOf_0 2 2 (.iconst (0)) 1 rfl) (v := (0 : Int32)) (by decide) ?_
  refine wp_istore (i := 4) (dz dl_Routes_costOf_0 3 3 (.istore 4) 2 rfl) [qr 11 (some l0), qi l1, qi l2, qi (-1 : Int32), qi (0 : Int32), none] (by decide) rfl ?_
  exact wp_cut h ⟨Or.inr rfl, Or.inr rfl, Or.inr rfl, Or.inr rfl, Or.inr rfl, Or.inl rfl, trivial⟩
theorem t_Routes_costOf {X : Nat × (Nat → Int32)} {k : Nat} {g : sg} {l0 : Nat} {l1 : Int32} {l2 : Int32} {Z : Int32 → sg → Prop} (h : nnWP X M_Routes_costOf k 5 [qr 11 (some l0), qi l1, qi l2, qi (-1 : Int32), qi (0 : Int32), none] [] g (zI Z)) : nnMT X M_Routes_costOf k [qr 11 (some l0), qi l1, qi l2] g (zI Z) := b_Routes_costOf_0 h

theorem b_Routes_costOf_5 {X : Nat × (Nat → Int32)} {k : Nat} {g : sg} {l0 : Nat} {l1 : Int32} {l2 : Int32} {l3 : Int32} {l4 : Int32} {Z : Int32 → sg → Prop} (h : ((gI g 705 l0 0) ≤ l4 → Z l3 g) ∧ (¬ (gI g 705 l0 0) ≤ l4 → gA g 704 l0 = some 50 ∧ vp_in l4 50 ∧ ∃ a1, gR g 704 l0 l4.toNatClampNeg = some a1 ∧ (¬ (gI g 641 a1 0) = l1 → ((-1 : Int32) = (-1 : Int32) → nnWP X M_Routes_costOf k 5 [qr 11 (some l0), qi l1, qi l2, qi l3, qi (l4 + 1), none] [] g (zI Z)) ∧ (¬ (-1 : Int32) = (-1 : Int32) → (l3 = (-1 : Int32) → nnWP X M_Routes_costOf k 5 [qr 11 (some l0), qi l1, qi l2, qi (-1 : Int32), qi (l4 + 1), none] [] g (zI Z)) ∧ (¬ l3 = (-1 : Int32) → (l3 ≤ (-1 : Int32) → nnWP X M_Routes_costOf k 5 [qr 11 (some l0), qi l1, qi l2, qi l3, qi (l4 + 1), none] [] g (zI Z)) ∧ (¬ l3 ≤ (-1 : Int32) → nnWP X M_Routes_costOf k 5 [qr 11 (some l0), qi l1, qi l2, qi (-1 : Int32), qi (l4 + 1), none] [] g (zI Z))))) ∧ ((gI g 641 a1 0) = l1 → gA g 643 a1 = some 5 ∧ vp_in l2 5 ∧ ((gI g 643 a1 l2.toNatClampNeg) = (-1 : Int32) → nnWP X M_Routes_costOf k 5 [qr 11 (some l0), qi l1, qi l2, qi l3, qi (l4 + 1), none] [] g (zI Z)) ∧ (¬ (gI g 643 a1 l2.toNatClampNeg) = (-1 : Int32) → (l3 = (-1 : Int32) → nnWP X M_Routes_costOf k 5 [qr 11 (some l0), qi l1, qi l2, qi (gI g 643 a1 l2.toNatClampNeg), qi (l4 + 1), none] [] g (zI Z)) ∧ (¬ l3 = (-1 : Int32) → (l3 ≤ (gI g 643 a1 l2.toNatClampNeg) → nnWP X M_Routes_costOf k 5 [qr 11 (some l0), qi l1, qi l2, qi l3, qi (l4 + 1), none] [] g (zI Z)) ∧ (¬ l3 ≤ (gI g 643 a1 l2.toNatClampNeg) → nnWP X M_Routes_costOf k 5 [qr 11 (some l0), qi l1, qi l2, qi (gI g 643 a1 l2.toNatClampNeg), qi (l4 + 1), none] [] g (zI Z))))))) : nnWP X M_Routes_costOf k 5 [qr 11 (some l0), qi l1, qi l2, qi l3, qi l4, none] [] g (zI Z) := by
  refine wp_iload (i := 4) (x := l4) (dz dl_Routes_costOf_0 4 5 (.iload 4) 2 rfl) rfl ?_
  refine wp_aload_n (i := 0) (v := qr 11 (some l0)) (dz dl_Routes_costOf_0 5 7 (.aload_n 0) 1 rfl) rfl rfl trivial ?_
  refine wp_getI l0 (dz dl_Routes_costOf_0 6 8 (.getfield 17) 3 rfl) lk_Routes_17 kd_705 rfl rfl ?_
  refine wp_icmp_ge (tgt := 72) (dz dl_Routes_costOf_0 7 11 (.if_icmp .ge (61)) 3 rfl) (by decide) (fun hc => ?_) (fun hc => ?_)
  · replace h := h.1 hc
    refine wp_iload_n (i := 3) (x := l3) (dz dl_Routes_costOf_0 38 72 (.iload_n 3) 1 rfl) rfl rfl ?_
    exact wp_rt (qi _) (rt_I rfl (dz dl_Routes_costOf_0 39 73 (.ireturn) 1 rfl)) ⟨_, rfl, h⟩
  · replace h := h.2 hc
    refine wp_aload_n (i := 0) (v := qr 11 (some l0)) (dz dl_Routes_costOf_0 8 14 (.aload_n 0) 1 rfl) rfl rfl trivial ?_
    obtain ⟨n1, h⟩ := h
    refine wp_getA l0 50 (dz dl_Routes_costOf_0 9 15 (.getfield 11) 3 rfl) lk_Routes_11 (q := 1) kd_704 rfl rfl n1 ?_
    refine wp_iload (i := 4) (x := l4) (dz dl_Routes_costOf_0 10 18 (.iload 4) 2 rfl) rfl ?_
    obtain ⟨i1, h⟩ := h
    refine wp_aald 50 (dz dl_Routes_costOf_0 11 20 (.aaload) 1 rfl) kd_704 n1 i1 ?_
    obtain ⟨a1, e1, h⟩ := h
    refine wp_getI a1 (dz dl_Routes_costOf_0 12 21 (.getfield 24) 3 rfl) lk_Routes_24 kd_641 rfl e1 ?_
    refine wp_iload_n (i := 1) (x := l1) (dz dl_Routes_costOf_0 13 24 (.iload_n 1) 1 rfl) rfl rfl ?_
    refine wp_icmp_ne (tgt := 43) (dz dl_Routes_costOf_0 14 25 (.if_icmp .ne (18)) 3 rfl) (by decide) (fun hc => ?_) (fun hc => ?_)
    · replace h := h.1 hc
      refine wp_iconst (dz dl_Routes_costOf_0 23 43 (.iconst (-1)) 1 rfl) (v := (-1 : Int32)) (by decide) ?_
      refine wp_istore (i := 5) (dz dl_Routes_costOf_0 24 44 (.istore 5) 2 rfl) [qr 11 (some l0), qi l1, qi l2, qi l3, qi l4, qi (-1 : Int32)] (by decide) rfl ?_
      refine wp_iload (i := 5) (x := (-1 : Int32)) (dz dl_Routes_costOf_0 25 46 (.iload 5) 2 rfl) rfl ?_
      refine wp_iconst (dz dl_Routes_costOf_0 26 48 (.iconst (-1)) 1 rfl) (v := (-1 : Int32)) (by decide) ?_
      refine wp_icmp_eq (tgt := 66) (dz dl_Routes_costOf_0 27 49 (.if_icmp .eq (17)) 3 rfl) (by decide) (fun hc => ?_) (fun hc => ?_)
      · replace h := h.1 hc
        refine wp_iinc (i := 4) (v := l4 + 1) (dz dl_Routes_costOf_0 36 66 (.iinc 4 (1)) 3 rfl) rfl (congrArg (fun z => l4 + z) (by decide)) [qr 11 (some l0), qi l1, qi l2, qi l3, qi (l4 + 1), qi (-1 : Int32)] (by decide) rfl ?_
        refine wp_goto (tgt := 5) (dz dl_Routes_costOf_0 37 69 (.goto (-64)) 3 rfl) (by decide) ?_
        exact wp_cut h ⟨Or.inr rfl, Or.inr rfl, Or.inr rfl, Or.inr rfl, Or.inr rfl, Or.inl rfl, trivial⟩
      · replace h := h.2 hc
        refine wp_iload_n (i := 3) (x := l3) (dz dl_Routes_costOf_0 28 52 (.iload_n 3) 1 rfl) rfl rfl ?_
        refine wp_iconst (dz dl_Routes_costOf_0 29 53 (.iconst (-1)) 1 rfl) (v := (-1 : Int32)) (by decide) ?_
        refine wp_icmp_eq (tgt := 63) (dz dl_Routes_costOf_0 30 54 (.if_icmp .eq (9)) 3 rfl) (by decide) (fun hc => ?_) (fun hc => ?_)
        · replace h := h.1 hc
          refine wp_iload (i := 5) (x := (-1 : Int32)) (dz dl_Routes_costOf_0 34 63 (.iload 5) 2 rfl) rfl ?_
          refine wp_istore_n (i := 3) (dz dl_Routes_costOf_0 35 65 (.istore_n 3) 1 rfl) rfl [qr 11 (some l0), qi l1, qi l2, qi (-1 : Int32), qi l4, qi (-1 : Int32)] (by decide) rfl ?_
          refine wp_iinc (i := 4) (v := l4 + 1) (dz dl_Routes_costOf_0 36 66 (.iinc 4 (1)) 3 rfl) rfl (congrArg (fun z => l4 + z) (by decide)) [qr 11 (some l0), qi l1, qi l2, qi (-1 : Int32), qi (l4 + 1), qi (-1 : Int32)] (by decide) rfl ?_
          refine wp_goto (tgt := 5) (dz dl_Routes_costOf_0 37 69 (.goto (-64)) 3 rfl) (by decide) ?_
          exact wp_cut h ⟨Or.inr rfl, Or.inr rfl, Or.inr rfl, Or.inr rfl, Or.inr rfl, Or.inl rfl, trivial⟩
        · replace h := h.2 hc
          refine wp_iload (i := 5) (x := (-1 : Int32)) (dz dl_Routes_costOf_0 31 57 (.iload 5) 2 rfl) rfl ?_
          refine wp_iload_n (i := 3) (x := l3) (dz dl_Routes_costOf_0 32 59 (.iload_n 3) 1 rfl) rfl rfl ?_
          refine wp_icmp_ge (tgt := 66) (dz dl_Routes_costOf_0 33 60 (.if_icmp .ge (6)) 3 rfl) (by decide) (fun hc => ?_) (fun hc => ?_)
          · replace h := h.1 hc
            refine wp_iinc (i := 4) (v := l4 + 1) (dz dl_Routes_costOf_0 36 66 (.iinc 4 (1)) 3 rfl) rfl (congrArg (fun z => l4 + z) (by decide)) [qr 11 (some l0), qi l1, qi l2, qi l3, qi (l4 + 1), qi (-1 : Int32)] (by decide) rfl ?_
            refine wp_goto (tgt := 5) (dz dl_Routes_costOf_0 37 69 (.goto (-64)) 3 rfl) (by decide) ?_
            exact wp_cut h ⟨Or.inr rfl, Or.inr rfl, Or.inr rfl, Or.inr rfl, Or.inr rfl, Or.inl rfl, trivial⟩
          · replace h := h.2 hc
            refine wp_iload (i := 5) (x := (-1 : Int32)) (dz dl_Routes_costOf_0 34 63 (.iload 5) 2 rfl) rfl ?_
            refine wp_istore_n (i := 3) (dz dl_Routes_costOf_0 35 65 (.istore_n 3) 1 rfl) rfl [qr 11 (some l0), qi l1, qi l2, qi (-1 : Int32), qi l4, qi (-1 : Int32)] (by decide) rfl ?_
            refine wp_iinc (i := 4) (v := l4 + 1) (dz dl_Routes_costOf_0 36 66 (.iinc 4 (1)) 3 rfl) rfl (congrArg (fun z => l4 + z) (by decide)) [qr 11 (some l0), qi l1, qi l2, qi (-1 : Int32), qi (l4 + 1), qi (-1 : Int32)] (by decide) rfl ?_
            refine wp_goto (tgt := 5) (dz dl_Routes_costOf_0 37 69 (.goto (-64)) 3 rfl) (by decide) ?_
            exact wp_cut h ⟨Or.inr rfl, Or.inr rfl, Or.inr rfl, Or.inr rfl, Or.inr rfl, Or.inl rfl, trivial⟩
    · replace h := h.2 hc
      refine wp_aload_n (i := 0) (v := qr 11 (some l0)) (dz dl_Routes_costOf_0 15 28 (.aload_n 0) 1 rfl) rfl rfl trivial ?_
      refine wp_getA l0 50 (dz dl_Routes_costOf_0 16 29 (.getfield 11) 3 rfl) lk_Routes_11 (q := 1) kd_704 rfl rfl n1 ?_
      refine wp_iload (i := 4) (x := l4) (dz dl_Routes_costOf_0 17 32 (.iload 4) 2 rfl) rfl ?_
      refine wp_aald 50 (dz dl_Routes_costOf_0 18 34 (.aaload) 1 rfl) kd_704 n1 i1 ?_
      obtain ⟨n2, h⟩ := h
      refine wp_getA a1 5 (dz dl_Routes_costOf_0 19 35 (.getfield 34) 3 rfl) lk_Routes_34 (q := 0) kd_643 rfl e1 n2 ?_
      refine wp_iload_n (i := 2) (x := l2) (dz dl_Routes_costOf_0 20 38 (.iload_n 2) 1 rfl) rfl rfl ?_
      obtain ⟨i2, h⟩ := h
      refine wp_iald 5 (dz dl_Routes_costOf_0 21 39 (.iaload) 1 rfl) kd_643 n2 i2 ?_
      refine wp_goto (tgt := 44) (dz dl_Routes_costOf_0 22 40 (.goto (4)) 3 rfl) (by decide) ?_
      refine wp_istore (i := 5) (dz dl_Routes_costOf_0 24 44 (.istore 5) 2 rfl) [qr 11 (some l0), qi l1, qi l2, qi l3, qi l4, qi (gI g 643 a1 l2.toNatClampNeg)] (by decide) rfl ?_
      refine wp_iload (i := 5) (x := gI g 643 a1 l2.toNatClampNeg) (dz dl_Routes_costOf_0 25 46 (.iload 5) 2 rfl) rfl ?_
      refine wp_iconst (dz dl_Routes_costOf_0 26 48 (.iconst (-1)) 1 rfl) (v := (-1 : Int32)) (by decide) ?_
      refine wp_icmp_eq (tgt := 66) (dz dl_Routes_costOf_0 27 49 (.if_icmp .eq (17)) 3 rfl) (by decide) (fun hc => ?_) (fun hc => ?_)
      · replace h := h.1 hc
        refine wp_iinc (i := 4) (v := l4 + 1) (dz dl_Routes_costOf_0 36 66 (.iinc 4 (1)) 3 rfl) rfl (congrArg (fun z => l4 + z) (by decide)) [qr 11 (some l0), qi l1, qi l2, qi l3, qi (l4 + 1), qi (gI g 643 a1 l2.toNatClampNeg)] (by decide) rfl ?_
        refine wp_goto (tgt := 5) (dz dl_Routes_costOf_0 37 69 (.goto (-64)) 3 rfl) (by decide) ?_
        exact wp_cut h ⟨Or.inr rfl, Or.inr rfl, Or.inr rfl, Or.inr rfl, Or.inr rfl, Or.inl rfl, trivial⟩
      · replace h := h.2 hc
        refine wp_iload_n (i := 3) (x := l3) (dz dl_Routes_costOf_0 28 52 (.iload_n 3) 1 rfl) rfl rfl ?_
        refine wp_iconst (dz dl_Routes_costOf_0 29 53 (.iconst (-1)) 1 rfl) (v := (-1 : Int32)) (by decide) ?_
        refine wp_icmp_eq (tgt := 63) (dz dl_Routes_costOf_0 30 54 (.if_icmp .eq (9)) 3 rfl) (by decide) (fun hc => ?_) (fun hc => ?_)
        · replace h := h.1 hc
          refine wp_iload (i := 5) (x := gI g 643 a1 l2.toNatClampNeg) (dz dl_Routes_costOf_0 34 63 (.iload 5) 2 rfl) rfl ?_
          refine wp_istore_n (i := 3) (dz dl_Routes_costOf_0 35 65 (.istore_n 3) 1 rfl) rfl [qr 11 (some l0), qi l1, qi l2, qi (gI g 643 a1 l2.toNatClampNeg), qi l4, qi (gI g 643 a1 l2.toNatClampNeg)] (by decide) rfl ?_
          refine wp_iinc (i := 4) (v := l4 + 1) (dz dl_Routes_costOf_0 36 66 (.iinc 4 (1)) 3 rfl) rfl (congrArg (fun z => l4 + z) (by decide)) [qr 11 (some l0), qi l1, qi l2, qi (gI g 643 a1 l2.toNatClampNeg), qi (l4 + 1), qi (gI g 643 a1 l2.toNatClampNeg)] (by decide) rfl ?_
          refine wp_goto (tgt := 5) (dz dl_Routes_costOf_0 37 69 (.goto (-64)) 3 rfl) (by decide) ?_
          exact wp_cut h ⟨Or.inr rfl, Or.inr rfl, Or.inr rfl, Or.inr rfl, Or.inr rfl, Or.inl rfl, trivial⟩
        · replace h := h.2 hc
          refine wp_iload (i := 5) (x := gI g 643 a1 l2.toNatClampNeg) (dz dl_Routes_costOf_0 31 57 (.iload 5) 2 rfl) rfl ?_
          refine wp_iload_n (i := 3) (x := l3) (dz dl_Routes_costOf_0 32 59 (.iload_n 3) 1 rfl) rfl rfl ?_
          refine wp_icmp_ge (tgt := 66) (dz dl_Routes_costOf_0 33 60 (.if_icmp .ge (6)) 3 rfl) (by decide) (fun hc => ?_) (fun hc => ?_)
          · replace h := h.1 hc
            refine wp_iinc (i := 4) (v := l4 + 1) (dz dl_Routes_costOf_0 36 66 (.iinc 4 (1)) 3 rfl) rfl (congrArg (fun z => l4 + z) (by decide)) [qr 11 (some l0), qi l1, qi l2, qi l3, qi (l4 + 1), qi (gI g 643 a1 l2.toNatClampNeg)] (by decide) rfl ?_
            refine wp_goto (tgt := 5) (dz dl_Routes_costOf_0 37 69 (.goto (-64)) 3 rfl) (by decide) ?_
            exact wp_cut h ⟨Or.inr rfl, Or.inr rfl, Or.inr rfl, Or.inr rfl, Or.inr rfl, Or.inl rfl, trivial⟩
          · replace h := h.2 hc
            refine wp_iload (i := 5) (x := gI g 643 a1 l2.toNatClampNeg) (dz dl_Routes_costOf_0 34 63 (.iload 5) 2 rfl) rfl ?_
            refine wp_istore_n (i := 3) (dz dl_Routes_costOf_0 35 65 (.istore_n 3) 1 rfl) rfl [qr 11 (some l0), qi l1, qi l2, qi (gI g 643 a1 l2.toNatClampNeg), qi l4, qi (gI g 643 a1 l2.toNatClampNeg)] (by decide) rfl ?_
            refine wp_iinc (i := 4) (v := l4 + 1) (dz dl_Routes_costOf_0 36 66 (.iinc 4 (1)) 3 rfl) rfl (congrArg (fun z => l4 + z) (by decide)) [qr 11 (some l0), qi l1, qi l2, qi (gI g 643 a1 l2.toNatClampNeg), qi (l4 + 1), qi (gI g 643 a1 l2.toNatClampNeg)] (by decide) rfl ?_
            refine wp_goto (tgt := 5) (dz dl_Routes_costOf_0 37 69 (.goto (-64)) 3 rfl) (by decide) ?_
            exact wp_cut h ⟨Or.inr rfl, Or.inr rfl, Or.inr rfl, Or.inr rfl, Or.inr rfl, Or.inl rfl, trivial⟩

theorem b_Routes_longestPrefix_0 {X : Nat × (Nat → Int32)} {k : Nat} {g : sg} {l0 : Nat} {l1 : Int32} {l2 : Option Nat} {Z : Int32 → sg → Prop} (h : nnWP X M_Routes_longestPrefix k 5 [qr 11 (some l0), none, qr 5 l2, qi l1, qi (0 : Int32), none] [] g (zI Z)) : nnWP X M_Routes_longestPrefix k 0 [qr 11 (some l0), qi l1, qr 5 l2, none, none, none] [] g (zI Z) := by
  refine wp_iload_n (i := 1) (x := l1) (dz dl_Routes_longestPrefix_0 0 0 (.iload_n 1) 1 rfl) rfl rfl ?_
  refine wp_istore_n (i := 3) (dz dl_Routes_longestPrefix_0 1 1 (.istore_n 3) 1 rfl) rfl [qr 11 (some l0), qi l1, qr 5 l2, qi l1, none, none] (by decide) rfl ?_
  refine wp_iconst (dz dl_Routes_longestPrefix_0 2 2 (.iconst (0)) 1 rfl) (v := (0 : Int32)) (by decide) ?_
  refine wp_istore (i := 4) (dz dl_Routes_longestPrefix_0 3 3 (.istore 4) 2 rfl) [qr 11 (some l0), qi l1, qr 5 l2, qi l1, qi (0 : Int32), none] (by decide) rfl ?_
  exact wp_cut h ⟨Or.inr rfl, Or.inl rfl, Or.inr rfl, Or.inr rfl, Or.inr rfl, Or.inl rfl, trivial⟩
theorem t_Routes_longestPrefix {X : Nat × (Nat → Int32)} {k : Nat} {g : sg} {l0 : Nat} {l1 : Int32} {l2 : Option Nat} {Z : Int32 → sg → Prop} (h : nnWP X M_Routes_longestPrefix k 5 [qr 11 (some l0), none, qr 5 l2, qi l1, qi (0 : Int32), none] [] g (zI Z)) : nnMT X M_Routes_longestPrefix k [qr 11 (some l0), qi l1, qr 5 l2] g (zI Z) := b_Routes_longestPrefix_0 h

theorem b_Routes_longestPrefix_5 {X : Nat × (Nat → Int32)} {k : Nat} {g : sg} {l0 : Nat} {l2 : Option Nat} {l3 : Int32} {l4 : Int32} {Z : Int32 → sg → Prop} (h : ((4 : Int32) < l4 → Z (-1 : Int32) g) ∧ (¬ (4 : Int32) < l4 → (l3 = (-1 : Int32) → Z (-1 : Int32) g) ∧ (¬ l3 = (-1 : Int32) → nnWP X M_Routes_longestPrefix k 19 [qr 11 (some l0), none, qr 5 l2, qi l3, qi l4, qi (0 : Int32)] [] g (zI Z)))) : nnWP X M_Routes_longestPrefix k 5 [qr 11 (some l0), none, qr 5 l2, qi l3, qi l4, none] [] g (zI Z) := by
  refine wp_iload (i := 4) (x := l4) (dz dl_Routes_longestPrefix_0 4 5 (.iload 4) 2 rfl) rfl ?_
  refine wp_iconst (dz dl_Routes_longestPrefix_0 5 7 (.iconst (4)) 1 rfl) (v := (4 : Int32)) (by decide) ?_
  refine wp_icmp_gt (tgt := 76) (dz dl_Routes_longestPrefix_0 6 8 (.if_icmp .gt (68)) 3 rfl) (by decide) (fun hc => ?_) (fun hc => ?_)
  · replace h := h.1 hc
    refine wp_iconst (dz dl_Routes_longestPrefix_1 0 76 (.iconst (-1)) 1 rfl) (v := (-1 : Int32)) (by decide) ?_
    exact wp_rt (qi _) (rt_I rfl (dz dl_Routes_longestPrefix_1 1 77 (.ireturn) 1 rfl)) ⟨_, rfl, h⟩
  · replace h := h.2 hc
    refine wp_iload_n (i := 3) (x := l3) (dz dl_Routes_longestPrefix_0 7 11 (.iload_n 3) 1 rfl) rfl rfl ?_
    refine wp_iconst (dz dl_Routes_longestPrefix_0 8 12 (.iconst (-1)) 1 rfl) (v := (-1 : Int32)) (by decide) ?_
    refine wp_icmp_eq (tgt := 76) (dz dl_Routes_longestPrefix_0 9 13 (.if_icmp .eq (63)) 3 rfl) (by decide) (fun hc => ?_) (fun hc => ?_)
    · replace h := h.1 hc
      refine wp_iconst (dz dl_Routes_longestPrefix_1 0 76 (.iconst (-1)) 1 rfl) (v := (-1 : Int32)) (by decide) ?_
      exact wp_rt (qi _) (rt_I rfl (dz dl_Routes_longestPrefix_1 1 77 (.ireturn) 1 rfl)) ⟨_, rfl, h⟩
    · replace h := h.2 hc
      refine wp_iconst (dz dl_Routes_longestPrefix_0 10 16 (.iconst (0)) 1 rfl) (v := (0 : Int32)) (by decide) ?_
      refine wp_istore (i := 5) (dz dl_Routes_longestPrefix_0 11 17 (.istore 5) 2 rfl) [qr 11 (some l0), none, qr 5 l2, qi l3, qi l4, qi (0 : Int32)] (by decide) rfl ?_
      exact wp_cut h ⟨Or.inr rfl, Or.inl rfl, Or.inr rfl, Or.inr rfl, Or.inr rfl, Or.inr rfl, trivial⟩

theorem b_Routes_longestPrefix_19 {X : Nat × (Nat → Int32)} {k : Nat} {g : sg} {l0 : Nat} {l2 : Option Nat} {l3 : Int32} {l4 : Int32} {l5 : Int32} {Z : Int32 → sg → Prop} (h : ((gI g 705 l0 0) ≤ l5 → ∃ a1, l2 = some a1 ∧ nnMT X M_Names_shorterOf 0 [qr 5 (some a1), qi l3] g (zI fun r1 g1 => gExt g g1 → nnWP X M_Routes_longestPrefix k 5 [qr 11 (some l0), none, qr 5 l2, qi r1, qi (l4 + 1), none] [] g1 (zI Z))) ∧ (¬ (gI g 705 l0 0) ≤ l5 → gA g 704 l0 = some 50 ∧ vp_in l5 50 ∧ ∃ a2, gR g 704 l0 l5.toNatClampNeg = some a2 ∧ (¬ (gI g 641 a2 0) = l3 → nnWP X M_Routes_longestPrefix k 19 [qr 11 (some l0), none, qr 5 l2, qi l3, qi l4, qi (l5 + 1)] [] g (zI Z)) ∧ ((gI g 641 a2 0) = l3 → nnMT X M_Route_least 0 [qr 10 (some a2)] g (zI fun r2 g2 => gExt g g2 → (r2 = (-1 : Int32) → nnWP X M_Routes_longestPrefix k 19 [qr 11 (some l0), none, qr 5 l2, qi l3, qi l4, qi (l5 + 1)] [] g2 (zI Z)) ∧ (¬ r2 = (-1 : Int32) → Z l3 g2))))) : nnWP X M_Routes_longestPrefix k 19 [qr 11 (some l0), none, qr 5 l2, qi l3, qi l4, qi l5] [] g (zI Z) := by
  refine wp_iload (i := 5) (x := l5) (dz dl_Routes_longestPrefix_0 12 19 (.iload 5) 2 rfl) rfl ?_
  refine wp_aload_n (i := 0) (v := qr 11 (some l0)) (dz dl_Routes_longestPrefix_0 13 21 (.aload_n 0) 1 rfl) rfl rfl trivial ?_
  refine wp_getI l0 (dz dl_Routes_longestPrefix_0 14 22 (.getfield 17) 3 rfl) lk_Routes_17 kd_705 rfl rfl ?_
  refine wp_icmp_ge (tgt := 64) (dz dl_Routes_longestPrefix_0 15 25 (.if_icmp .ge (39)) 3 rfl) (by decide) (fun hc => ?_) (fun hc => ?_)
  · replace h := h.1 hc
    refine wp_aload_n (i := 2) (v := qr 5 l2) (dz dl_Routes_longestPrefix_0 34 64 (.aload_n 2) 1 rfl) rfl rfl trivial ?_
    refine wp_iload_n (i := 3) (x := l3) (dz dl_Routes_longestPrefix_0 35 65 (.iload_n 3) 1 rfl) rfl rfl ?_
    obtain ⟨a1, e1, h⟩ := h
    refine wp_callV a1 0 [qi l3] [] (dz dl_Routes_longestPrefix_0 36 66 (.invokevirtual 42) 3 rfl) ok_Names_shorterOf lm_Routes_42 (by decide) ws_Names_shorterOf wv_Names_shorterOf ⟨Nat.le_of_ble_eq_true rfl, Nat.le_of_ble_eq_true rfl⟩ pn_Names_shorterOf (Nat.le_of_ble_eq_true rfl) (Nat.le_of_ble_eq_true rfl) e1 (Or.inl rfl) (Nat.zero_le _) (mt_mono h ?_)
    rintro _ g1 ⟨r1, rfl, h⟩ y1
    replace h := h y1.1
    show nnWP _ _ _ _ _ [qi r1] _ _
    refine wp_istore_n (i := 3) (dz dl_Routes_longestPrefix_0 37 69 (.istore_n 3) 1 rfl) rfl [qr 11 (some l0), none, qr 5 l2, qi r1, qi l4, qi l5] (by decide) rfl ?_
    refine wp_iinc (i := 4) (v := l4 + 1) (dz dl_Routes_longestPrefix_0 38 70 (.iinc 4 (1)) 3 rfl) rfl (congrArg (fun z => l4 + z) (by decide)) [qr 11 (some l0), none, qr 5 l2, qi r1, qi (l4 + 1), qi l5] (by decide) rfl ?_
    refine wp_goto (tgt := 5) (dz dl_Routes_longestPrefix_0 39 73 (.goto (-68)) 3 rfl) (by decide) ?_
    exact wp_cut h ⟨Or.inr rfl, Or.inl rfl, Or.inr rfl, Or.inr rfl, Or.inr rfl, Or.inl rfl, trivial⟩
  · replace h := h.2 hc
    refine wp_aload_n (i := 0) (v := qr 11 (some l0)) (dz dl_Routes_longestPrefix_0 16 28 (.aload_n 0) 1 rfl) rfl rfl trivial ?_
    obtain ⟨n1, h⟩ := h
    refine wp_getA l0 50 (dz dl_Routes_longestPrefix_0 17 29 (.getfield 11) 3 rfl) lk_Routes_11 (q := 1) kd_704 rfl rfl n1 ?_
    refine wp_iload (i := 5) (x := l5) (dz dl_Routes_longestPrefix_0 18 32 (.iload 5) 2 rfl) rfl ?_
    obtain ⟨i1, h⟩ := h
    refine wp_aald 50 (dz dl_Routes_longestPrefix_0 19 34 (.aaload) 1 rfl) kd_704 n1 i1 ?_
    obtain ⟨a2, e2, h⟩ := h
    refine wp_getI a2 (dz dl_Routes_longestPrefix_0 20 35 (.getfield 24) 3 rfl) lk_Routes_24 kd_641 rfl e2 ?_
    refine wp_iload_n (i := 3) (x := l3) (dz dl_Routes_longestPrefix_0 21 38 (.iload_n 3) 1 rfl) rfl rfl ?_
    refine wp_icmp_ne (tgt := 58) (dz dl_Routes_longestPrefix_0 22 39 (.if_icmp .ne (19)) 3 rfl) (by decide) (fun hc => ?_) (fun hc => ?_)
    · replace h := h.1 hc
      refine wp_iinc (i := 5) (v := l5 + 1) (dz dl_Routes_longestPrefix_0 32 58 (.iinc 5 (1)) 3 rfl) rfl (congrArg (fun z => l5 + z) (by decide)) [qr 11 (some l0), none, qr 5 l2, qi l3, qi l4, qi (l5 + 1)] (by decide) rfl ?_
      refine wp_goto (tgt := 19) (dz dl_Routes_longestPrefix_0 33 61 (.goto (-42)) 3 rfl) (by decide) ?_
      exact wp_cut h ⟨Or.inr rfl, Or.inl rfl, Or.inr rfl, Or.inr rfl, Or.inr rfl, Or.inr rfl, trivial⟩
    · replace h := h.2 hc
      refine wp_aload_n (i := 0) (v := qr 11 (some l0)) (dz dl_Routes_longestPrefix_0 23 42 (.aload_n 0) 1 rfl) rfl rfl trivial ?_
      refine wp_getA l0 50 (dz dl_Routes_longestPrefix_0 24 43 (.getfield 11) 3 rfl) lk_Routes_11 (q := 1) kd_704 rfl rfl n1 ?_
      refine wp_iload (i := 5) (x := l5) (dz dl_Routes_longestPrefix_0 25 46 (.iload 5) 2 rfl) rfl ?_
      refine wp_aald 50 (dz dl_Routes_longestPrefix_0 26 48 (.aaload) 1 rfl) kd_704 n1 i1 ?_
      refine wp_callV a2 0 [] [] (dz dl_Routes_longestPrefix_0 27 49 (.invokevirtual 38) 3 rfl) ok_Route_least lm_Routes_38 (by decide) ws_Route_least wv_Route_least ⟨Nat.le_of_ble_eq_true rfl, Nat.le_of_ble_eq_true rfl⟩ pn_Route_least (Nat.le_of_ble_eq_true rfl) (Nat.le_of_ble_eq_true rfl) e2 (Or.inl rfl) (Nat.zero_le _) (mt_mono h ?_)
      rintro _ g2 ⟨r2, rfl, h⟩ y2
      replace h := h y2.1
      show nnWP _ _ _ _ _ [qi r2] _ _
      refine wp_iconst (dz dl_Routes_longestPrefix_0 28 52 (.iconst (-1)) 1 rfl) (v := (-1 : Int32)) (by decide) ?_
      refine wp_icmp_eq (tgt := 58) (dz dl_Routes_longestPrefix_0 29 53 (.if_icmp .eq (5)) 3 rfl) (by decide) (fun hc => ?_) (fun hc => ?_)
      · replace h := h.1 hc
        refine wp_iinc (i := 5) (v := l5 + 1) (dz dl_Routes_longestPrefix_0 32 58 (.iinc 5 (1)) 3 rfl) rfl (congrArg (fun z => l5 + z) (by decide)) [qr 11 (some l0), none, qr 5 l2, qi l3, qi l4, qi (l5 + 1)] (by decide) rfl ?_
        refine wp_goto (tgt := 19) (dz dl_Routes_longestPrefix_0 33 61 (.goto (-42)) 3 rfl) (by decide) ?_
        exact wp_cut h ⟨Or.inr rfl, Or.inl rfl, Or.inr rfl, Or.inr rfl, Or.inr rfl, Or.inr rfl, trivial⟩
      · replace h := h.2 hc
        refine wp_iload_n (i := 3) (x := l3) (dz dl_Routes_longestPrefix_0 30 56 (.iload_n 3) 1 rfl) rfl rfl ?_
        exact wp_rt (qi _) (rt_I rfl (dz dl_Routes_longestPrefix_0 31 57 (.ireturn) 1 rfl)) ⟨_, rfl, h⟩

theorem b_Store_init_0 {X : Nat × (Nat → Int32)} {k : Nat} {g : sg} {l0 : Nat} {l1 : Int32} {Z : sg → Prop} (h : ∃ m1, l1 = nI m1 ∧ m1 ≤ 16 ∧ 1 ≤ k ∧ gA g 768 l0 = none ∧ ∀ g1, g1 = pA g 768 l0 m1 → ∃ m2, l1 = nI m2 ∧ m2 ≤ 16 ∧ 1 ≤ (k - 1) ∧ gA g1 769 l0 = none ∧ ∀ g2, g2 = pA g1 769 l0 m2 → Z g2) : nnWP X M_Store_init k 0 [qr 12 (some l0), qi l1] [] g (zV Z) := by
  refine wp_aload_n (i := 0) (v := qr 12 (some l0)) (dz dl_Store_init_0 0 0 (.aload_n 0) 1 rfl) rfl rfl trivial ?_
  refine wp_objInit l0 (dz dl_Store_init_0 1 1 (.invokespecial 3) 3 rfl) wm_Store_3 w_oi w_oc (by decide) (by decide) (Nat.le_of_ble_eq_true rfl) rfl ?_
  refine wp_aload_n (i := 0) (v := qr 12 (some l0)) (dz dl_Store_init_0 2 4 (.aload_n 0) 1 rfl) rfl rfl trivial ?_
  refine wp_iload_n (i := 1) (x := l1) (dz dl_Store_init_0 3 5 (.iload_n 1) 1 rfl) rfl rfl ?_
  obtain ⟨m1, x1, h⟩ := h
  obtain ⟨b1, h⟩ := h
  obtain ⟨u1, h⟩ := h
  obtain ⟨q1, h⟩ := h
  have h := h _ rfl
  refine wp_newR (n := m1) l0 1 (dz dl_Store_init_0 4 6 (.anewarray 9) 3 rfl) (dz dl_Store_init_0 5 9 (.putfield 11) 3 rfl) wf_Store_11 kd_768 (by decide) wc_Store_9 (by decide) rfl rfl x1 b1 (Nat.le_trans b1 (by decide)) (by decide) u1 q1 rfl ?_
  refine wp_aload_n (i := 0) (v := qr 12 (some l0)) (dz dl_Store_init_0 6 12 (.aload_n 0) 1 rfl) rfl rfl trivial ?_
  refine wp_iload_n (i := 1) (x := l1) (dz dl_Store_init_0 7 13 (.iload_n 1) 1 rfl) rfl rfl ?_
  obtain ⟨m2, x2, h⟩ := h
  obtain ⟨b2, h⟩ := h
  obtain ⟨u2, h⟩ := h
  obtain ⟨q2, h⟩ := h
  have h := h _ rfl
  refine wp_newA (n := m2) l0 1 (dz dl_Store_init_0 8 14 (.newarray .int) 2 rfl) (dz dl_Store_init_0 9 16 (.putfield 17) 3 rfl) wf_Store_17 kd_769 rfl (by decide) (by decide) wa_0 rfl rfl x2 b2 (Nat.le_trans b2 (by decide)) (by decide) u2 q2 rfl ?_
  exact wp_rt none (rt_V rfl (dz dl_Store_init_0 10 19 (.return_) 1 rfl)) ⟨rfl, h⟩
theorem t_Store_init {X : Nat × (Nat → Int32)} {k : Nat} {g : sg} {l0 : Nat} {l1 : Int32} {Z : sg → Prop} (h : ∃ m1, l1 = nI m1 ∧ m1 ≤ 16 ∧ 1 ≤ k ∧ gA g 768 l0 = none ∧ ∀ g1, g1 = pA g 768 l0 m1 → ∃ m2, l1 = nI m2 ∧ m2 ≤ 16 ∧ 1 ≤ (k - 1) ∧ gA g1 769 l0 = none ∧ ∀ g2, g2 = pA g1 769 l0 m2 → Z g2) : nnMT X M_Store_init k [qr 12 (some l0), qi l1] g (zV Z) := b_Store_init_0 h

theorem b_Store_placeOf_0 {X : Nat × (Nat → Int32)} {k : Nat} {g : sg} {l0 : Nat} {l1 : Int32} {Z : Int32 → sg → Prop} (h : nnWP X M_Store_placeOf k 2 [qr 12 (some l0), qi l1, qi (0 : Int32)] [] g (zI Z)) : nnWP X M_Store_placeOf k 0 [qr 12 (some l0), qi l1, none] [] g (zI Z) := by
  refine wp_iconst (dz dl_Store_placeOf_0 0 0 (.iconst (0)) 1 rfl) (v := (0 : Int32)) (by decide) ?_
  refine wp_istore_n (i := 2) (dz dl_Store_placeOf_0 1 1 (.istore_n 2) 1 rfl) rfl [qr 12 (some l0), qi l1, qi (0 : Int32)] (by decide) rfl ?_
  exact wp_cut h ⟨Or.inr rfl, Or.inr rfl, Or.inr rfl, trivial⟩
theorem t_Store_placeOf {X : Nat × (Nat → Int32)} {k : Nat} {g : sg} {l0 : Nat} {l1 : Int32} {Z : Int32 → sg → Prop} (h : nnWP X M_Store_placeOf k 2 [qr 12 (some l0), qi l1, qi (0 : Int32)] [] g (zI Z)) : nnMT X M_Store_placeOf k [qr 12 (some l0), qi l1] g (zI Z) := b_Store_placeOf_0 h

theorem b_Store_placeOf_2 {X : Nat × (Nat → Int32)} {k : Nat} {g : sg} {l0 : Nat} {l1 : Int32} {l2 : Int32} {Z : Int32 → sg → Prop} (h : ((gI g 770 l0 0) ≤ l2 → Z (-1 : Int32) g) ∧ (¬ (gI g 770 l0 0) ≤ l2 → ∃ m1, gA g 768 l0 = some m1 ∧ vp_in l2 m1 ∧ ∃ a1, gR g 768 l0 l2.toNatClampNeg = some a1 ∧ (¬ (gI g 449 a1 0) = l1 → nnWP X M_Store_placeOf k 2 [qr 12 (some l0), qi l1, qi (l2 + 1)] [] g (zI Z)) ∧ ((gI g 449 a1 0) = l1 → Z l2 g))) : nnWP X M_Store_placeOf k 2 [qr 12 (some l0), qi l1, qi l2] [] g (zI Z) := by
  refine wp_iload_n (i := 2) (x := l2) (dz dl_Store_placeOf_0 2 2 (.iload_n 2) 1 rfl) rfl rfl ?_
  refine wp_aload_n (i := 0) (v := qr 12 (some l0)) (dz dl_Store_placeOf_0 3 3 (.aload_n 0) 1 rfl) rfl rfl trivial ?_
  refine wp_getI l0 (dz dl_Store_placeOf_0 4 4 (.getfield 21) 3 rfl) lk_Store_21 kd_770 rfl rfl ?_
  refine wp_icmp_ge (tgt := 31) (dz dl_Store_placeOf_0 5 7 (.if_icmp .ge (24)) 3 rfl) (by decide) (fun hc => ?_) (fun hc => ?_)
  · replace h := h.1 hc
    refine wp_iconst (dz dl_Store_placeOf_0 17 31 (.iconst (-1)) 1 rfl) (v := (-1 : Int32)) (by decide) ?_
    exact wp_rt (qi _) (rt_I rfl (dz dl_Store_placeOf_0 18 32 (.ireturn) 1 rfl)) ⟨_, rfl, h⟩
  · replace h := h.2 hc
    refine wp_aload_n (i := 0) (v := qr 12 (some l0)) (dz dl_Store_placeOf_0 6 10 (.aload_n 0) 1 rfl) rfl rfl trivial ?_
    obtain ⟨m1, n1, h⟩ := h
    refine wp_getA l0 m1 (dz dl_Store_placeOf_0 7 11 (.getfield 11) 3 rfl) lk_Store_11 (q := 1) kd_768 rfl rfl n1 ?_
    refine wp_iload_n (i := 2) (x := l2) (dz dl_Store_placeOf_0 8 14 (.iload_n 2) 1 rfl) rfl rfl ?_
    obtain ⟨i1, h⟩ := h
    refine wp_aald m1 (dz dl_Store_placeOf_0 9 15 (.aaload) 1 rfl) kd_768 n1 i1 ?_
    obtain ⟨a1, e1, h⟩ := h
    refine wp_getI a1 (dz dl_Store_placeOf_0 10 16 (.getfield 25) 3 rfl) lk_Store_25 kd_449 rfl e1 ?_
    refine wp_iload_n (i := 1) (x := l1) (dz dl_Store_placeOf_0 11 19 (.iload_n 1) 1 rfl) rfl rfl ?_
    refine wp_icmp_ne (tgt := 25) (dz dl_Store_placeOf_0 12 20 (.if_icmp .ne (5)) 3 rfl) (by decide) (fun hc => ?_) (fun hc => ?_)
    · replace h := h.1 hc
      refine wp_iinc (i := 2) (v := l2 + 1) (dz dl_Store_placeOf_0 15 25 (.iinc 2 (1)) 3 rfl) rfl (congrArg (fun z => l2 + z) (by decide)) [qr 12 (some l0), qi l1, qi (l2 + 1)] (by decide) rfl ?_
      refine wp_goto (tgt := 2) (dz dl_Store_placeOf_0 16 28 (.goto (-26)) 3 rfl) (by decide) ?_
      exact wp_cut h ⟨Or.inr rfl, Or.inr rfl, Or.inr rfl, trivial⟩
    · replace h := h.2 hc
      refine wp_iload_n (i := 2) (x := l2) (dz dl_Store_placeOf_0 13 23 (.iload_n 2) 1 rfl) rfl rfl ?_
      exact wp_rt (qi _) (rt_I rfl (dz dl_Store_placeOf_0 14 24 (.ireturn) 1 rfl)) ⟨_, rfl, h⟩

theorem b_Store_serve_0 {X : Nat × (Nat → Int32)} {k : Nat} {g : sg} {l0 : Nat} {l1 : Option Nat} {l2 : Option Nat} {l3 : Int32} {Z : Option Nat → sg → Prop} (h : ∃ a1, l1 = some a1 ∧ (((gI g 450 a1 0) &&& (2 : Int32)) = 0 → nnWP X M_Store_serve k 22 [qr 12 (some l0), qr 7 l1, qr 5 l2, qi l3, qi (0 : Int32), qi (-1 : Int32), qi (0 : Int32), none] [] g (zR 7 Z)) ∧ (¬ ((gI g 450 a1 0) &&& (2 : Int32)) = 0 → nnWP X M_Store_serve k 22 [qr 12 (some l0), qr 7 l1, qr 5 l2, qi l3, qi (1 : Int32), qi (-1 : Int32), qi (0 : Int32), none] [] g (zR 7 Z))) : nnWP X M_Store_serve k 0 [qr 12 (some l0), qr 7 l1, qr 5 l2, qi l3, none, none, none, none] [] g (zR 7 Z) := by
  refine wp_aload_n (i := 1) (v := qr 7 l1) (dz dl_Store_serve_0 0 0 (.aload_n 1) 1 rfl) rfl rfl trivial ?_
  obtain ⟨a1, e1, h⟩ := h
  refine wp_getI a1 (dz dl_Store_serve_0 1 1 (.getfield 28) 3 rfl) lk_Store_28 kd_450 rfl e1 ?_
  refine wp_iconst (dz dl_Store_serve_0 2 4 (.iconst (2)) 1 rfl) (v := (2 : Int32)) (by decide) ?_
  refine wp_iand (dz dl_Store_serve_0 3 5 (.iand) 1 rfl) ?_
  refine wp_if_eq (tgt := 13) (dz dl_Store_serve_0 4 6 (.ifCond .eq (7)) 3 rfl) (by decide) (fun hc => ?_) (fun hc => ?_)
  · replace h := h.1 hc
    refine wp_iconst (dz dl_Store_serve_0 7 13 (.iconst (0)) 1 rfl) (v := (0 : Int32)) (by decide) ?_
    refine wp_istore (i := 4) (dz dl_Store_serve_0 8 14 (.istore 4) 2 rfl) [qr 12 (some l0), qr 7 l1, qr 5 l2, qi l3, qi (0 : Int32), none, none, none] (by decide) rfl ?_
    refine wp_iconst (dz dl_Store_serve_0 9 16 (.iconst (-1)) 1 rfl) (v := (-1 : Int32)) (by decide) ?_
    refine wp_istore (i := 5) (dz dl_Store_serve_0 10 17 (.istore 5) 2 rfl) [qr 12 (some l0), qr 7 l1, qr 5 l2, qi l3, qi (0 : Int32), qi (-1 : Int32), none, none] (by decide) rfl ?_
    refine wp_iconst (dz dl_Store_serve_0 11 19 (.iconst (0)) 1 rfl) (v := (0 : Int32)) (by decide) ?_
    refine wp_istore (i := 6) (dz dl_Store_serve_0 12 20 (.istore 6) 2 rfl) [qr 12 (some l0), qr 7 l1, qr 5 l2, qi l3, qi (0 : Int32), qi (-1 : Int32), qi (0 : Int32), none] (by decide) rfl ?_
    exact wp_cut h ⟨Or.inr rfl, Or.inr rfl, Or.inr rfl, Or.inr rfl, Or.inr rfl, Or.inr rfl, Or.inr rfl, Or.inl rfl, trivial⟩
  · replace h := h.2 hc
    refine wp_iconst (dz dl_Store_serve_0 5 9 (.iconst (1)) 1 rfl) (v := (1 : Int32)) (by decide) ?_
    refine wp_goto (tgt := 14) (dz dl_Store_serve_0 6 10 (.goto (4)) 3 rfl) (by decide) ?_
    refine wp_istore (i := 4) (dz dl_Store_serve_0 8 14 (.istore 4) 2 rfl) [qr 12 (some l0), qr 7 l1, qr 5 l2, qi l3, qi (1 : Int32), none, none, none] (by decide) rfl ?_
    refine wp_iconst (dz dl_Store_serve_0 9 16 (.iconst (-1)) 1 rfl) (v := (-1 : Int32)) (by decide) ?_
    refine wp_istore (i := 5) (dz dl_Store_serve_0 10 17 (.istore 5) 2 rfl) [qr 12 (some l0), qr 7 l1, qr 5 l2, qi l3, qi (1 : Int32), qi (-1 : Int32), none, none] (by decide) rfl ?_
    refine wp_iconst (dz dl_Store_serve_0 11 19 (.iconst (0)) 1 rfl) (v := (0 : Int32)) (by decide) ?_
    refine wp_istore (i := 6) (dz dl_Store_serve_0 12 20 (.istore 6) 2 rfl) [qr 12 (some l0), qr 7 l1, qr 5 l2, qi l3, qi (1 : Int32), qi (-1 : Int32), qi (0 : Int32), none] (by decide) rfl ?_
    exact wp_cut h ⟨Or.inr rfl, Or.inr rfl, Or.inr rfl, Or.inr rfl, Or.inr rfl, Or.inr rfl, Or.inr rfl, Or.inl rfl, trivial⟩
theorem t_Store_serve {X : Nat × (Nat → Int32)} {k : Nat} {g : sg} {l0 : Nat} {l1 : Option Nat} {l2 : Option Nat} {l3 : Int32} {Z : Option Nat → sg → Prop} (h : ∃ a1, l1 = some a1 ∧ (((gI g 450 a1 0) &&& (2 : Int32)) = 0 → nnWP X M_Store_serve k 22 [qr 12 (some l0), qr 7 l1, qr 5 l2, qi l3, qi (0 : Int32), qi (-1 : Int32), qi (0 : Int32), none] [] g (zR 7 Z)) ∧ (¬ ((gI g 450 a1 0) &&& (2 : Int32)) = 0 → nnWP X M_Store_serve k 22 [qr 12 (some l0), qr 7 l1, qr 5 l2, qi l3, qi (1 : Int32), qi (-1 : Int32), qi (0 : Int32), none] [] g (zR 7 Z))) : nnMT X M_Store_serve k [qr 12 (some l0), qr 7 l1, qr 5 l2, qi l3] g (zR 7 Z) := b_Store_serve_0 h

theorem b_Store_serve_22 {X : Nat × (Nat → Int32)} {k : Nat} {g : sg} {l0 : Nat} {l1 : Option Nat} {l2 : Option Nat} {l3 : Int32} {l4 : Int32} {l5 : Int32} {l6 : Int32} {Z : Option Nat → sg → Prop} (h : ((gI g 770 l0 0) ≤ l6 → (¬ l5 = (-1 : Int32) → ∃ m1, gA g 768 l0 = some m1 ∧ vp_in l5 m1 ∧ ∃ m2, gA g 769 l0 = some m2 ∧ vp_in l5 m2 ∧ nnMT X M_Store_takeOut 0 [qr 12 (some l0), qi l5] g (zV fun g1 => gExt g g1 → nnMT X M_Store_putLast 0 [qr 12 (some l0), qr 7 (gR g 768 l0 l5.toNatClampNeg), qi (gI g 769 l0 l5.toNatClampNeg)] g1 (zV fun g2 => gExt g1 g2 → Z (gR g 768 l0 l5.toNatClampNeg) g2))) ∧ (l5 = (-1 : Int32) → Z none g)) ∧ (¬ (gI g 770 l0 0) ≤ l6 → ∃ m3, gA g 768 l0 = some m3 ∧ vp_in l6 m3 ∧ ∃ a1, gR g 768 l0 l6.toNatClampNeg = some a1 ∧ ∃ a2, l1 = some a2 ∧ ∃ a3, l2 = some a3 ∧ nnMT X M_Names_answers 0 [qr 5 (some a3), qi (gI g 449 a1 0), qi (gI g 449 a2 0), qi (gI g 450 a2 0)] g (zI fun r1 g3 => gExt g g3 → (r1 = 0 → ((0 : Int32) = 0 → nnWP X M_Store_serve k 22 [qr 12 (some l0), qr 7 l1, qr 5 l2, qi l3, qi l4, qi l5, qi (l6 + 1), none] [] g3 (zR 7 Z)) ∧ (¬ (0 : Int32) = 0 → (l5 = (-1 : Int32) → nnWP X M_Store_serve k 22 [qr 12 (some l0), qr 7 l1, qr 5 l2, qi l3, qi l4, qi l6, qi (l6 + 1), none] [] g3 (zR 7 Z)) ∧ (¬ l5 = (-1 : Int32) → ∃ a4, gR g3 768 l0 l6.toNatClampNeg = some a4 ∧ vp_in l5 m3 ∧ ∃ a5, gR g3 768 l0 l5.toNatClampNeg = some a5 ∧ ((gI g3 449 a5 0) ≤ (gI g3 449 a4 0) → nnWP X M_Store_serve k 22 [qr 12 (some l0), qr 7 l1, qr 5 l2, qi l3, qi l4, qi l5, qi (l6 + 1), none] [] g3 (zR 7 Z)) ∧ (¬ (gI g3 449 a5 0) ≤ (gI g3 449 a4 0) → nnWP X M_Store_serve k 22 [qr 12 (some l0), qr 7 l1, qr 5 l2, qi l3, qi l4, qi l6, qi (l6 + 1), none] [] g3 (zR 7 Z))))) ∧ (¬ r1 = 0 → (l4 = 0 → ((1 : Int32) = 0 → nnWP X M_Store_serve k 22 [qr 12 (some l0), qr 7 l1, qr 5 l2, qi l3, qi l4, qi l5, qi (l6 + 1), none] [] g3 (zR 7 Z)) ∧ (¬ (1 : Int32) = 0 → (l5 = (-1 : Int32) → nnWP X M_Store_serve k 22 [qr 12 (some l0), qr 7 l1, qr 5 l2, qi l3, qi l4, qi l6, qi (l6 + 1), none] [] g3 (zR 7 Z)) ∧ (¬ l5 = (-1 : Int32) → ∃ a6, gR g3 768 l0 l6.toNatClampNeg = some a6 ∧ vp_in l5 m3 ∧ ∃ a7, gR g3 768 l0 l5.toNatClampNeg = some a7 ∧ ((gI g3 449 a7 0) ≤ (gI g3 449 a6 0) → nnWP X M_Store_serve k 22 [qr 12 (some l0), qr 7 l1, qr 5 l2, qi l3, qi l4, qi l5, qi (l6 + 1), none] [] g3 (zR 7 Z)) ∧ (¬ (gI g3 449 a7 0) ≤ (gI g3 449 a6 0) → nnWP X M_Store_serve k 22 [qr 12 (some l0), qr 7 l1, qr 5 l2, qi l3, qi l4, qi l6, qi (l6 + 1), none] [] g3 (zR 7 Z))))) ∧ (¬ l4 = 0 → ∃ m4, gA g3 769 l0 = some m4 ∧ vp_in l6 m4 ∧ ((gI g3 769 l0 l6.toNatClampNeg) ≤ l3 → ((0 : Int32) = 0 → nnWP X M_Store_serve k 22 [qr 12 (some l0), qr 7 l1, qr 5 l2, qi l3, qi l4, qi l5, qi (l6 + 1), none] [] g3 (zR 7 Z)) ∧ (¬ (0 : Int32) = 0 → (l5 = (-1 : Int32) → nnWP X M_Store_serve k 22 [qr 12 (some l0), qr 7 l1, qr 5 l2, qi l3, qi l4, qi l6, qi (l6 + 1), none] [] g3 (zR 7 Z)) ∧ (¬ l5 = (-1 : Int32) → ∃ a8, gR g3 768 l0 l6.toNatClampNeg = some a8 ∧ vp_in l5 m3 ∧ ∃ a9, gR g3 768 l0 l5.toNatClampNeg = some a9 ∧ ((gI g3 449 a9 0) ≤ (gI g3 449 a8 0) → nnWP X M_Store_serve k 22 [qr 12 (some l0), qr 7 l1, qr 5 l2, qi l3, qi l4, qi l5, qi (l6 + 1), none] [] g3 (zR 7 Z)) ∧ (¬ (gI g3 449 a9 0) ≤ (gI g3 449 a8 0) → nnWP X M_Store_serve k 22 [qr 12 (some l0), qr 7 l1, qr 5 l2, qi l3, qi l4, qi l6, qi (l6 + 1), none] [] g3 (zR 7 Z))))) ∧ (¬ (gI g3 769 l0 l6.toNatClampNeg) ≤ l3 → ((1 : Int32) = 0 → nnWP X M_Store_serve k 22 [qr 12 (some l0), qr 7 l1, qr 5 l2, qi l3, qi l4, qi l5, qi (l6 + 1), none] [] g3 (zR 7 Z)) ∧ (¬ (1 : Int32) = 0 → (l5 = (-1 : Int32) → nnWP X M_Store_serve k 22 [qr 12 (some l0), qr 7 l1, qr 5 l2, qi l3, qi l4, qi l6, qi (l6 + 1), none] [] g3 (zR 7 Z)) ∧ (¬ l5 = (-1 : Int32) → ∃ a10, gR g3 768 l0 l6.toNatClampNeg = some a10 ∧ vp_in l5 m3 ∧ ∃ a11, gR g3 768 l0 l5.toNatClampNeg = some a11 ∧ ((gI g3 449 a11 0) ≤ (gI g3 449 a10 0) → nnWP X M_Store_serve k 22 [qr 12 (some l0), qr 7 l1, qr 5 l2, qi l3, qi l4, qi l5, qi (l6 + 1), none] [] g3 (zR 7 Z)) ∧ (¬ (gI g3 449 a11 0) ≤ (gI g3 449 a10 0) → nnWP X M_Store_serve k 22 [qr 12 (some l0), qr 7 l1, qr 5 l2, qi l3, qi l4, qi l6, qi (l6 + 1), none] [] g3 (zR 7 Z)))))))))) : nnWP X M_Store_serve k 22 [qr 12 (some l0), qr 7 l1, qr 5 l2, qi l3, qi l4, qi l5, qi l6, none] [] g (zR 7 Z) := by
  refine wp_iload (i := 6) (x := l6) (dz dl_Store_serve_0 13 22 (.iload 6) 2 rfl) rfl ?_
  refine wp_aload_n (i := 0) (v := qr 12 (some l0)) (dz dl_Store_serve_0 14 24 (.aload_n 0) 1 rfl) rfl rfl trivial ?_
  refine wp_getI l0 (dz dl_Store_serve_0 15 25 (.getfield 21) 3 rfl) lk_Store_21 kd_770 rfl rfl ?_
  refine wp_icmp_ge (tgt := 123) (dz dl_Store_serve_0 16 28 (.if_icmp .ge (95)) 3 rfl) (by decide) (fun hc => ?_) (fun hc => ?_)
  · replace h := h.1 hc
    refine wp_iload (i := 5) (x := l5) (dz dl_Store_serve_1 21 123 (.iload 5) 2 rfl) rfl ?_
    refine wp_iconst (dz dl_Store_serve_1 22 125 (.iconst (-1)) 1 rfl) (v := (-1 : Int32)) (by decide) ?_
    refine wp_icmp_ne (tgt := 131) (dz dl_Store_serve_1 23 126 (.if_icmp .ne (5)) 3 rfl) (by decide) (fun hc => ?_) (fun hc => ?_)
    · replace h := h.1 hc
      refine wp_aload_n (i := 0) (v := qr 12 (some l0)) (dz dl_Store_serve_1 26 131 (.aload_n 0) 1 rfl) rfl rfl trivial ?_
      obtain ⟨m1, n1, h⟩ := h
      refine wp_getA l0 m1 (dz dl_Store_serve_1 27 132 (.getfield 11) 3 rfl) lk_Store_11 (q := 1) kd_768 rfl rfl n1 ?_
      refine wp_iload (i := 5) (x := l5) (dz dl_Store_serve_1 28 135 (.iload 5) 2 rfl) rfl ?_
      obtain ⟨i1, h⟩ := h
      refine wp_aald m1 (dz dl_Store_serve_1 29 137 (.aaload) 1 rfl) kd_768 n1 i1 ?_
      refine wp_astore (i := 6) (dz dl_Store_serve_1 30 138 (.astore 6) 2 rfl) [qr 12 (some l0), qr 7 l1, qr 5 l2, qi l3, qi l4, qi l5, qr 7 (gR g 768 l0 l5.toNatClampNeg), none] (by decide) trivial rfl ?_
      refine wp_aload_n (i := 0) (v := qr 12 (some l0)) (dz dl_Store_serve_1 31 140 (.aload_n 0) 1 rfl) rfl rfl trivial ?_
      obtain ⟨m2, n2, h⟩ := h
      refine wp_getA l0 m2 (dz dl_Store_serve_1 32 141 (.getfield 17) 3 rfl) lk_Store_17 (q := 0) kd_769 rfl rfl n2 ?_
      refine wp_iload (i := 5) (x := l5) (dz dl_Store_serve_1 33 144 (.iload 5) 2 rfl) rfl ?_
      obtain ⟨i2, h⟩ := h
      refine wp_iald m2 (dz dl_Store_serve_1 34 146 (.iaload) 1 rfl) kd_769 n2 i2 ?_
      refine wp_istore (i := 7) (dz dl_Store_serve_1 35 147 (.istore 7) 2 rfl) [qr 12 (some l0), qr 7 l1, qr 5 l2, qi l3, qi l4, qi l5, qr 7 (gR g 768 l0 l5.toNatClampNeg), qi (gI g 769 l0 l5.toNatClampNeg)] (by decide) rfl ?_
      refine wp_aload_n (i := 0) (v := qr 12 (some l0)) (dz dl_Store_serve_1 36 149 (.aload_n 0) 1 rfl) rfl rfl trivial ?_
      refine wp_iload (i := 5) (x := l5) (dz dl_Store_serve_1 37 150 (.iload 5) 2 rfl) rfl ?_
      refine wp_callV l0 0 [qi l5] [] (dz dl_Store_serve_1 38 152 (.invokevirtual 37) 3 rfl) ok_Store_takeOut lm_Store_37 (by decide) ws_Store_takeOut wv_Store_takeOut ⟨Nat.le_of_ble_eq_true rfl, Nat.le_of_ble_eq_true rfl⟩ pn_Store_takeOut (Nat.le_of_ble_eq_true rfl) (Nat.le_of_ble_eq_true rfl) rfl (Or.inl rfl) (Nat.zero_le _) (mt_mono h ?_)
      rintro _ g1 ⟨rfl, h⟩ y1
      replace h := h y1.1
      show nnWP _ _ _ _ _ [] _ _
      refine wp_aload_n (i := 0) (v := qr 12 (some l0)) (dz dl_Store_serve_1 39 155 (.aload_n 0) 1 rfl) rfl rfl trivial ?_
      refine wp_aload (i := 6) (v := qr 7 (gR g 768 l0 l5.toNatClampNeg)) (dz dl_Store_serve_2 0 156 (.aload 6) 2 rfl) rfl trivial ?_
      refine wp_iload (i := 7) (x := gI g 769 l0 l5.toNatClampNeg) (dz dl_Store_serve_2 1 158 (.iload 7) 2 rfl) rfl ?_
      refine wp_callV l0 0 [qr 7 (gR g 768 l0 l5.toNatClampNeg), qi (gI g 769 l0 l5.toNatClampNeg)] [] (dz dl_Store_serve_2 2 160 (.invokevirtual 41) 3 rfl) ok_Store_putLast lm_Store_41 (by decide) ws_Store_putLast wv_Store_putLast ⟨Nat.le_of_ble_eq_true rfl, Nat.le_of_ble_eq_true rfl⟩ pn_Store_putLast (Nat.le_of_ble_eq_true rfl) (Nat.le_of_ble_eq_true rfl) rfl (Or.inl rfl) (Nat.zero_le _) (mt_mono h ?_)
      rintro _ g2 ⟨rfl, h⟩ y2
      replace h := h y2.1
      show nnWP _ _ _ _ _ [] _ _
      refine wp_aload (i := 6) (v := qr 7 (gR g 768 l0 l5.toNatClampNeg)) (dz dl_Store_serve_2 3 163 (.aload 6) 2 rfl) rfl trivial ?_
      exact wp_rt (qr 7 _) (rt_R rfl (dz dl_Store_serve_2 4 165 (.areturn) 1 rfl)) ⟨_, rfl, h⟩
    · replace h := h.2 hc
      refine wp_null 7 (dz dl_Store_serve_1 24 129 (.aconst_null) 1 rfl) ?_
      exact wp_rt (qr 7 _) (rt_R rfl (dz dl_Store_serve_1 25 130 (.areturn) 1 rfl)) ⟨_, rfl, h⟩
  · replace h := h.2 hc
    refine wp_aload_n (i := 2) (v := qr 5 l2) (dz dl_Store_serve_0 17 31 (.aload_n 2) 1 rfl) rfl rfl trivial ?_
    refine wp_aload_n (i := 0) (v := qr 12 (some l0)) (dz dl_Store_serve_0 18 32 (.aload_n 0) 1 rfl) rfl rfl trivial ?_
    obtain ⟨m3, n3, h⟩ := h
    refine wp_getA l0 m3 (dz dl_Store_serve_0 19 33 (.getfield 11) 3 rfl) lk_Store_11 (q := 1) kd_768 rfl rfl n3 ?_
    refine wp_iload (i := 6) (x := l6) (dz dl_Store_serve_0 20 36 (.iload 6) 2 rfl) rfl ?_
    obtain ⟨i3, h⟩ := h
    refine wp_aald m3 (dz dl_Store_serve_0 21 38 (.aaload) 1 rfl) kd_768 n3 i3 ?_
    obtain ⟨a1, e1, h⟩ := h
    refine wp_getI a1 (dz dl_Store_serve_0 22 39 (.getfield 25) 3 rfl) lk_Store_25 kd_449 rfl e1 ?_
    refine wp_aload_n (i := 1) (v := qr 7 l1) (dz dl_Store_serve_0 23 42 (.aload_n 1) 1 rfl) rfl rfl trivial ?_
    obtain ⟨a2, e2, h⟩ := h
    refine wp_getI a2 (dz dl_Store_serve_0 24 43 (.getfield 25) 3 rfl) lk_Store_25 kd_449 rfl e2 ?_
    refine wp_aload_n (i := 1) (v := qr 7 l1) (dz dl_Store_serve_0 25 46 (.aload_n 1) 1 rfl) rfl rfl trivial ?_
    refine wp_getI a2 (dz dl_Store_serve_0 26 47 (.getfield 28) 3 rfl) lk_Store_28 kd_450 rfl e2 ?_
    obtain ⟨a3, e3, h⟩ := h
    refine wp_callV a3 0 [qi (gI g 449 a1 0), qi (gI g 449 a2 0), qi (gI g 450 a2 0)] [] (dz dl_Store_serve_0 27 50 (.invokevirtual 31) 3 rfl) ok_Names_answers lm_Store_31 (by decide) ws_Names_answers wv_Names_answers ⟨Nat.le_of_ble_eq_true rfl, Nat.le_of_ble_eq_true rfl⟩ pn_Names_answers (Nat.le_of_ble_eq_true rfl) (Nat.le_of_ble_eq_true rfl) e3 (Or.inl rfl) (Nat.zero_le _) (mt_mono h ?_)
    rintro _ g3 ⟨r1, rfl, h⟩ y3
    replace h := h y3.1
    show nnWP _ _ _ _ _ [qi r1] _ _
    refine wp_if_eq (tgt := 76) (dz dl_Store_serve_0 28 53 (.ifCond .eq (23)) 3 rfl) (by decide) (fun hc => ?_) (fun hc => ?_)
    · replace h := h.1 hc
      refine wp_iconst (dz dl_Store_serve_0 39 76 (.iconst (0)) 1 rfl) (v := (0 : Int32)) (by decide) ?_
      refine wp_istore (i := 7) (dz dl_Store_serve_1 0 77 (.istore 7) 2 rfl) [qr 12 (some l0), qr 7 l1, qr 5 l2, qi l3, qi l4, qi l5, qi l6, qi (0 : Int32)] (by decide) rfl ?_
      refine wp_iload (i := 7) (x := (0 : Int32)) (dz dl_Store_serve_1 1 79 (.iload 7) 2 rfl) rfl ?_
      refine wp_if_eq (tgt := 117) (dz dl_Store_serve_1 2 81 (.ifCond .eq (36)) 3 rfl) (by decide) (fun hc => ?_) (fun hc => ?_)
      · replace h := h.1 hc
        refine wp_iinc (i := 6) (v := l6 + 1) (dz dl_Store_serve_1 19 117 (.iinc 6 (1)) 3 rfl) rfl (congrArg (fun z => l6 + z) (by decide)) [qr 12 (some l0), qr 7 l1, qr 5 l2, qi l3, qi l4, qi l5, qi (l6 + 1), qi (0 : Int32)] (by decide) rfl ?_
        refine wp_goto (tgt := 22) (dz dl_Store_serve_1 20 120 (.goto (-98)) 3 rfl) (by decide) ?_
        exact wp_cut h ⟨Or.inr rfl, Or.inr rfl, Or.inr rfl, Or.inr rfl, Or.inr rfl, Or.inr rfl, Or.inr rfl, Or.inl rfl, trivial⟩
      · replace h := h.2 hc
        refine wp_iload (i := 5) (x := l5) (dz dl_Store_serve_1 3 84 (.iload 5) 2 rfl) rfl ?_
        refine wp_iconst (dz dl_Store_serve_1 4 86 (.iconst (-1)) 1 rfl) (v := (-1 : Int32)) (by decide) ?_
        refine wp_icmp_eq (tgt := 113) (dz dl_Store_serve_1 5 87 (.if_icmp .eq (26)) 3 rfl) (by decide) (fun hc => ?_) (fun hc => ?_)
        · replace h := h.1 hc
          refine wp_iload (i := 6) (x := l6) (dz dl_Store_serve_1 17 113 (.iload 6) 2 rfl) rfl ?_
          refine wp_istore (i := 5) (dz dl_Store_serve_1 18 115 (.istore 5) 2 rfl) [qr 12 (some l0), qr 7 l1, qr 5 l2, qi l3, qi l4, qi l6, qi l6, qi (0 : Int32)] (by decide) rfl ?_
          refine wp_iinc (i := 6) (v := l6 + 1) (dz dl_Store_serve_1 19 117 (.iinc 6 (1)) 3 rfl) rfl (congrArg (fun z => l6 + z) (by decide)) [qr 12 (some l0), qr 7 l1, qr 5 l2, qi l3, qi l4, qi l6, qi (l6 + 1), qi (0 : Int32)] (by decide) rfl ?_
          refine wp_goto (tgt := 22) (dz dl_Store_serve_1 20 120 (.goto (-98)) 3 rfl) (by decide) ?_
          exact wp_cut h ⟨Or.inr rfl, Or.inr rfl, Or.inr rfl, Or.inr rfl, Or.inr rfl, Or.inr rfl, Or.inr rfl, Or.inl rfl, trivial⟩
        · replace h := h.2 hc
          refine wp_aload_n (i := 0) (v := qr 12 (some l0)) (dz dl_Store_serve_1 6 90 (.aload_n 0) 1 rfl) rfl rfl trivial ?_
          refine wp_getA l0 m3 (dz dl_Store_serve_1 7 91 (.getfield 11) 3 rfl) lk_Store_11 (q := 1) kd_768 rfl rfl (y3.1.2 _ _ _ n3) ?_
          refine wp_iload (i := 6) (x := l6) (dz dl_Store_serve_1 8 94 (.iload 6) 2 rfl) rfl ?_
          refine wp_aald m3 (dz dl_Store_serve_1 9 96 (.aaload) 1 rfl) kd_768 (y3.1.2 _ _ _ n3) i3 ?_
          obtain ⟨a4, e4, h⟩ := h
          refine wp_getI a4 (dz dl_Store_serve_1 10 97 (.getfield 25) 3 rfl) lk_Store_25 kd_449 rfl e4 ?_
          refine wp_aload_n (i := 0) (v := qr 12 (some l0)) (dz dl_Store_serve_1 11 100 (.aload_n 0) 1 rfl) rfl rfl trivial ?_
          refine wp_getA l0 m3 (dz dl_Store_serve_1 12 101 (.getfield 11) 3 rfl) lk_Store_11 (q := 1) kd_768 rfl rfl (y3.1.2 _ _ _ n3) ?_
          refine wp_iload (i := 5) (x := l5) (dz dl_Store_serve_1 13 104 (.iload 5) 2 rfl) rfl ?_
          obtain ⟨i4, h⟩ := h
          refine wp_aald m3 (dz dl_Store_serve_1 14 106 (.aaload) 1 rfl) kd_768 (y3.1.2 _ _ _ n3) i4 ?_
          obtain ⟨a5, e5, h⟩ := h
          refine wp_getI a5 (dz dl_Store_serve_1 15 107 (.getfield 25) 3 rfl) lk_Store_25 kd_449 rfl e5 ?_
          refine wp_icmp_ge (tgt := 117) (dz dl_Store_serve_1 16 110 (.if_icmp .ge (7)) 3 rfl) (by decide) (fun hc => ?_) (fun hc => ?_)
          · replace h := h.1 hc
            refine wp_iinc (i := 6) (v := l6 + 1) (dz dl_Store_serve_1 19 117 (.iinc 6 (1)) 3 rfl) rfl (congrArg (fun z => l6 + z) (by decide)) [qr 12 (some l0), qr 7 l1, qr 5 l2, qi l3, qi l4, qi l5, qi (l6 + 1), qi (0 : Int32)] (by decide) rfl ?_
            refine wp_goto (tgt := 22) (dz dl_Store_serve_1 20 120 (.goto (-98)) 3 rfl) (by decide) ?_
            exact wp_cut h ⟨Or.inr rfl, Or.inr rfl, Or.inr rfl, Or.inr rfl, Or.inr rfl, Or.inr rfl, Or.inr rfl, Or.inl rfl, trivial⟩
          · replace h := h.2 hc
            refine wp_iload (i := 6) (x := l6) (dz dl_Store_serve_1 17 113 (.iload 6) 2 rfl) rfl ?_
            refine wp_istore (i := 5) (dz dl_Store_serve_1 18 115 (.istore 5) 2 rfl) [qr 12 (some l0), qr 7 l1, qr 5 l2, qi l3, qi l4, qi l6, qi l6, qi (0 : Int32)] (by decide) rfl ?_
            refine wp_iinc (i := 6) (v := l6 + 1) (dz dl_Store_serve_1 19 117 (.iinc 6 (1)) 3 rfl) rfl (congrArg (fun z => l6 + z) (by decide)) [qr 12 (some l0), qr 7 l1, qr 5 l2, qi l3, qi l4, qi l6, qi (l6 + 1), qi (0 : Int32)] (by decide) rfl ?_
            refine wp_goto (tgt := 22) (dz dl_Store_serve_1 20 120 (.goto (-98)) 3 rfl) (by decide) ?_
            exact wp_cut h ⟨Or.inr rfl, Or.inr rfl, Or.inr rfl, Or.inr rfl, Or.inr rfl, Or.inr rfl, Or.inr rfl, Or.inl rfl, trivial⟩
    · replace h := h.2 hc
      refine wp_iload (i := 4) (x := l4) (dz dl_Store_serve_0 29 56 (.iload 4) 2 rfl) rfl ?_
      refine wp_if_eq (tgt := 72) (dz dl_Store_serve_0 30 58 (.ifCond .eq (14)) 3 rfl) (by decide) (fun hc => ?_) (fun hc => ?_)
      · replace h := h.1 hc
        refine wp_iconst (dz dl_Store_serve_0 37 72 (.iconst (1)) 1 rfl) (v := (1 : Int32)) (by decide) ?_
        refine wp_goto (tgt := 77) (dz dl_Store_serve_0 38 73 (.goto (4)) 3 rfl) (by decide) ?_
        refine wp_istore (i := 7) (dz dl_Store_serve_1 0 77 (.istore 7) 2 rfl) [qr 12 (some l0), qr 7 l1, qr 5 l2, qi l3, qi l4, qi l5, qi l6, qi (1 : Int32)] (by decide) rfl ?_
        refine wp_iload (i := 7) (x := (1 : Int32)) (dz dl_Store_serve_1 1 79 (.iload 7) 2 rfl) rfl ?_
        refine wp_if_eq (tgt := 117) (dz dl_Store_serve_1 2 81 (.ifCond .eq (36)) 3 rfl) (by decide) (fun hc => ?_) (fun hc => ?_)
        · replace h := h.1 hc
          refine wp_iinc (i := 6) (v := l6 + 1) (dz dl_Store_serve_1 19 117 (.iinc 6 (1)) 3 rfl) rfl (congrArg (fun z => l6 + z) (by decide)) [qr 12 (some l0), qr 7 l1, qr 5 l2, qi l3, qi l4, qi l5, qi (l6 + 1), qi (1 : Int32)] (by decide) rfl ?_
          refine wp_goto (tgt := 22) (dz dl_Store_serve_1 20 120 (.goto (-98)) 3 rfl) (by decide) ?_
          exact wp_cut h ⟨Or.inr rfl, Or.inr rfl, Or.inr rfl, Or.inr rfl, Or.inr rfl, Or.inr rfl, Or.inr rfl, Or.inl rfl, trivial⟩
        · replace h := h.2 hc
          refine wp_iload (i := 5) (x := l5) (dz dl_Store_serve_1 3 84 (.iload 5) 2 rfl) rfl ?_
          refine wp_iconst (dz dl_Store_serve_1 4 86 (.iconst (-1)) 1 rfl) (v := (-1 : Int32)) (by decide) ?_
          refine wp_icmp_eq (tgt := 113) (dz dl_Store_serve_1 5 87 (.if_icmp .eq (26)) 3 rfl) (by decide) (fun hc => ?_) (fun hc => ?_)
          · replace h := h.1 hc
            refine wp_iload (i := 6) (x := l6) (dz dl_Store_serve_1 17 113 (.iload 6) 2 rfl) rfl ?_
            refine wp_istore (i := 5) (dz dl_Store_serve_1 18 115 (.istore 5) 2 rfl) [qr 12 (some l0), qr 7 l1, qr 5 l2, qi l3, qi l4, qi l6, qi l6, qi (1 : Int32)] (by decide) rfl ?_
            refine wp_iinc (i := 6) (v := l6 + 1) (dz dl_Store_serve_1 19 117 (.iinc 6 (1)) 3 rfl) rfl (congrArg (fun z => l6 + z) (by decide)) [qr 12 (some l0), qr 7 l1, qr 5 l2, qi l3, qi l4, qi l6, qi (l6 + 1), qi (1 : Int32)] (by decide) rfl ?_
            refine wp_goto (tgt := 22) (dz dl_Store_serve_1 20 120 (.goto (-98)) 3 rfl) (by decide) ?_
            exact wp_cut h ⟨Or.inr rfl, Or.inr rfl, Or.inr rfl, Or.inr rfl, Or.inr rfl, Or.inr rfl, Or.inr rfl, Or.inl rfl, trivial⟩
          · replace h := h.2 hc
            refine wp_aload_n (i := 0) (v := qr 12 (some l0)) (dz dl_Store_serve_1 6 90 (.aload_n 0) 1 rfl) rfl rfl trivial ?_
            refine wp_getA l0 m3 (dz dl_Store_serve_1 7 91 (.getfield 11) 3 rfl) lk_Store_11 (q := 1) kd_768 rfl rfl (y3.1.2 _ _ _ n3) ?_
            refine wp_iload (i := 6) (x := l6) (dz dl_Store_serve_1 8 94 (.iload 6) 2 rfl) rfl ?_
            refine wp_aald m3 (dz dl_Store_serve_1 9 96 (.aaload) 1 rfl) kd_768 (y3.1.2 _ _ _ n3) i3 ?_
            obtain ⟨a6, e6, h⟩ := h
            refine wp_getI a6 (dz dl_Store_serve_1 10 97 (.getfield 25) 3 rfl) lk_Store_25 kd_449 rfl e6 ?_
            refine wp_aload_n (i := 0) (v := qr 12 (some l0)) (dz dl_Store_serve_1 11 100 (.aload_n 0) 1 rfl) rfl rfl trivial ?_
            refine wp_getA l0 m3 (dz dl_Store_serve_1 12 101 (.getfield 11) 3 rfl) lk_Store_11 (q := 1) kd_768 rfl rfl (y3.1.2 _ _ _ n3) ?_
            refine wp_iload (i := 5) (x := l5) (dz dl_Store_serve_1 13 104 (.iload 5) 2 rfl) rfl ?_
            obtain ⟨i5, h⟩ := h
            refine wp_aald m3 (dz dl_Store_serve_1 14 106 (.aaload) 1 rfl) kd_768 (y3.1.2 _ _ _ n3) i5 ?_
            obtain ⟨a7, e7, h⟩ := h
            refine wp_getI a7 (dz dl_Store_serve_1 15 107 (.getfield 25) 3 rfl) lk_Store_25 kd_449 rfl e7 ?_
            refine wp_icmp_ge (tgt := 117) (dz dl_Store_serve_1 16 110 (.if_icmp .ge (7)) 3 rfl) (by decide) (fun hc => ?_) (fun hc => ?_)
            · replace h := h.1 hc
              refine wp_iinc (i := 6) (v := l6 + 1) (dz dl_Store_serve_1 19 117 (.iinc 6 (1)) 3 rfl) rfl (congrArg (fun z => l6 + z) (by decide)) [qr 12 (some l0), qr 7 l1, qr 5 l2, qi l3, qi l4, qi l5, qi (l6 + 1), qi (1 : Int32)] (by decide) rfl ?_
              refine wp_goto (tgt := 22) (dz dl_Store_serve_1 20 120 (.goto (-98)) 3 rfl) (by decide) ?_
              exact wp_cut h ⟨Or.inr rfl, Or.inr rfl, Or.inr rfl, Or.inr rfl, Or.inr rfl, Or.inr rfl, Or.inr rfl, Or.inl rfl, trivial⟩
            · replace h := h.2 hc
              refine wp_iload (i := 6) (x := l6) (dz dl_Store_serve_1 17 113 (.iload 6) 2 rfl) rfl ?_
              refine wp_istore (i := 5) (dz dl_Store_serve_1 18 115 (.istore 5) 2 rfl) [qr 12 (some l0), qr 7 l1, qr 5 l2, qi l3, qi l4, qi l6, qi l6, qi (1 : Int32)] (by decide) rfl ?_
              refine wp_iinc (i := 6) (v := l6 + 1) (dz dl_Store_serve_1 19 117 (.iinc 6 (1)) 3 rfl) rfl (congrArg (fun z => l6 + z) (by decide)) [qr 12 (some l0), qr 7 l1, qr 5 l2, qi l3, qi l4, qi l6, qi (l6 + 1), qi (1 : Int32)] (by decide) rfl ?_
              refine wp_goto (tgt := 22) (dz dl_Store_serve_1 20 120 (.goto (-98)) 3 rfl) (by decide) ?_
              exact wp_cut h ⟨Or.inr rfl, Or.inr rfl, Or.inr rfl, Or.inr rfl, Or.inr rfl, Or.inr rfl, Or.inr rfl, Or.inl rfl, trivial⟩
      · replace h := h.2 hc
        refine wp_aload_n (i := 0) (v := qr 12 (some l0)) (dz dl_Store_serve_0 31 61 (.aload_n 0) 1 rfl) rfl rfl trivial ?_
        obtain ⟨m4, n4, h⟩ := h
        refine wp_getA l0 m4 (dz dl_Store_serve_0 32 62 (.getfield 17) 3 rfl) lk_Store_17 (q := 0) kd_769 rfl rfl n4 ?_
        refine wp_iload (i := 6) (x := l6) (dz dl_Store_serve_0 33 65 (.iload 6) 2 rfl) rfl ?_
        obtain ⟨i6, h⟩ := h
        refine wp_iald m4 (dz dl_Store_serve_0 34 67 (.iaload) 1 rfl) kd_769 n4 i6 ?_
        refine wp_iload_n (i := 3) (x := l3) (dz dl_Store_serve_0 35 68 (.iload_n 3) 1 rfl) rfl rfl ?_
        refine wp_icmp_le (tgt := 76) (dz dl_Store_serve_0 36 69 (.if_icmp .le (7)) 3 rfl) (by decide) (fun hc => ?_) (fun hc => ?_)
        · replace h := h.1 hc
          refine wp_iconst (dz dl_Store_serve_0 39 76 (.iconst (0)) 1 rfl) (v := (0 : Int32)) (by decide) ?_
          refine wp_istore (i := 7) (dz dl_Store_serve_1 0 77 (.istore 7) 2 rfl) [qr 12 (some l0), qr 7 l1, qr 5 l2, qi l3, qi l4, qi l5, qi l6, qi (0 : Int32)] (by decide) rfl ?_
          refine wp_iload (i := 7) (x := (0 : Int32)) (dz dl_Store_serve_1 1 79 (.iload 7) 2 rfl) rfl ?_
          refine wp_if_eq (tgt := 117) (dz dl_Store_serve_1 2 81 (.ifCond .eq (36)) 3 rfl) (by decide) (fun hc => ?_) (fun hc => ?_)
          · replace h := h.1 hc
            refine wp_iinc (i := 6) (v := l6 + 1) (dz dl_Store_serve_1 19 117 (.iinc 6 (1)) 3 rfl) rfl (congrArg (fun z => l6 + z) (by decide)) [qr 12 (some l0), qr 7 l1, qr 5 l2, qi l3, qi l4, qi l5, qi (l6 + 1), qi (0 : Int32)] (by decide) rfl ?_
            refine wp_goto (tgt := 22) (dz dl_Store_serve_1 20 120 (.goto (-98)) 3 rfl) (by decide) ?_
            exact wp_cut h ⟨Or.inr rfl, Or.inr rfl, Or.inr rfl, Or.inr rfl, Or.inr rfl, Or.inr rfl, Or.inr rfl, Or.inl rfl, trivial⟩
          · replace h := h.2 hc
            refine wp_iload (i := 5) (x := l5) (dz dl_Store_serve_1 3 84 (.iload 5) 2 rfl) rfl ?_
            refine wp_iconst (dz dl_Store_serve_1 4 86 (.iconst (-1)) 1 rfl) (v := (-1 : Int32)) (by decide) ?_
            refine wp_icmp_eq (tgt := 113) (dz dl_Store_serve_1 5 87 (.if_icmp .eq (26)) 3 rfl) (by decide) (fun hc => ?_) (fun hc => ?_)
            · replace h := h.1 hc
              refine wp_iload (i := 6) (x := l6) (dz dl_Store_serve_1 17 113 (.iload 6) 2 rfl) rfl ?_
              refine wp_istore (i := 5) (dz dl_Store_serve_1 18 115 (.istore 5) 2 rfl) [qr 12 (some l0), qr 7 l1, qr 5 l2, qi l3, qi l4, qi l6, qi l6, qi (0 : Int32)] (by decide) rfl ?_
              refine wp_iinc (i := 6) (v := l6 + 1) (dz dl_Store_serve_1 19 117 (.iinc 6 (1)) 3 rfl) rfl (congrArg (fun z => l6 + z) (by decide)) [qr 12 (some l0), qr 7 l1, qr 5 l2, qi l3, qi l4, qi l6, qi (l6 + 1), qi (0 : Int32)] (by decide) rfl ?_
              refine wp_goto (tgt := 22) (dz dl_Store_serve_1 20 120 (.goto (-98)) 3 rfl) (by decide) ?_
              exact wp_cut h ⟨Or.inr rfl, Or.inr rfl, Or.inr rfl, Or.inr rfl, Or.inr rfl, Or.inr rfl, Or.inr rfl, Or.inl rfl, trivial⟩
            · replace h := h.2 hc
              refine wp_aload_n (i := 0) (v := qr 12 (some l0)) (dz dl_Store_serve_1 6 90 (.aload_n 0) 1 rfl) rfl rfl trivial ?_
              refine wp_getA l0 m3 (dz dl_Store_serve_1 7 91 (.getfield 11) 3 rfl) lk_Store_11 (q := 1) kd_768 rfl rfl (y3.1.2 _ _ _ n3) ?_
              refine wp_iload (i := 6) (x := l6) (dz dl_Store_serve_1 8 94 (.iload 6) 2 rfl) rfl ?_
              refine wp_aald m3 (dz dl_Store_serve_1 9 96 (.aaload) 1 rfl) kd_768 (y3.1.2 _ _ _ n3) i3 ?_
              obtain ⟨a8, e8, h⟩ := h
              refine wp_getI a8 (dz dl_Store_serve_1 10 97 (.getfield 25) 3 rfl) lk_Store_25 kd_449 rfl e8 ?_
              refine wp_aload_n (i := 0) (v := qr 12 (some l0)) (dz dl_Store_serve_1 11 100 (.aload_n 0) 1 rfl) rfl rfl trivial ?_
              refine wp_getA l0 m3 (dz dl_Store_serve_1 12 101 (.getfield 11) 3 rfl) lk_Store_11 (q := 1) kd_768 rfl rfl (y3.1.2 _ _ _ n3) ?_
              refine wp_iload (i := 5) (x := l5) (dz dl_Store_serve_1 13 104 (.iload 5) 2 rfl) rfl ?_
              obtain ⟨i7, h⟩ := h
              refine wp_aald m3 (dz dl_Store_serve_1 14 106 (.aaload) 1 rfl) kd_768 (y3.1.2 _ _ _ n3) i7 ?_
              obtain ⟨a9, e9, h⟩ := h
              refine wp_getI a9 (dz dl_Store_serve_1 15 107 (.getfield 25) 3 rfl) lk_Store_25 kd_449 rfl e9 ?_
              refine wp_icmp_ge (tgt := 117) (dz dl_Store_serve_1 16 110 (.if_icmp .ge (7)) 3 rfl) (by decide) (fun hc => ?_) (fun hc => ?_)
              · replace h := h.1 hc
                refine wp_iinc (i := 6) (v := l6 + 1) (dz dl_Store_serve_1 19 117 (.iinc 6 (1)) 3 rfl) rfl (congrArg (fun z => l6 + z) (by decide)) [qr 12 (some l0), qr 7 l1, qr 5 l2, qi l3, qi l4, qi l5, qi (l6 + 1), qi (0 : Int32)] (by decide) rfl ?_
                refine wp_goto (tgt := 22) (dz dl_Store_serve_1 20 120 (.goto (-98)) 3 rfl) (by decide) ?_
                exact wp_cut h ⟨Or.inr rfl, Or.inr rfl, Or.inr rfl, Or.inr rfl, Or.inr rfl, Or.inr rfl, Or.inr rfl, Or.inl rfl, trivial⟩
              · replace h := h.2 hc
                refine wp_iload (i := 6) (x := l6) (dz dl_Store_serve_1 17 113 (.iload 6) 2 rfl) rfl ?_
                refine wp_istore (i := 5) (dz dl_Store_serve_1 18 115 (.istore 5) 2 rfl) [qr 12 (some l0), qr 7 l1, qr 5 l2, qi l3, qi l4, qi l6, qi l6, qi (0 : Int32)] (by decide) rfl ?_
                refine wp_iinc (i := 6) (v := l6 + 1) (dz dl_Store_serve_1 19 117 (.iinc 6 (1)) 3 rfl) rfl (congrArg (fun z => l6 + z) (by decide)) [qr 12 (some l0), qr 7 l1, qr 5 l2, qi l3, qi l4, qi l6, qi (l6 + 1), qi (0 : Int32)] (by decide) rfl ?_
                refine wp_goto (tgt := 22) (dz dl_Store_serve_1 20 120 (.goto (-98)) 3 rfl) (by decide) ?_
                exact wp_cut h ⟨Or.inr rfl, Or.inr rfl, Or.inr rfl, Or.inr rfl, Or.inr rfl, Or.inr rfl, Or.inr rfl, Or.inl rfl, trivial⟩
        · replace h := h.2 hc
          refine wp_iconst (dz dl_Store_serve_0 37 72 (.iconst (1)) 1 rfl) (v := (1 : Int32)) (by decide) ?_
          refine wp_goto (tgt := 77) (dz dl_Store_serve_0 38 73 (.goto (4)) 3 rfl) (by decide) ?_
          refine wp_istore (i := 7) (dz dl_Store_serve_1 0 77 (.istore 7) 2 rfl) [qr 12 (some l0), qr 7 l1, qr 5 l2, qi l3, qi l4, qi l5, qi l6, qi (1 : Int32)] (by decide) rfl ?_
          refine wp_iload (i := 7) (x := (1 : Int32)) (dz dl_Store_serve_1 1 79 (.iload 7) 2 rfl) rfl ?_
          refine wp_if_eq (tgt := 117) (dz dl_Store_serve_1 2 81 (.ifCond .eq (36)) 3 rfl) (by decide) (fun hc => ?_) (fun hc => ?_)
          · replace h := h.1 hc
            refine wp_iinc (i := 6) (v := l6 + 1) (dz dl_Store_serve_1 19 117 (.iinc 6 (1)) 3 rfl) rfl (congrArg (fun z => l6 + z) (by decide)) [qr 12 (some l0), qr 7 l1, qr 5 l2, qi l3, qi l4, qi l5, qi (l6 + 1), qi (1 : Int32)] (by decide) rfl ?_
            refine wp_goto (tgt := 22) (dz dl_Store_serve_1 20 120 (.goto (-98)) 3 rfl) (by decide) ?_
            exact wp_cut h ⟨Or.inr rfl, Or.inr rfl, Or.inr rfl, Or.inr rfl, Or.inr rfl, Or.inr rfl, Or.inr rfl, Or.inl rfl, trivial⟩
          · replace h := h.2 hc
            refine wp_iload (i := 5) (x := l5) (dz dl_Store_serve_1 3 84 (.iload 5) 2 rfl) rfl ?_
            refine wp_iconst (dz dl_Store_serve_1 4 86 (.iconst (-1)) 1 rfl) (v := (-1 : Int32)) (by decide) ?_
            refine wp_icmp_eq (tgt := 113) (dz dl_Store_serve_1 5 87 (.if_icmp .eq (26)) 3 rfl) (by decide) (fun hc => ?_) (fun hc => ?_)
            · replace h := h.1 hc
              refine wp_iload (i := 6) (x := l6) (dz dl_Store_serve_1 17 113 (.iload 6) 2 rfl) rfl ?_
              refine wp_istore (i := 5) (dz dl_Store_serve_1 18 115 (.istore 5) 2 rfl) [qr 12 (some l0), qr 7 l1, qr 5 l2, qi l3, qi l4, qi l6, qi l6, qi (1 : Int32)] (by decide) rfl ?_
              refine wp_iinc (i := 6) (v := l6 + 1) (dz dl_Store_serve_1 19 117 (.iinc 6 (1)) 3 rfl) rfl (congrArg (fun z => l6 + z) (by decide)) [qr 12 (some l0), qr 7 l1, qr 5 l2, qi l3, qi l4, qi l6, qi (l6 + 1), qi (1 : Int32)] (by decide) rfl ?_
              refine wp_goto (tgt := 22) (dz dl_Store_serve_1 20 120 (.goto (-98)) 3 rfl) (by decide) ?_
              exact wp_cut h ⟨Or.inr rfl, Or.inr rfl, Or.inr rfl, Or.inr rfl, Or.inr rfl, Or.inr rfl, Or.inr rfl, Or.inl rfl, trivial⟩
            · replace h := h.2 hc
              refine wp_aload_n (i := 0) (v := qr 12 (some l0)) (dz dl_Store_serve_1 6 90 (.aload_n 0) 1 rfl) rfl rfl trivial ?_
              refine wp_getA l0 m3 (dz dl_Store_serve_1 7 91 (.getfield 11) 3 rfl) lk_Store_11 (q := 1) kd_768 rfl rfl (y3.1.2 _ _ _ n3) ?_
              refine wp_iload (i := 6) (x := l6) (dz dl_Store_serve_1 8 94 (.iload 6) 2 rfl) rfl ?_
              refine wp_aald m3 (dz dl_Store_serve_1 9 96 (.aaload) 1 rfl) kd_768 (y3.1.2 _ _ _ n3) i3 ?_
              obtain ⟨a10, e10, h⟩ := h
              refine wp_getI a10 (dz dl_Store_serve_1 10 97 (.getfield 25) 3 rfl) lk_Store_25 kd_449 rfl e10 ?_
              refine wp_aload_n (i := 0) (v := qr 12 (some l0)) (dz dl_Store_serve_1 11 100 (.aload_n 0) 1 rfl) rfl rfl trivial ?_
              refine wp_getA l0 m3 (dz dl_Store_serve_1 12 101 (.getfield 11) 3 rfl) lk_Store_11 (q := 1) kd_768 rfl rfl (y3.1.2 _ _ _ n3) ?_
              refine wp_iload (i := 5) (x := l5) (dz dl_Store_serve_1 13 104 (.iload 5) 2 rfl) rfl ?_
              obtain ⟨i8, h⟩ := h
              refine wp_aald m3 (dz dl_Store_serve_1 14 106 (.aaload) 1 rfl) kd_768 (y3.1.2 _ _ _ n3) i8 ?_
              obtain ⟨a11, e11, h⟩ := h
              refine wp_getI a11 (dz dl_Store_serve_1 15 107 (.getfield 25) 3 rfl) lk_Store_25 kd_449 rfl e11 ?_
              refine wp_icmp_ge (tgt := 117) (dz dl_Store_serve_1 16 110 (.if_icmp .ge (7)) 3 rfl) (by decide) (fun hc => ?_) (fun hc => ?_)
              · replace h := h.1 hc
                refine wp_iinc (i := 6) (v := l6 + 1) (dz dl_Store_serve_1 19 117 (.iinc 6 (1)) 3 rfl) rfl (congrArg (fun z => l6 + z) (by decide)) [qr 12 (some l0), qr 7 l1, qr 5 l2, qi l3, qi l4, qi l5, qi (l6 + 1), qi (1 : Int32)] (by decide) rfl ?_
                refine wp_goto (tgt := 22) (dz dl_Store_serve_1 20 120 (.goto (-98)) 3 rfl) (by decide) ?_
                exact wp_cut h ⟨Or.inr rfl, Or.inr rfl, Or.inr rfl, Or.inr rfl, Or.inr rfl, Or.inr rfl, Or.inr rfl, Or.inl rfl, trivial⟩
              · replace h := h.2 hc
                refine wp_iload (i := 6) (x := l6) (dz dl_Store_serve_1 17 113 (.iload 6) 2 rfl) rfl ?_
                refine wp_istore (i := 5) (dz dl_Store_serve_1 18 115 (.istore 5) 2 rfl) [qr 12 (some l0), qr 7 l1, qr 5 l2, qi l3, qi l4, qi l6, qi l6, qi (1 : Int32)] (by decide) rfl ?_
                refine wp_iinc (i := 6) (v := l6 + 1) (dz dl_Store_serve_1 19 117 (.iinc 6 (1)) 3 rfl) rfl (congrArg (fun z => l6 + z) (by decide)) [qr 12 (some l0), qr 7 l1, qr 5 l2, qi l3, qi l4, qi l6, qi (l6 + 1), qi (1 : Int32)] (by decide) rfl ?_
                refine wp_goto (tgt := 22) (dz dl_Store_serve_1 20 120 (.goto (-98)) 3 rfl) (by decide) ?_
                exact wp_cut h ⟨Or.inr rfl, Or.inr rfl, Or.inr rfl, Or.inr rfl, Or.inr rfl, Or.inr rfl, Or.inr rfl, Or.inl rfl, trivial⟩

theorem b_Store_keep_0 {X : Nat × (Nat → Int32)} {k : Nat} {g : sg} {l0 : Nat} {l1 : Option Nat} {l2 : Int32} {Z : sg → Prop} (h : ∃ a1, l1 = some a1 ∧ nnMT X M_Store_placeOf 0 [qr 12 (some l0), qi (gI g 449 a1 0)] g (zI fun r1 g1 => gExt g g1 → (r1 = (-1 : Int32) → ((gI g1 770 l0 0) ≤ 0 → nnMT X M_Store_putLast 0 [qr 12 (some l0), qr 7 l1, qi l2] g1 (zV fun g2 => gExt g1 g2 → Z g2)) ∧ (¬ (gI g1 770 l0 0) ≤ 0 → ∃ m1, gA g1 768 l0 = some m1 ∧ (¬ (gI g1 770 l0 0) = (nI m1) → nnMT X M_Store_putLast 0 [qr 12 (some l0), qr 7 l1, qi l2] g1 (zV fun g3 => gExt g1 g3 → Z g3)) ∧ ((gI g1 770 l0 0) = (nI m1) → nnMT X M_Store_takeOut 0 [qr 12 (some l0), qi (0 : Int32)] g1 (zV fun g4 => gExt g1 g4 → nnMT X M_Store_putLast 0 [qr 12 (some l0), qr 7 l1, qi l2] g4 (zV fun g5 => gExt g4 g5 → Z g5))))) ∧ (¬ r1 = (-1 : Int32) → nnMT X M_Store_takeOut 0 [qr 12 (some l0), qi r1] g1 (zV fun g6 => gExt g1 g6 → ((gI g6 770 l0 0) ≤ 0 → nnMT X M_Store_putLast 0 [qr 12 (some l0), qr 7 l1, qi l2] g6 (zV fun g7 => gExt g6 g7 → Z g7)) ∧ (¬ (gI g6 770 l0 0) ≤ 0 → ∃ m2, gA g6 768 l0 = some m2 ∧ (¬ (gI g6 770 l0 0) = (nI m2) → nnMT X M_Store_putLast 0 [qr 12 (some l0), qr 7 l1, qi l2] g6 (zV fun g8 => gExt g6 g8 → Z g8)) ∧ ((gI g6 770 l0 0) = (nI m2) → nnMT X M_Store_takeOut 0 [qr 12 (some l0), qi (0 : Int32)] g6 (zV fun g9 => gExt g6 g9 → nnMT X M_Store_putLast 0 [qr 12 (some l0), qr 7 l1, qi l2] g9 (zV fun g10 => gExt g9 g10 → Z g10)))))))) : nnWP X M_Store_keep k 0 [qr 12 (some l0), qr 7 l1, qi l2, none] [] g (zV Z) := by
  refine wp_aload_n (i := 0) (v := qr 12 (some l0)) (dz dl_Store_keep_0 0 0 (.aload_n 0) 1 rfl) rfl rfl trivial ?_
  refine wp_aload_n (i := 1) (v := qr 7 l1) (dz dl_Store_keep_0 1 1 (.aload_n 1) 1 rfl) rfl rfl trivial ?_
  obtain ⟨a1, e1, h⟩ := h
  refine wp_getI a1 (dz dl_Store_keep_0 2 2 (.getfield 25) 3 rfl) lk_Store_25 kd_449 rfl e1 ?_
  refine wp_callV l0 0 [qi (gI g 449 a1 0)] [] (dz dl_Store_keep_0 3 5 (.invokevirtual 45) 3 rfl) ok_Store_placeOf lm_Store_45 (by decide) ws_Store_placeOf wv_Store_placeOf ⟨Nat.le_of_ble_eq_true rfl, Nat.le_of_ble_eq_true rfl⟩ pn_Store_placeOf (Nat.le_of_ble_eq_true rfl) (Nat.le_of_ble_eq_true rfl) rfl (Or.inl rfl) (Nat.zero_le _) (mt_mono h ?_)
  rintro _ g1 ⟨r1, rfl, h⟩ y1
  replace h := h y1.1
  show nnWP _ _ _ _ _ [qi r1] _ _
  refine wp_istore_n (i := 3) (dz dl_Store_keep_0 4 8 (.istore_n 3) 1 rfl) rfl [qr 12 (some l0), qr 7 l1, qi l2, qi r1] (by decide) rfl ?_
  refine wp_iload_n (i := 3) (x := r1) (dz dl_Store_keep_0 5 9 (.iload_n 3) 1 rfl) rfl rfl ?_
  refine wp_iconst (dz dl_Store_keep_0 6 10 (.iconst (-1)) 1 rfl) (v := (-1 : Int32)) (by decide) ?_
  refine wp_icmp_eq (tgt := 19) (dz dl_Store_keep_0 7 11 (.if_icmp .eq (8)) 3 rfl) (by decide) (fun hc => ?_) (fun hc => ?_)
  · replace h := h.1 hc
    refine wp_aload_n (i := 0) (v := qr 12 (some l0)) (dz dl_Store_keep_0 11 19 (.aload_n 0) 1 rfl) rfl rfl trivial ?_
    refine wp_getI l0 (dz dl_Store_keep_0 12 20 (.getfield 21) 3 rfl) lk_Store_21 kd_770 rfl rfl ?_
    refine wp_if_le (tgt := 43) (dz dl_Store_keep_0 13 23 (.ifCond .le (20)) 3 rfl) (by decide) (fun hc => ?_) (fun hc => ?_)
    · replace h := h.1 hc
      refine wp_aload_n (i := 0) (v := qr 12 (some l0)) (dz dl_Store_keep_0 23 43 (.aload_n 0) 1 rfl) rfl rfl trivial ?_
      refine wp_aload_n (i := 1) (v := qr 7 l1) (dz dl_Store_keep_0 24 44 (.aload_n 1) 1 rfl) rfl rfl trivial ?_
      refine wp_iload_n (i := 2) (x := l2) (dz dl_Store_keep_0 25 45 (.iload_n 2) 1 rfl) rfl rfl ?_
      refine wp_callV l0 0 [qr 7 l1, qi l2] [] (dz dl_Store_keep_0 26 46 (.invokevirtual 41) 3 rfl) ok_Store_putLast lm_Store_41 (by decide) ws_Store_putLast wv_Store_putLast ⟨Nat.le_of_ble_eq_true rfl, Nat.le_of_ble_eq_true rfl⟩ pn_Store_putLast (Nat.le_of_ble_eq_true rfl) (Nat.le_of_ble_eq_true rfl) rfl (Or.inl rfl) (Nat.zero_le _) (mt_mono h ?_)
      rintro _ g2 ⟨rfl, h⟩ y2
      replace h := h y2.1
      show nnWP _ _ _ _ _ [] _ _
      exact wp_rt none (rt_V rfl (dz dl_Store_keep_0 27 49 (.return_) 1 rfl)) ⟨rfl, h⟩
    · replace h := h.2 hc
      refine wp_aload_n (i := 0) (v := qr 12 (some l0)) (dz dl_Store_keep_0 14 26 (.aload_n 0) 1 rfl) rfl rfl trivial ?_
      refine wp_getI l0 (dz dl_Store_keep_0 15 27 (.getfield 21) 3 rfl) lk_Store_21 kd_770 rfl rfl ?_
      refine wp_aload_n (i := 0) (v := qr 12 (some l0)) (dz dl_Store_keep_0 16 30 (.aload_n 0) 1 rfl) rfl rfl trivial ?_
      obtain ⟨m1, n1, h⟩ := h
      refine wp_getA l0 m1 (dz dl_Store_keep_0 17 31 (.getfield 11) 3 rfl) lk_Store_11 (q := 1) kd_768 rfl rfl n1 ?_
      refine wp_alen m1 (dz dl_Store_keep_0 18 34 (.arraylength) 1 rfl) n1 ?_
      refine wp_icmp_ne (tgt := 43) (dz dl_Store_keep_0 19 35 (.if_icmp .ne (8)) 3 rfl) (by decide) (fun hc => ?_) (fun hc => ?_)
      · replace h := h.1 hc
        refine wp_aload_n (i := 0) (v := qr 12 (some l0)) (dz dl_Store_keep_0 23 43 (.aload_n 0) 1 rfl) rfl rfl trivial ?_
        refine wp_aload_n (i := 1) (v := qr 7 l1) (dz dl_Store_keep_0 24 44 (.aload_n 1) 1 rfl) rfl rfl trivial ?_
        refine wp_iload_n (i := 2) (x := l2) (dz dl_Store_keep_0 25 45 (.iload_n 2) 1 rfl) rfl rfl ?_
        refine wp_callV l0 0 [qr 7 l1, qi l2] [] (dz dl_Store_keep_0 26 46 (.invokevirtual 41) 3 rfl) ok_Store_putLast lm_Store_41 (by decide) ws_Store_putLast wv_Store_putLast ⟨Nat.le_of_ble_eq_true rfl, Nat.le_of_ble_eq_true rfl⟩ pn_Store_putLast (Nat.le_of_ble_eq_true rfl) (Nat.le_of_ble_eq_true rfl) rfl (Or.inl rfl) (Nat.zero_le _) (mt_mono h ?_)
        rintro _ g3 ⟨rfl, h⟩ y3
        replace h := h y3.1
        show nnWP _ _ _ _ _ [] _ _
        exact wp_rt none (rt_V rfl (dz dl_Store_keep_0 27 49 (.return_) 1 rfl)) ⟨rfl, h⟩
      · replace h := h.2 hc
        refine wp_aload_n (i := 0) (v := qr 12 (some l0)) (dz dl_Store_keep_0 20 38 (.aload_n 0) 1 rfl) rfl rfl trivial ?_
        refine wp_iconst (dz dl_Store_keep_0 21 39 (.iconst (0)) 1 rfl) (v := (0 : Int32)) (by decide) ?_
        refine wp_callV l0 0 [qi (0 : Int32)] [] (dz dl_Store_keep_0 22 40 (.invokevirtual 37) 3 rfl) ok_Store_takeOut lm_Store_37 (by decide) ws_Store_takeOut wv_Store_takeOut ⟨Nat.le_of_ble_eq_true rfl, Nat.le_of_ble_eq_true rfl⟩ pn_Store_takeOut (Nat.le_of_ble_eq_true rfl) (Nat.le_of_ble_eq_true rfl) rfl (Or.inl rfl) (Nat.zero_le _) (mt_mono h ?_)
        rintro _ g4 ⟨rfl, h⟩ y4
        replace h := h y4.1
        show nnWP _ _ _ _ _ [] _ _
        refine wp_aload_n (i := 0) (v := qr 12 (some l0)) (dz dl_Store_keep_0 23 43 (.aload_n 0) 1 rfl) rfl rfl trivial ?_
        refine wp_aload_n (i := 1) (v := qr 7 l1) (dz dl_Store_keep_0 24 44 (.aload_n 1) 1 rfl) rfl rfl trivial ?_
        refine wp_iload_n (i := 2) (x := l2) (dz dl_Store_keep_0 25 45 (.iload_n 2) 1 rfl) rfl rfl ?_
        refine wp_callV l0 0 [qr 7 l1, qi l2] [] (dz dl_Store_keep_0 26 46 (.invokevirtual 41) 3 rfl) ok_Store_putLast lm_Store_41 (by decide) ws_Store_putLast wv_Store_putLast ⟨Nat.le_of_ble_eq_true rfl, Nat.le_of_ble_eq_true rfl⟩ pn_Store_putLast (Nat.le_of_ble_eq_true rfl) (Nat.le_of_ble_eq_true rfl) rfl (Or.inl rfl) (Nat.zero_le _) (mt_mono h ?_)
        rintro _ g5 ⟨rfl, h⟩ y5
        replace h := h y5.1
        show nnWP _ _ _ _ _ [] _ _
        exact wp_rt none (rt_V rfl (dz dl_Store_keep_0 27 49 (.return_) 1 rfl)) ⟨rfl, h⟩
  · replace h := h.2 hc
    refine wp_aload_n (i := 0) (v := qr 12 (some l0)) (dz dl_Store_keep_0 8 14 (.aload_n 0) 1 rfl) rfl rfl trivial ?_
    refine wp_iload_n (i := 3) (x := r1) (dz dl_Store_keep_0 9 15 (.iload_n 3) 1 rfl) rfl rfl ?_
    refine wp_callV l0 0 [qi r1] [] (dz dl_Store_keep_0 10 16 (.invokevirtual 37) 3 rfl) ok_Store_takeOut lm_Store_37 (by decide) ws_Store_takeOut wv_Store_takeOut ⟨Nat.le_of_ble_eq_true rfl, Nat.le_of_ble_eq_true rfl⟩ pn_Store_takeOut (Nat.le_of_ble_eq_true rfl) (Nat.le_of_ble_eq_true rfl) rfl (Or.inl rfl) (Nat.zero_le _) (mt_mono h ?_)
    rintro _ g6 ⟨rfl, h⟩ y6
    replace h := h y6.1
    show nnWP _ _ _ _ _ [] _ _
    refine wp_aload_n (i := 0) (v := qr 12 (some l0)) (dz dl_Store_keep_0 11 19 (.aload_n 0) 1 rfl) rfl rfl trivial ?_
    refine wp_getI l0 (dz dl_Store_keep_0 12 20 (.getfield 21) 3 rfl) lk_Store_21 kd_770 rfl rfl ?_
    refine wp_if_le (tgt := 43) (dz dl_Store_keep_0 13 23 (.ifCond .le (20)) 3 rfl) (by decide) (fun hc => ?_) (fun hc => ?_)
    · replace h := h.1 hc
      refine wp_aload_n (i := 0) (v := qr 12 (some l0)) (dz dl_Store_keep_0 23 43 (.aload_n 0) 1 rfl) rfl rfl trivial ?_
      refine wp_aload_n (i := 1) (v := qr 7 l1) (dz dl_Store_keep_0 24 44 (.aload_n 1) 1 rfl) rfl rfl trivial ?_
      refine wp_iload_n (i := 2) (x := l2) (dz dl_Store_keep_0 25 45 (.iload_n 2) 1 rfl) rfl rfl ?_
      refine wp_callV l0 0 [qr 7 l1, qi l2] [] (dz dl_Store_keep_0 26 46 (.invokevirtual 41) 3 rfl) ok_Store_putLast lm_Store_41 (by decide) ws_Store_putLast wv_Store_putLast ⟨Nat.le_of_ble_eq_true rfl, Nat.le_of_ble_eq_true rfl⟩ pn_Store_putLast (Nat.le_of_ble_eq_true rfl) (Nat.le_of_ble_eq_true rfl) rfl (Or.inl rfl) (Nat.zero_le _) (mt_mono h ?_)
      rintro _ g7 ⟨rfl, h⟩ y7
      replace h := h y7.1
      show nnWP _ _ _ _ _ [] _ _
      exact wp_rt none (rt_V rfl (dz dl_Store_keep_0 27 49 (.return_) 1 rfl)) ⟨rfl, h⟩
    · replace h := h.2 hc
      refine wp_aload_n (i := 0) (v := qr 12 (some l0)) (dz dl_Store_keep_0 14 26 (.aload_n 0) 1 rfl) rfl rfl trivial ?_
      refine wp_getI l0 (dz dl_Store_keep_0 15 27 (.getfield 21) 3 rfl) lk_Store_21 kd_770 rfl rfl ?_
      refine wp_aload_n (i := 0) (v := qr 12 (some l0)) (dz dl_Store_keep_0 16 30 (.aload_n 0) 1 rfl) rfl rfl trivial ?_
      obtain ⟨m2, n2, h⟩ := h
      refine wp_getA l0 m2 (dz dl_Store_keep_0 17 31 (.getfield 11) 3 rfl) lk_Store_11 (q := 1) kd_768 rfl rfl n2 ?_
      refine wp_alen m2 (dz dl_Store_keep_0 18 34 (.arraylength) 1 rfl) n2 ?_
      refine wp_icmp_ne (tgt := 43) (dz dl_Store_keep_0 19 35 (.if_icmp .ne (8)) 3 rfl) (by decide) (fun hc => ?_) (fun hc => ?_)
      · replace h := h.1 hc
        refine wp_aload_n (i := 0) (v := qr 12 (some l0)) (dz dl_Store_keep_0 23 43 (.aload_n 0) 1 rfl) rfl rfl trivial ?_
        refine wp_aload_n (i := 1) (v := qr 7 l1) (dz dl_Store_keep_0 24 44 (.aload_n 1) 1 rfl) rfl rfl trivial ?_
        refine wp_iload_n (i := 2) (x := l2) (dz dl_Store_keep_0 25 45 (.iload_n 2) 1 rfl) rfl rfl ?_
        refine wp_callV l0 0 [qr 7 l1, qi l2] [] (dz dl_Store_keep_0 26 46 (.invokevirtual 41) 3 rfl) ok_Store_putLast lm_Store_41 (by decide) ws_Store_putLast wv_Store_putLast ⟨Nat.le_of_ble_eq_true rfl, Nat.le_of_ble_eq_true rfl⟩ pn_Store_putLast (Nat.le_of_ble_eq_true rfl) (Nat.le_of_ble_eq_true rfl) rfl (Or.inl rfl) (Nat.zero_le _) (mt_mono h ?_)
        rintro _ g8 ⟨rfl, h⟩ y8
        replace h := h y8.1
        show nnWP _ _ _ _ _ [] _ _
        exact wp_rt none (rt_V rfl (dz dl_Store_keep_0 27 49 (.return_) 1 rfl)) ⟨rfl, h⟩
      · replace h := h.2 hc
        refine wp_aload_n (i := 0) (v := qr 12 (some l0)) (dz dl_Store_keep_0 20 38 (.aload_n 0) 1 rfl) rfl rfl trivial ?_
        refine wp_iconst (dz dl_Store_keep_0 21 39 (.iconst (0)) 1 rfl) (v := (0 : Int32)) (by decide) ?_
        refine wp_callV l0 0 [qi (0 : Int32)] [] (dz dl_Store_keep_0 22 40 (.invokevirtual 37) 3 rfl) ok_Store_takeOut lm_Store_37 (by decide) ws_Store_takeOut wv_Store_takeOut ⟨Nat.le_of_ble_eq_true rfl, Nat.le_of_ble_eq_true rfl⟩ pn_Store_takeOut (Nat.le_of_ble_eq_true rfl) (Nat.le_of_ble_eq_true rfl) rfl (Or.inl rfl) (Nat.zero_le _) (mt_mono h ?_)
        rintro _ g9 ⟨rfl, h⟩ y9
        replace h := h y9.1
        show nnWP _ _ _ _ _ [] _ _
        refine wp_aload_n (i := 0) (v := qr 12 (some l0)) (dz dl_Store_keep_0 23 43 (.aload_n 0) 1 rfl) rfl rfl trivial ?_
        refine wp_aload_n (i := 1) (v := qr 7 l1) (dz dl_Store_keep_0 24 44 (.aload_n 1) 1 rfl) rfl rfl trivial ?_
        refine wp_iload_n (i := 2) (x := l2) (dz dl_Store_keep_0 25 45 (.iload_n 2) 1 rfl) rfl rfl ?_
        refine wp_callV l0 0 [qr 7 l1, qi l2] [] (dz dl_Store_keep_0 26 46 (.invokevirtual 41) 3 rfl) ok_Store_putLast lm_Store_41 (by decide) ws_Store_putLast wv_Store_putLast ⟨Nat.le_of_ble_eq_true rfl, Nat.le_of_ble_eq_true rfl⟩ pn_Store_putLast (Nat.le_of_ble_eq_true rfl) (Nat.le_of_ble_eq_true rfl) rfl (Or.inl rfl) (Nat.zero_le _) (mt_mono h ?_)
        rintro _ g10 ⟨rfl, h⟩ y10
        replace h := h y10.1
        show nnWP _ _ _ _ _ [] _ _
        exact wp_rt none (rt_V rfl (dz dl_Store_keep_0 27 49 (.return_) 1 rfl)) ⟨rfl, h⟩
theorem t_Store_keep {X : Nat × (Nat → Int32)} {k : Nat} {g : sg} {l0 : Nat} {l1 : Option Nat} {l2 : Int32} {Z : sg → Prop} (h : ∃ a1, l1 = some a1 ∧ nnMT X M_Store_placeOf 0 [qr 12 (some l0), qi (gI g 449 a1 0)] g (zI fun r1 g1 => gExt g g1 → (r1 = (-1 : Int32) → ((gI g1 770 l0 0) ≤ 0 → nnMT X M_Store_putLast 0 [qr 12 (some l0), qr 7 l1, qi l2] g1 (zV fun g2 => gExt g1 g2 → Z g2)) ∧ (¬ (gI g1 770 l0 0) ≤ 0 → ∃ m1, gA g1 768 l0 = some m1 ∧ (¬ (gI g1 770 l0 0) = (nI m1) → nnMT X M_Store_putLast 0 [qr 12 (some l0), qr 7 l1, qi l2] g1 (zV fun g3 => gExt g1 g3 → Z g3)) ∧ ((gI g1 770 l0 0) = (nI m1) → nnMT X M_Store_takeOut 0 [qr 12 (some l0), qi (0 : Int32)] g1 (zV fun g4 => gExt g1 g4 → nnMT X M_Store_putLast 0 [qr 12 (some l0), qr 7 l1, qi l2] g4 (zV fun g5 => gExt g4 g5 → Z g5))))) ∧ (¬ r1 = (-1 : Int32) → nnMT X M_Store_takeOut 0 [qr 12 (some l0), qi r1] g1 (zV fun g6 => gExt g1 g6 → ((gI g6 770 l0 0) ≤ 0 → nnMT X M_Store_putLast 0 [qr 12 (some l0), qr 7 l1, qi l2] g6 (zV fun g7 => gExt g6 g7 → Z g7)) ∧ (¬ (gI g6 770 l0 0) ≤ 0 → ∃ m2, gA g6 768 l0 = some m2 ∧ (¬ (gI g6 770 l0 0) = (nI m2) → nnMT X M_Store_putLast 0 [qr 12 (some l0), qr 7 l1, qi l2] g6 (zV fun g8 => gExt g6 g8 → Z g8)) ∧ ((gI g6 770 l0 0) = (nI m2) → nnMT X M_Store_takeOut 0 [qr 12 (some l0), qi (0 : Int32)] g6 (zV fun g9 => gExt g6 g9 → nnMT X M_Store_putLast 0 [qr 12 (some l0), qr 7 l1, qi l2] g9 (zV fun g10 => gExt g9 g10 → Z g10)))))))) : nnMT X M_Store_keep k [qr 12 (some l0), qr 7 l1, qi l2] g (zV Z) := b_Store_keep_0 h

theorem b_Store_putLast_0 {X : Nat × (Nat → Int32)} {k : Nat} {g : sg} {l0 : Nat} {l1 : Option Nat} {l2 : Int32} {Z : sg → Prop} (h : ∃ m1, gA g 768 l0 = some m1 ∧ ((nI m1) ≤ (gI g 770 l0 0) → Z g) ∧ (¬ (nI m1) ≤ (gI g 770 l0 0) → vp_in (gI g 770 l0 0) m1 ∧ ∀ g1, g1 = pR g 768 l0 (gI g 770 l0 0).toNatClampNeg l1 → ∃ m2, gA g1 769 l0 = some m2 ∧ vp_in (gI g1 770 l0 0) m2 ∧ ∀ g2, g2 = pI g1 769 l0 (gI g1 770 l0 0).toNatClampNeg l2 → ∀ g3, g3 = pI g2 770 l0 0 ((gI g2 770 l0 0) + (1 : Int32)) → Z g3)) : nnWP X M_Store_putLast k 0 [qr 12 (some l0), qr 7 l1, qi l2] [] g (zV Z) := by
  refine wp_aload_n (i := 0) (v := qr 12 (some l0)) (dz dl_Store_putLast_0 0 0 (.aload_n 0) 1 rfl) rfl rfl trivial ?_
  refine wp_getI l0 (dz dl_Store_putLast_0 1 1 (.getfield 21) 3 rfl) lk_Store_21 kd_770 rfl rfl ?_
  refine wp_aload_n (i := 0) (v := qr 12 (some l0)) (dz dl_Store_putLast_0 2 4 (.aload_n 0) 1 rfl) rfl rfl trivial ?_
  obtain ⟨m1, n1, h⟩ := h
  refine wp_getA l0 m1 (dz dl_Store_putLast_0 3 5 (.getfield 11) 3 rfl) lk_Store_11 (q := 1) kd_768 rfl rfl n1 ?_
  refine wp_alen m1 (dz dl_Store_putLast_0 4 8 (.arraylength) 1 rfl) n1 ?_
  refine wp_icmp_ge (tgt := 42) (dz dl_Store_putLast_0 5 9 (.if_icmp .ge (33)) 3 rfl) (by decide) (fun hc => ?_) (fun hc => ?_)
  · replace h := h.1 hc
    exact wp_rt none (rt_V rfl (dz dl_Store_putLast_0 24 42 (.return_) 1 rfl)) ⟨rfl, h⟩
  · replace h := h.2 hc
    refine wp_aload_n (i := 0) (v := qr 12 (some l0)) (dz dl_Store_putLast_0 6 12 (.aload_n 0) 1 rfl) rfl rfl trivial ?_
    refine wp_getA l0 m1 (dz dl_Store_putLast_0 7 13 (.getfield 11) 3 rfl) lk_Store_11 (q := 1) kd_768 rfl rfl n1 ?_
    refine wp_aload_n (i := 0) (v := qr 12 (some l0)) (dz dl_Store_putLast_0 8 16 (.aload_n 0) 1 rfl) rfl rfl trivial ?_
    refine wp_getI l0 (dz dl_Store_putLast_0 9 17 (.getfield 21) 3 rfl) lk_Store_21 kd_770 rfl rfl ?_
    refine wp_aload_n (i := 1) (v := qr 7 l1) (dz dl_Store_putLast_0 10 20 (.aload_n 1) 1 rfl) rfl rfl trivial ?_
    obtain ⟨i1, h⟩ := h
    have h := h _ rfl
    refine wp_aast m1 (dz dl_Store_putLast_0 11 21 (.aastore) 1 rfl) kd_768 (by decide) n1 i1 rfl ?_
    refine wp_aload_n (i := 0) (v := qr 12 (some l0)) (dz dl_Store_putLast_0 12 22 (.aload_n 0) 1 rfl) rfl rfl trivial ?_
    obtain ⟨m2, n2, h⟩ := h
    refine wp_getA l0 m2 (dz dl_Store_putLast_0 13 23 (.getfield 17) 3 rfl) lk_Store_17 (q := 0) kd_769 rfl rfl n2 ?_
    refine wp_aload_n (i := 0) (v := qr 12 (some l0)) (dz dl_Store_putLast_0 14 26 (.aload_n 0) 1 rfl) rfl rfl trivial ?_
    refine wp_getI l0 (dz dl_Store_putLast_0 15 27 (.getfield 21) 3 rfl) lk_Store_21 kd_770 rfl rfl ?_
    refine wp_iload_n (i := 2) (x := l2) (dz dl_Store_putLast_0 16 30 (.iload_n 2) 1 rfl) rfl rfl ?_
    obtain ⟨i2, h⟩ := h
    have h := h _ rfl
    refine wp_iast m2 (dz dl_Store_putLast_0 17 31 (.iastore) 1 rfl) kd_769 n2 i2 rfl ?_
    refine wp_aload_n (i := 0) (v := qr 12 (some l0)) (dz dl_Store_putLast_0 18 32 (.aload_n 0) 1 rfl) rfl rfl trivial ?_
    refine wp_dup (dz dl_Store_putLast_0 19 33 (.dup) 1 rfl) ?_
    refine wp_getI l0 (dz dl_Store_putLast_0 20 34 (.getfield 21) 3 rfl) lk_Store_21 kd_770 rfl rfl ?_
    refine wp_iconst (dz dl_Store_putLast_0 21 37 (.iconst (1)) 1 rfl) (v := (1 : Int32)) (by decide) ?_
    refine wp_iadd (dz dl_Store_putLast_0 22 38 (.iadd) 1 rfl) ?_
    have h := h _ rfl
    refine wp_putI l0 (dz dl_Store_putLast_0 23 39 (.putfield 21) 3 rfl) lk_Store_21 kd_770 rfl rfl rfl (okI_0 _) rfl ?_
    exact wp_rt none (rt_V rfl (dz dl_Store_putLast_0 24 42 (.return_) 1 rfl)) ⟨rfl, h⟩
theorem t_Store_putLast {X : Nat × (Nat → Int32)} {k : Nat} {g : sg} {l0 : Nat} {l1 : Option Nat} {l2 : Int32} {Z : sg → Prop} (h : ∃ m1, gA g 768 l0 = some m1 ∧ ((nI m1) ≤ (gI g 770 l0 0) → Z g) ∧ (¬ (nI m1) ≤ (gI g 770 l0 0) → vp_in (gI g 770 l0 0) m1 ∧ ∀ g1, g1 = pR g 768 l0 (gI g 770 l0 0).toNatClampNeg l1 → ∃ m2, gA g1 769 l0 = some m2 ∧ vp_in (gI g1 770 l0 0) m2 ∧ ∀ g2, g2 = pI g1 769 l0 (gI g1 770 l0 0).toNatClampNeg l2 → ∀ g3, g3 = pI g2 770 l0 0 ((gI g2 770 l0 0) + (1 : Int32)) → Z g3)) : nnMT X M_Store_putLast k [qr 12 (some l0), qr 7 l1, qi l2] g (zV Z) := b_Store_putLast_0 h

theorem b_Store_takeOut_0 {X : Nat × (Nat → Int32)} {k : Nat} {g : sg} {l0 : Nat} {l1 : Int32} {Z : sg → Prop} (h : ∀ g1, g1 = pI g 770 l0 0 ((gI g 770 l0 0) - (1 : Int32)) → nnWP X M_Store_takeOut k 12 [qr 12 (some l0), none, qi l1] [] g1 (zV Z)) : nnWP X M_Store_takeOut k 0 [qr 12 (some l0), qi l1, none] [] g (zV Z) := by
  refine wp_aload_n (i := 0) (v := qr 12 (some l0)) (dz dl_Store_takeOut_0 0 0 (.aload_n 0) 1 rfl) rfl rfl trivial ?_
  refine wp_dup (dz dl_Store_takeOut_0 1 1 (.dup) 1 rfl) ?_
  refine wp_getI l0 (dz dl_Store_takeOut_0 2 2 (.getfield 21) 3 rfl) lk_Store_21 kd_770 rfl rfl ?_
  refine wp_iconst (dz dl_Store_takeOut_0 3 5 (.iconst (1)) 1 rfl) (v := (1 : Int32)) (by decide) ?_
  refine wp_isub (dz dl_Store_takeOut_0 4 6 (.isub) 1 rfl) ?_
  have h := h _ rfl
  refine wp_putI l0 (dz dl_Store_takeOut_0 5 7 (.putfield 21) 3 rfl) lk_Store_21 kd_770 rfl rfl rfl (okI_0 _) rfl ?_
  refine wp_iload_n (i := 1) (x := l1) (dz dl_Store_takeOut_0 6 10 (.iload_n 1) 1 rfl) rfl rfl ?_
  refine wp_istore_n (i := 2) (dz dl_Store_takeOut_0 7 11 (.istore_n 2) 1 rfl) rfl [qr 12 (some l0), qi l1, qi l1] (by decide) rfl ?_
  exact wp_cut h ⟨Or.inr rfl, Or.inl rfl, Or.inr rfl, trivial⟩
theorem t_Store_takeOut {X : Nat × (Nat → Int32)} {k : Nat} {g : sg} {l0 : Nat} {l1 : Int32} {Z : sg → Prop} (h : ∀ g1, g1 = pI g 770 l0 0 ((gI g 770 l0 0) - (1 : Int32)) → nnWP X M_Store_takeOut k 12 [qr 12 (some l0), none, qi l1] [] g1 (zV Z)) : nnMT X M_Store_takeOut k [qr 12 (some l0), qi l1] g (zV Z) := b_Store_takeOut_0 h

theorem b_Store_takeOut_12 {X : Nat × (Nat → Int32)} {k : Nat} {g : sg} {l0 : Nat} {l2 : Int32} {Z : sg → Prop} (h : ((gI g 770 l0 0) ≤ l2 → Z g) ∧ (¬ (gI g 770 l0 0) ≤ l2 → ∃ m1, gA g 768 l0 = some m1 ∧ vp_in (l2 + (1 : Int32)) m1 ∧ vp_in l2 m1 ∧ ∀ g1, g1 = pR g 768 l0 l2.toNatClampNeg (gR g 768 l0 (l2 + (1 : Int32)).toNatClampNeg) → ∃ m2, gA g1 769 l0 = some m2 ∧ vp_in (l2 + (1 : Int32)) m2 ∧ vp_in l2 m2 ∧ ∀ g2, g2 = pI g1 769 l0 l2.toNatClampNeg (gI g1 769 l0 (l2 + (1 : Int32)).toNatClampNeg) → nnWP X M_Store_takeOut k 12 [qr 12 (some l0), none, qi (l2 + 1)] [] g2 (zV Z))) : nnWP X M_Store_takeOut k 12 [qr 12 (some l0), none, qi l2] [] g (zV Z) := by
  refine wp_iload_n (i := 2) (x := l2) (dz dl_Store_takeOut_0 8 12 (.iload_n 2) 1 rfl) rfl rfl ?_
  refine wp_aload_n (i := 0) (v := qr 12 (some l0)) (dz dl_Store_takeOut_0 9 13 (.aload_n 0) 1 rfl) rfl rfl trivial ?_
  refine wp_getI l0 (dz dl_Store_takeOut_0 10 14 (.getfield 21) 3 rfl) lk_Store_21 kd_770 rfl rfl ?_
  refine wp_icmp_ge (tgt := 54) (dz dl_Store_takeOut_0 11 17 (.if_icmp .ge (37)) 3 rfl) (by decide) (fun hc => ?_) (fun hc => ?_)
  · replace h := h.1 hc
    exact wp_rt none (rt_V rfl (dz dl_Store_takeOut_0 34 54 (.return_) 1 rfl)) ⟨rfl, h⟩
  · replace h := h.2 hc
    refine wp_aload_n (i := 0) (v := qr 12 (some l0)) (dz dl_Store_takeOut_0 12 20 (.aload_n 0) 1 rfl) rfl rfl trivial ?_
    obtain ⟨m1, n1, h⟩ := h
    refine wp_getA l0 m1 (dz dl_Store_takeOut_0 13 21 (.getfield 11) 3 rfl) lk_Store_11 (q := 1) kd_768 rfl rfl n1 ?_
    refine wp_iload_n (i := 2) (x := l2) (dz dl_Store_takeOut_0 14 24 (.iload_n 2) 1 rfl) rfl rfl ?_
    refine wp_aload_n (i := 0) (v := qr 12 (some l0)) (dz dl_Store_takeOut_0 15 25 (.aload_n 0) 1 rfl) rfl rfl trivial ?_
    refine wp_getA l0 m1 (dz dl_Store_takeOut_0 16 26 (.getfield 11) 3 rfl) lk_Store_11 (q := 1) kd_768 rfl rfl n1 ?_
    refine wp_iload_n (i := 2) (x := l2) (dz dl_Store_takeOut_0 17 29 (.iload_n 2) 1 rfl) rfl rfl ?_
    refine wp_iconst (dz dl_Store_takeOut_0 18 30 (.iconst (1)) 1 rfl) (v := (1 : Int32)) (by decide) ?_
    refine wp_iadd (dz dl_Store_takeOut_0 19 31 (.iadd) 1 rfl) ?_
    obtain ⟨i1, h⟩ := h
    refine wp_aald m1 (dz dl_Store_takeOut_0 20 32 (.aaload) 1 rfl) kd_768 n1 i1 ?_
    obtain ⟨i2, h⟩ := h
    have h := h _ rfl
    refine wp_aast m1 (dz dl_Store_takeOut_0 21 33 (.aastore) 1 rfl) kd_768 (by decide) n1 i2 rfl ?_
    refine wp_aload_n (i := 0) (v := qr 12 (some l0)) (dz dl_Store_takeOut_0 22 34 (.aload_n 0) 1 rfl) rfl rfl trivial ?_
    obtain ⟨m2, n2, h⟩ := h
    refine wp_getA l0 m2 (dz dl_Store_takeOut_0 23 35 (.getfield 17) 3 rfl) lk_Store_17 (q := 0) kd_769 rfl rfl n2 ?_
    refine wp_iload_n (i := 2) (x := l2) (dz dl_Store_takeOut_0 24 38 (.iload_n 2) 1 rfl) rfl rfl ?_
    refine wp_aload_n (i := 0) (v := qr 12 (some l0)) (dz dl_Store_takeOut_0 25 39 (.aload_n 0) 1 rfl) rfl rfl trivial ?_
    refine wp_getA l0 m2 (dz dl_Store_takeOut_0 26 40 (.getfield 17) 3 rfl) lk_Store_17 (q := 0) kd_769 rfl rfl n2 ?_
    refine wp_iload_n (i := 2) (x := l2) (dz dl_Store_takeOut_0 27 43 (.iload_n 2) 1 rfl) rfl rfl ?_
    refine wp_iconst (dz dl_Store_takeOut_0 28 44 (.iconst (1)) 1 rfl) (v := (1 : Int32)) (by decide) ?_
    refine wp_iadd (dz dl_Store_takeOut_0 29 45 (.iadd) 1 rfl) ?_
    obtain ⟨i3, h⟩ := h
    refine wp_iald m2 (dz dl_Store_takeOut_0 30 46 (.iaload) 1 rfl) kd_769 n2 i3 ?_
    obtain ⟨i4, h⟩ := h
    have h := h _ rfl
    refine wp_iast m2 (dz dl_Store_takeOut_0 31 47 (.iastore) 1 rfl) kd_769 n2 i4 rfl ?_
    refine wp_iinc (i := 2) (v := l2 + 1) (dz dl_Store_takeOut_0 32 48 (.iinc 2 (1)) 3 rfl) rfl (congrArg (fun z => l2 + z) (by decide)) [qr 12 (some l0), none, qi (l2 + 1)] (by decide) rfl ?_
    refine wp_goto (tgt := 12) (dz dl_Store_takeOut_0 33 51 (.goto (-39)) 3 rfl) (by decide) ?_
    exact wp_cut h ⟨Or.inr rfl, Or.inl rfl, Or.inr rfl, trivial⟩
