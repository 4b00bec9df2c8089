theorem wp_iconst {X : Nat × (Nat → Int32)} {M : mrec} {k pc : Nat} {ls st : List qv} {g : sg} {Z : qv → sg → Prop} {n : Int} {v : Int32} (hd : decode (mB M) pc = .ok (.iconst n, 1)) (hv : Int32.ofInt n = v) (kk : nnWP X M k (pc + 1) ls (qi v :: st) g Z) : nnWP X M k pc ls st g Z := by
  intro p l e R s m args below meth c dC dI dA scr b sz0 adr aad H locs cells slots Q lsM hC hR hL hV hc hsl hq hA
  have hx := hC.1
  have hb := hC.2.1
  exact lv_iconst hx hb hd hv (kk p l e R s m args below meth c dC dI dA scr b sz0 adr aad H locs cells slots Q lsM hC hR hL (List.forall_mem_cons.mpr ⟨trivial, hV⟩) hc hsl hq hA)
theorem wp_bipush {X : Nat × (Nat → Int32)} {M : mrec} {k pc : Nat} {ls st : List qv} {g : sg} {Z : qv → sg → Prop} {n : Int} {v : Int32} (hd : decode (mB M) pc = .ok (.bipush n, 2)) (hv : (Int8.ofInt n).toInt32 = v) (kk : nnWP X M k (pc + 2) ls (qi v :: st) g Z) : nnWP X M k pc ls st g Z := by
  intro p l e R s m args below meth c dC dI dA scr b sz0 adr aad H locs cells slots Q lsM hC hR hL hV hc hsl hq hA
  have hx := hC.1
  have hb := hC.2.1
  exact lv_bipush hx hb hd hv (kk p l e R s m args below meth c dC dI dA scr b sz0 adr aad H locs cells slots Q lsM hC hR hL (List.forall_mem_cons.mpr ⟨trivial, hV⟩) hc hsl hq hA)
theorem wp_sipush {X : Nat × (Nat → Int32)} {M : mrec} {k pc : Nat} {ls st : List qv} {g : sg} {Z : qv → sg → Prop} {n : Int} {v : Int32} (hd : decode (mB M) pc = .ok (.sipush n, 3)) (hv : (Int16.ofInt n).toInt32 = v) (kk : nnWP X M k (pc + 3) ls (qi v :: st) g Z) : nnWP X M k pc ls st g Z := by
  intro p l e R s m args below meth c dC dI dA scr b sz0 adr aad H locs cells slots Q lsM hC hR hL hV hc hsl hq hA
  have hx := hC.1
  have hb := hC.2.1
  exact lv_sipush hx hb hd hv (kk p l e R s m args below meth c dC dI dA scr b sz0 adr aad H locs cells slots Q lsM hC hR hL (List.forall_mem_cons.mpr ⟨trivial, hV⟩) hc hsl hq hA)
theorem wp_iload_n {X : Nat × (Nat → Int32)} {M : mrec} {k pc : Nat} {ls st : List qv} {g : sg} {Z : qv → sg → Prop} {j : Fin 4} {i : Nat} {x : Int32} (hd : decode (mB M) pc = .ok (.iload_n j, 1)) (hi : (j : Nat) = i) (hl : ls[i]? = some (qi x)) (kk : nnWP X M k (pc + 1) ls (qi x :: st) g Z) : nnWP X M k pc ls st g Z := by
  intro p l e R s m args below meth c dC dI dA scr b sz0 adr aad H locs cells slots Q lsM hC hR hL hV hc hsl hq hA
  have hx := hC.1
  have hb := hC.2.1
  exact lv_iload_n hx hb hd hi (hL.2.2.2 i _ hl (fun z => by cases z)).2 (kk p l e R s m args below meth c dC dI dA scr b sz0 adr aad H locs cells slots Q lsM hC hR hL (List.forall_mem_cons.mpr ⟨trivial, hV⟩) hc hsl hq hA)
theorem wp_iload {X : Nat × (Nat → Int32)} {M : mrec} {k pc : Nat} {ls st : List qv} {g : sg} {Z : qv → sg → Prop} {i : Nat} {x : Int32} (hd : decode (mB M) pc = .ok (.iload i, 2)) (hl : ls[i]? = some (qi x)) (kk : nnWP X M k (pc + 2) ls (qi x :: st) g Z) : nnWP X M k pc ls st g Z := by
  intro p l e R s m args below meth c dC dI dA scr b sz0 adr aad H locs cells slots Q lsM hC hR hL hV hc hsl hq hA
  have hx := hC.1
  have hb := hC.2.1
  exact lv_iload hx hb hd (hL.2.2.2 i _ hl (fun z => by cases z)).2 (kk p l e R s m args below meth c dC dI dA scr b sz0 adr aad H locs cells slots Q lsM hC hR hL (List.forall_mem_cons.mpr ⟨trivial, hV⟩) hc hsl hq hA)
def isRf (v : qv) : Prop := match v with
  | some (.inr _) => True
  | _ => False
theorem vM_rf (adr aad : Nat → Nat → Nat) (b : Nat) {v : qv} (h : isRf v) : vM adr aad b v = .null ∨ ∃ x, vM adr aad b v = .ref x := by
  match v, h with
  | some (.inr (.inl (ci, none))), _ => exact Or.inl rfl
  | some (.inr (.inl (ci, some a))), _ => exact Or.inr ⟨_, rfl⟩
  | some (.inr (.inr (f, a))), _ =>
    by_cases hf : f = 4095
    · exact Or.inr ⟨b, if_pos hf⟩
    · exact Or.inr ⟨aad f a, if_neg hf⟩
theorem isRf_ne {v : qv} (h : isRf v) : v ≠ none := fun z => by subst z; exact h
theorem wp_aload_n {X : Nat × (Nat → Int32)} {M : mrec} {k pc : Nat} {ls st : List qv} {g : sg} {Z : qv → sg → Prop} {j : Fin 4} {i : Nat} {v : qv} (hd : decode (mB M) pc = .ok (.aload_n j, 1)) (hi : (j : Nat) = i) (hl : ls[i]? = some v) (hv : isRf v) (kk : nnWP X M k (pc + 1) ls (v :: st) g Z) : nnWP X M k pc ls st g Z := by
  intro p l e R s m args below meth c dC dI dA scr b sz0 adr aad H locs cells slots Q lsM hC hR hL hV hc hsl hq hA
  have hx := hC.1
  have hb := hC.2.1
  have hq1 := hL.2.2.2 i _ hl (isRf_ne hv)
  have kw := kk p l e R s m args below meth c dC dI dA scr b sz0 adr aad H locs cells slots Q lsM hC hR hL (List.forall_mem_cons.mpr ⟨hq1.1, hV⟩) hc hsl hq hA
  have hq2 := hq1.2
  rw [List.map_cons] at kw
  rcases vM_rf adr aad b hv with hz | ⟨x, hz⟩
  · rw [hz] at hq2 kw
    exact lv_aload_nN hx hb hd hi hq2 kw
  · rw [hz] at hq2 kw
    exact lv_aload_n hx hb hd hi hq2 kw
theorem wp_aload {X : Nat × (Nat → Int32)} {M : mrec} {k pc : Nat} {ls st : List qv} {g : sg} {Z : qv → sg → Prop} {i : Nat} {v : qv} (hd : decode (mB M) pc = .ok (.aload i, 2)) (hl : ls[i]? = some v) (hv : isRf v) (kk : nnWP X M k (pc + 2) ls (v :: st) g Z) : nnWP X M k pc ls st g Z := by
  intro p l e R s m args below meth c dC dI dA scr b sz0 adr aad H locs cells slots Q lsM hC hR hL hV hc hsl hq hA
  have hx := hC.1
  have hb := hC.2.1
  have hq1 := hL.2.2.2 i _ hl (isRf_ne hv)
  have kw := kk p l e R s m args below meth c dC dI dA scr b sz0 adr aad H locs cells slots Q lsM hC hR hL (List.forall_mem_cons.mpr ⟨hq1.1, hV⟩) hc hsl hq hA
  have hq2 := hq1.2
  rw [List.map_cons] at kw
  rcases vM_rf adr aad b hv with hz | ⟨x, hz⟩
  · rw [hz] at hq2 kw
    exact lv_aloadN hx hb hd hq2 kw
  · rw [hz] at hq2 kw
    exact lv_aload hx hb hd hq2 kw
theorem wp_istore_n {X : Nat × (Nat → Int32)} {M : mrec} {k pc : Nat} {ls st : List qv} {g : sg} {Z : qv → sg → Prop} {j : Fin 4} {i : Nat} {x : Int32} (hd : decode (mB M) pc = .ok (.istore_n j, 1)) (hi : (j : Nat) = i) (ls' : List qv) (hn : i < mL M) (hs : ls.set i (qi x) = ls') (kk : nnWP X M k (pc + 1) ls' st g Z) : nnWP X M k pc ls (qi x :: st) g Z := by
  subst hs
  intro p l e R s m args below meth c dC dI dA scr b sz0 adr aad H locs cells slots Q lsM hC hR hL hV hc hsl hq hA
  have hx := hC.1
  have hb := hC.2.1
  have hV2 := (List.forall_mem_cons.mp hV).2
  have hh := lvAll_has hL.2.1
  rw [hL.1] at hh
  refine lv_istore_n (x := x) (rest := st.map (vM adr aad b)) hx hb hd hi hh hn rfl (fun ls2 h' => ?_)
  exact kk p l e R s m args below meth c dC dI dA scr b sz0 adr aad H locs cells slots Q ls2 hC hR (hL.put (v := qi x) trivial h') (hV2) hc hsl hq hA
theorem wp_istore {X : Nat × (Nat → Int32)} {M : mrec} {k pc : Nat} {ls st : List qv} {g : sg} {Z : qv → sg → Prop} {i : Nat} {x : Int32} (hd : decode (mB M) pc = .ok (.istore i, 2)) (ls' : List qv) (hn : i < mL M) (hs : ls.set i (qi x) = ls') (kk : nnWP X M k (pc + 2) ls' st g Z) : nnWP X M k pc ls (qi x :: st) g Z := by
  subst hs
  intro p l e R s m args below meth c dC dI dA scr b sz0 adr aad H locs cells slots Q lsM hC hR hL hV hc hsl hq hA
  have hx := hC.1
  have hb := hC.2.1
  have hV2 := (List.forall_mem_cons.mp hV).2
  have hh := lvAll_has hL.2.1
  rw [hL.1] at hh
  refine lv_istore (x := x) (rest := st.map (vM adr aad b)) hx hb hd hh hn rfl (fun ls2 h' => ?_)
  exact kk p l e R s m args below meth c dC dI dA scr b sz0 adr aad H locs cells slots Q ls2 hC hR (hL.put (v := qi x) trivial h') (hV2) hc hsl hq hA
theorem wp_astore_n {X : Nat × (Nat → Int32)} {M : mrec} {k pc : Nat} {ls st : List qv} {g : sg} {Z : qv → sg → Prop} {j : Fin 4} {i : Nat} {v : qv} (hd : decode (mB M) pc = .ok (.astore_n j, 1)) (hi : (j : Nat) = i) (ls' : List qv) (hn : i < mL M) (hv : isRf v) (hs : ls.set i v = ls') (kk : nnWP X M k (pc + 1) ls' st g Z) : nnWP X M k pc ls (v :: st) g Z := by
  subst hs
  intro p l e R s m args below meth c dC dI dA scr b sz0 adr aad H locs cells slots Q lsM hC hR hL hV hc hsl hq hA
  have hx := hC.1
  have hb := hC.2.1
  have hV1 := (List.forall_mem_cons.mp hV).1
  have hV2 := (List.forall_mem_cons.mp hV).2
  have hh := lvAll_has hL.2.1
  rw [hL.1] at hh
  rw [List.map_cons]
  rcases vM_rf adr aad b hv with hz | ⟨x, hz⟩
  · rw [hz]
    refine lv_astore_nN hx hb hd hi hh hn rfl (fun ls2 h' => ?_)
    exact kk p l e R s m args below meth c dC dI dA scr b sz0 adr aad H locs cells slots Q ls2 hC hR (hL.put (v := v) hV1 (by rw [hz]; exact h')) (hV2) hc hsl hq hA
  · rw [hz]
    refine lv_astore_n hx hb hd hi hh hn rfl (fun ls2 h' => ?_)
    exact kk p l e R s m args below meth c dC dI dA scr b sz0 adr aad H locs cells slots Q ls2 hC hR (hL.put (v := v) hV1 (by rw [hz]; exact h')) (hV2) hc hsl hq hA
theorem wp_astore {X : Nat × (Nat → Int32)} {M : mrec} {k pc : Nat} {ls st : List qv} {g : sg} {Z : qv → sg → Prop} {i : Nat} {v : qv} (hd : decode (mB M) pc = .ok (.astore i, 2)) (ls' : List qv) (hn : i < mL M) (hv : isRf v) (hs : ls.set i v = ls') (kk : nnWP X M k (pc + 2) ls' st g Z) : nnWP X M k pc ls (v :: st) g Z := by
  subst hs
  intro p l e R s m args below meth c dC dI dA scr b sz0 adr aad H locs cells slots Q lsM hC hR hL hV hc hsl hq hA
  have hx := hC.1
  have hb := hC.2.1
  have hV1 := (List.forall_mem_cons.mp hV).1
  have hV2 := (List.forall_mem_cons.mp hV).2
  have hh := lvAll_has hL.2.1
  rw [hL.1] at hh
  rw [List.map_cons]
  rcases vM_rf adr aad b hv with hz | ⟨x, hz⟩
  · rw [hz]
    refine lv_astoreN hx hb hd hh hn rfl (fun ls2 h' => ?_)
    exact kk p l e R s m args below meth c dC dI dA scr b sz0 adr aad H locs cells slots Q ls2 hC hR (hL.put (v := v) hV1 (by rw [hz]; exact h')) (hV2) hc hsl hq hA
  · rw [hz]
    refine lv_astore hx hb hd hh hn rfl (fun ls2 h' => ?_)
    exact kk p l e R s m args below meth c dC dI dA scr b sz0 adr aad H locs cells slots Q ls2 hC hR (hL.put (v := v) hV1 (by rw [hz]; exact h')) (hV2) hc hsl hq hA
theorem wp_iinc {X : Nat × (Nat → Int32)} {M : mrec} {k pc : Nat} {ls st : List qv} {g : sg} {Z : qv → sg → Prop} {i : Nat} {n : Int} {x v : Int32} (hd : decode (mB M) pc = .ok (.iinc i n, 3)) (hl : ls[i]? = some (qi x)) (hv : x + Int32.ofInt n = v) (ls' : List qv) (hn : i < mL M) (hs : ls.set i (qi v) = ls') (kk : nnWP X M k (pc + 3) ls' st g Z) : nnWP X M k pc ls st g Z := by
  subst hs
  intro p l e R s m args below meth c dC dI dA scr b sz0 adr aad H locs cells slots Q lsM hC hR hL hV hc hsl hq hA
  have hx := hC.1
  have hb := hC.2.1
  have hh := lvAll_has hL.2.1
  rw [hL.1] at hh
  have hq1 := (hL.2.2.2 i _ hl (fun z => by cases z)).2
  have hh2 : lv_has lsM (mL M) ((i, .int x) :: lvAll lsM) := ⟨hh.1, hh.2.1, fun q hq => by
    rcases List.mem_cons.mp hq with rfl | h
    · exact hq1
    · exact hh.2.2 q h⟩
  refine lv_iinc (k := 0) (x := x) (v := v) hx hb hd hh2 rfl hv hn rfl (fun ls2 h' => ?_)
  refine kk p l e R s m args below meth c dC dI dA scr b sz0 adr aad H locs cells slots Q ls2 hC hR (hL.put (v := qi v) trivial ?_) (hV) hc hsl hq hA
  refine ⟨h'.1, h'.2.1, fun q hq => ?_⟩
  rcases List.mem_cons.mp hq with rfl | h
  · exact h'.2.2 _ List.mem_cons_self
  · refine h'.2.2 _ (List.mem_cons_of_mem _ ?_)
    rw [List.mem_filter] at h ⊢
    exact ⟨List.mem_cons_of_mem _ h.1, h.2⟩
theorem wp_iadd {X : Nat × (Nat → Int32)} {M : mrec} {k pc : Nat} {ls st : List qv} {g : sg} {Z : qv → sg → Prop} {x y : Int32} (hd : decode (mB M) pc = .ok (.iadd, 1)) (kk : nnWP X M k (pc + 1) ls (qi (x + y) :: st) g Z) : nnWP X M k pc ls (qi y :: qi x :: st) g Z := by
  intro p l e R s m args below meth c dC dI dA scr b sz0 adr aad H locs cells slots Q lsM hC hR hL hV hc hsl hq hA
  have hx := hC.1
  have hb := hC.2.1
  have hV2 := (List.forall_mem_cons.mp (List.forall_mem_cons.mp hV).2).2
  exact lv_iadd (x := x) (y := y) (rest := st.map (vM adr aad b)) hx hb hd (kk p l e R s m args below meth c dC dI dA scr b sz0 adr aad H locs cells slots Q lsM hC hR hL (List.forall_mem_cons.mpr ⟨trivial, hV2⟩) hc hsl hq hA)
theorem wp_isub {X : Nat × (Nat → Int32)} {M : mrec} {k pc : Nat} {ls st : List qv} {g : sg} {Z : qv → sg → Prop} {x y : Int32} (hd : decode (mB M) pc = .ok (.isub, 1)) (kk : nnWP X M k (pc + 1) ls (qi (x - y) :: st) g Z) : nnWP X M k pc ls (qi y :: qi x :: st) g Z := by
  intro p l e R s m args below meth c dC dI dA scr b sz0 adr aad H locs cells slots Q lsM hC hR hL hV hc hsl hq hA
  have hx := hC.1
  have hb := hC.2.1
  have hV2 := (List.forall_mem_cons.mp (List.forall_mem_cons.mp hV).2).2
  exact lv_isub (x := x) (y := y) (rest := st.map (vM adr aad b)) hx hb hd (kk p l e R s m args below meth c dC dI dA scr b sz0 adr aad H locs cells slots Q lsM hC hR hL (List.forall_mem_cons.mpr ⟨trivial, hV2⟩) hc hsl hq hA)
theorem wp_imul {X : Nat × (Nat → Int32)} {M : mrec} {k pc : Nat} {ls st : List qv} {g : sg} {Z : qv → sg → Prop} {x y : Int32} (hd : decode (mB M) pc = .ok (.imul, 1)) (kk : nnWP X M k (pc + 1) ls (qi (x * y) :: st) g Z) : nnWP X M k pc ls (qi y :: qi x :: st) g Z := by
  intro p l e R s m args below meth c dC dI dA scr b sz0 adr aad H locs cells slots Q lsM hC hR hL hV hc hsl hq hA
  have hx := hC.1
  have hb := hC.2.1
  have hV2 := (List.forall_mem_cons.mp (List.forall_mem_cons.mp hV).2).2
  exact lv_imul (x := x) (y := y) (rest := st.map (vM adr aad b)) hx hb hd (kk p l e R s m args below meth c dC dI dA scr b sz0 adr aad H locs cells slots Q lsM hC hR hL (List.forall_mem_cons.mpr ⟨trivial, hV2⟩) hc hsl hq hA)
theorem wp_iand {X : Nat × (Nat → Int32)} {M : mrec} {k pc : Nat} {ls st : List qv} {g : sg} {Z : qv → sg → Prop} {x y : Int32} (hd : decode (mB M) pc = .ok (.iand, 1)) (kk : nnWP X M k (pc + 1) ls (qi (x &&& y) :: st) g Z) : nnWP X M k pc ls (qi y :: qi x :: st) g Z := by
  intro p l e R s m args below meth c dC dI dA scr b sz0 adr aad H locs cells slots Q lsM hC hR hL hV hc hsl hq hA
  have hx := hC.1
  have hb := hC.2.1
  have hV2 := (List.forall_mem_cons.mp (List.forall_mem_cons.mp hV).2).2
  exact lv_iand (x := x) (y := y) (rest := st.map (vM adr aad b)) hx hb hd (kk p l e R s m args below meth c dC dI dA scr b sz0 adr aad H locs cells slots Q lsM hC hR hL (List.forall_mem_cons.mpr ⟨trivial, hV2⟩) hc hsl hq hA)
theorem wp_ior {X : Nat × (Nat → Int32)} {M : mrec} {k pc : Nat} {ls st : List qv} {g : sg} {Z : qv → sg → Prop} {x y : Int32} (hd : decode (mB M) pc = .ok (.ior, 1)) (kk : nnWP X M k (pc + 1) ls (qi (x ||| y) :: st) g Z) : nnWP X M k pc ls (qi y :: qi x :: st) g Z := by
  intro p l e R s m args below meth c dC dI dA scr b sz0 adr aad H locs cells slots Q lsM hC hR hL hV hc hsl hq hA
  have hx := hC.1
  have hb := hC.2.1
  have hV2 := (List.forall_mem_cons.mp (List.forall_mem_cons.mp hV).2).2
  exact lv_ior (x := x) (y := y) (rest := st.map (vM adr aad b)) hx hb hd (kk p l e R s m args below meth c dC dI dA scr b sz0 adr aad H locs cells slots Q lsM hC hR hL (List.forall_mem_cons.mpr ⟨trivial, hV2⟩) hc hsl hq hA)
theorem wp_ishl {X : Nat × (Nat → Int32)} {M : mrec} {k pc : Nat} {ls st : List qv} {g : sg} {Z : qv → sg → Prop} {x y : Int32} (hd : decode (mB M) pc = .ok (.ishl, 1)) (kk : nnWP X M k (pc + 1) ls (qi (x <<< (y &&& 31)) :: st) g Z) : nnWP X M k pc ls (qi y :: qi x :: st) g Z := by
  intro p l e R s m args below meth c dC dI dA scr b sz0 adr aad H locs cells slots Q lsM hC hR hL hV hc hsl hq hA
  have hx := hC.1
  have hb := hC.2.1
  have hV2 := (List.forall_mem_cons.mp (List.forall_mem_cons.mp hV).2).2
  exact lv_ishl (x := x) (y := y) (rest := st.map (vM adr aad b)) hx hb hd (kk p l e R s m args below meth c dC dI dA scr b sz0 adr aad H locs cells slots Q lsM hC hR hL (List.forall_mem_cons.mpr ⟨trivial, hV2⟩) hc hsl hq hA)
theorem wp_ishr {X : Nat × (Nat → Int32)} {M : mrec} {k pc : Nat} {ls st : List qv} {g : sg} {Z : qv → sg → Prop} {x y : Int32} (hd : decode (mB M) pc = .ok (.ishr, 1)) (kk : nnWP X M k (pc + 1) ls (qi (x >>> (y &&& 31)) :: st) g Z) : nnWP X M k pc ls (qi y :: qi x :: st) g Z := by
  intro p l e R s m args below meth c dC dI dA scr b sz0 adr aad H locs cells slots Q lsM hC hR hL hV hc hsl hq hA
  have hx := hC.1
  have hb := hC.2.1
  have hV2 := (List.forall_mem_cons.mp (List.forall_mem_cons.mp hV).2).2
  exact lv_ishr (x := x) (y := y) (rest := st.map (vM adr aad b)) hx hb hd (kk p l e R s m args below meth c dC dI dA scr b sz0 adr aad H locs cells slots Q lsM hC hR hL (List.forall_mem_cons.mpr ⟨trivial, hV2⟩) hc hsl hq hA)
theorem wp_idiv {X : Nat × (Nat → Int32)} {M : mrec} {k pc : Nat} {ls st : List qv} {g : sg} {Z : qv → sg → Prop} {x y : Int32} (hd : decode (mB M) pc = .ok (.idiv, 1)) (hne : ¬ y = 0) (kk : nnWP X M k (pc + 1) ls (qi (x / y) :: st) g Z) : nnWP X M k pc ls (qi y :: qi x :: st) g Z := by
  intro p l e R s m args below meth c dC dI dA scr b sz0 adr aad H locs cells slots Q lsM hC hR hL hV hc hsl hq hA
  have hx := hC.1
  have hb := hC.2.1
  have hV2 := (List.forall_mem_cons.mp (List.forall_mem_cons.mp hV).2).2
  exact lv_idiv (x := x) (y := y) (rest := st.map (vM adr aad b)) hx hb hd hne (kk p l e R s m args below meth c dC dI dA scr b sz0 adr aad H locs cells slots Q lsM hC hR hL (List.forall_mem_cons.mpr ⟨trivial, hV2⟩) hc hsl hq hA)
theorem wp_irem {X : Nat × (Nat → Int32)} {M : mrec} {k pc : Nat} {ls st : List qv} {g : sg} {Z : qv → sg → Prop} {x y : Int32} (hd : decode (mB M) pc = .ok (.irem, 1)) (hne : ¬ y = 0) (kk : nnWP X M k (pc + 1) ls (qi (x - x / y * y) :: st) g Z) : nnWP X M k pc ls (qi y :: qi x :: st) g Z := by
  intro p l e R s m args below meth c dC dI dA scr b sz0 adr aad H locs cells slots Q lsM hC hR hL hV hc hsl hq hA
  have hx := hC.1
  have hb := hC.2.1
  have hV2 := (List.forall_mem_cons.mp (List.forall_mem_cons.mp hV).2).2
  exact lv_irem (x := x) (y := y) (rest := st.map (vM adr aad b)) hx hb hd hne (kk p l e R s m args below meth c dC dI dA scr b sz0 adr aad H locs cells slots Q lsM hC hR hL (List.forall_mem_cons.mpr ⟨trivial, hV2⟩) hc hsl hq hA)
theorem wp_i2c {X : Nat × (Nat → Int32)} {M : mrec} {k pc : Nat} {ls st : List qv} {g : sg} {Z : qv → sg → Prop} {x : Int32} (hd : decode (mB M) pc = .ok (.i2c, 1)) (kk : nnWP X M k (pc + 1) ls (qi ((x.toUInt32 % 65536).toInt32) :: st) g Z) : nnWP X M k pc ls (qi x :: st) g Z := by
  intro p l e R s m args below meth c dC dI dA scr b sz0 adr aad H locs cells slots Q lsM hC hR hL hV hc hsl hq hA
  have hx := hC.1
  have hb := hC.2.1
  have hV2 := (List.forall_mem_cons.mp hV).2
  exact lv_i2c (x := x) (rest := st.map (vM adr aad b)) hx hb hd rfl (kk p l e R s m args below meth c dC dI dA scr b sz0 adr aad H locs cells slots Q lsM hC hR hL (List.forall_mem_cons.mpr ⟨trivial, hV2⟩) hc hsl hq hA)
theorem wp_dup {X : Nat × (Nat → Int32)} {M : mrec} {k pc : Nat} {ls st : List qv} {g : sg} {Z : qv → sg → Prop} {v : qv} (hd : decode (mB M) pc = .ok (.dup, 1)) (kk : nnWP X M k (pc + 1) ls (v :: v :: st) g Z) : nnWP X M k pc ls (v :: st) g Z := by
  intro p l e R s m args below meth c dC dI dA scr b sz0 adr aad H locs cells slots Q lsM hC hR hL hV hc hsl hq hA
  have hx := hC.1
  have hb := hC.2.1
  exact lv_dup (va := vM adr aad b v) (rest := st.map (vM adr aad b)) hx hb hd (vM_cat _ _ _ _) (kk p l e R s m args below meth c dC dI dA scr b sz0 adr aad H locs cells slots Q lsM hC hR hL (List.forall_mem_cons.mpr ⟨(List.forall_mem_cons.mp hV).1, hV⟩) hc hsl hq hA)
theorem wp_pop {X : Nat × (Nat → Int32)} {M : mrec} {k pc : Nat} {ls st : List qv} {g : sg} {Z : qv → sg → Prop} {v : qv} (hd : decode (mB M) pc = .ok (.pop, 1)) (kk : nnWP X M k (pc + 1) ls st g Z) : nnWP X M k pc ls (v :: st) g Z := by
  intro p l e R s m args below meth c dC dI dA scr b sz0 adr aad H locs cells slots Q lsM hC hR hL hV hc hsl hq hA
  have hx := hC.1
  have hb := hC.2.1
  exact lv_pop (va := vM adr aad b v) (rest := st.map (vM adr aad b)) hx hb hd (vM_cat _ _ _ _) (kk p l e R s m args below meth c dC dI dA scr b sz0 adr aad H locs cells slots Q lsM hC hR hL ((List.forall_mem_cons.mp hV).2) hc hsl hq hA)
theorem wp_dup_x1 {X : Nat × (Nat → Int32)} {M : mrec} {k pc : Nat} {ls st : List qv} {g : sg} {Z : qv → sg → Prop} {v w : qv} (hd : decode (mB M) pc = .ok (.dup_x1, 1)) (kk : nnWP X M k (pc + 1) ls (v :: w :: v :: st) g Z) : nnWP X M k pc ls (v :: w :: st) g Z := by
  intro p l e R s m args below meth c dC dI dA scr b sz0 adr aad H locs cells slots Q lsM hC hR hL hV hc hsl hq hA
  have hx := hC.1
  have hb := hC.2.1
  have h1 := List.forall_mem_cons.mp hV
  have h2 := List.forall_mem_cons.mp h1.2
  exact lv_dup_x1 (va := vM adr aad b v) (vb := vM adr aad b w) (rest := st.map (vM adr aad b)) hx hb hd (vM_cat _ _ _ _) (vM_cat _ _ _ _) (kk p l e R s m args below meth c dC dI dA scr b sz0 adr aad H locs cells slots Q lsM hC hR hL (List.forall_mem_cons.mpr ⟨h1.1, List.forall_mem_cons.mpr ⟨h2.1, List.forall_mem_cons.mpr ⟨h1.1, h2.2⟩⟩⟩) hc hsl hq hA)
theorem wp_dup_x2 {X : Nat × (Nat → Int32)} {M : mrec} {k pc : Nat} {ls st : List qv} {g : sg} {Z : qv → sg → Prop} {v w u : qv} (hd : decode (mB M) pc = .ok (.dup_x2, 1)) (kk : nnWP X M k (pc + 1) ls (v :: w :: u :: v :: st) g Z) : nnWP X M k pc ls (v :: w :: u :: st) g Z := by
  intro p l e R s m args below meth c dC dI dA scr b sz0 adr aad H locs cells slots Q lsM hC hR hL hV hc hsl hq hA
  have hx := hC.1
  have hb := hC.2.1
  have h1 := List.forall_mem_cons.mp hV
  have h2 := List.forall_mem_cons.mp h1.2
  have h3 := List.forall_mem_cons.mp h2.2
  exact lv_dup_x2 (va := vM adr aad b v) (vb := vM adr aad b w) (vd := vM adr aad b u) (rest := st.map (vM adr aad b)) hx hb hd (vM_cat _ _ _ _) (vM_cat _ _ _ _) (vM_cat _ _ _ _) (kk p l e R s m args below meth c dC dI dA scr b sz0 adr aad H locs cells slots Q lsM hC hR hL (List.forall_mem_cons.mpr ⟨h1.1, List.forall_mem_cons.mpr ⟨h2.1, List.forall_mem_cons.mpr ⟨h3.1, List.forall_mem_cons.mpr ⟨h1.1, h3.2⟩⟩⟩⟩) hc hsl hq hA)
theorem wp_dup2 {X : Nat × (Nat → Int32)} {M : mrec} {k pc : Nat} {ls st : List qv} {g : sg} {Z : qv → sg → Prop} {v w : qv} (hd : decode (mB M) pc = .ok (.dup2, 1)) (kk : nnWP X M k (pc + 1) ls (v :: w :: v :: w :: st) g Z) : nnWP X M k pc ls (v :: w :: st) g Z := by
  intro p l e R s m args below meth c dC dI dA scr b sz0 adr aad H locs cells slots Q lsM hC hR hL hV hc hsl hq hA
  have hx := hC.1
  have hb := hC.2.1
  have h1 := List.forall_mem_cons.mp hV
  have h2 := List.forall_mem_cons.mp h1.2
  exact lv_dup2_11 (va := vM adr aad b v) (vb := vM adr aad b w) (rest := st.map (vM adr aad b)) hx hb hd (vM_cat _ _ _ _) (vM_cat _ _ _ _) (kk p l e R s m args below meth c dC dI dA scr b sz0 adr aad H locs cells slots Q lsM hC hR hL (List.forall_mem_cons.mpr ⟨h1.1, List.forall_mem_cons.mpr ⟨h2.1, hV⟩⟩) hc hsl hq hA)
theorem wp_icmp_eq {X : Nat × (Nat → Int32)} {M : mrec} {k pc : Nat} {ls st : List qv} {g : sg} {Z : qv → sg → Prop} {x y : Int32} {off : Int} {tgt : Nat} (hd : decode (mB M) pc = .ok (.if_icmp .eq off, 3)) (ht : (pc : Int) + off = (tgt : Int)) (kt : x = y → nnWP X M k tgt ls st g Z) (kf : ¬ x = y → nnWP X M k (pc + 3) ls st g Z) : nnWP X M k pc ls (qi y :: qi x :: st) g Z := by
  intro p l e R s m args below meth c dC dI dA scr b sz0 adr aad H locs cells slots Q lsM hC hR hL hV hc hsl hq hA
  have hx := hC.1
  have hb := hC.2.1
  have hV2 := (List.forall_mem_cons.mp (List.forall_mem_cons.mp hV).2).2
  exact lv_icmp_eq (x := x) (y := y) (rest := st.map (vM adr aad b)) hx hb hd ht (fun z => kt z p l e R s m args below meth c dC dI dA scr b sz0 adr aad H locs cells slots Q lsM hC hR hL (hV2) hc hsl hq hA) (fun z => kf z p l e R s m args below meth c dC dI dA scr b sz0 adr aad H locs cells slots Q lsM hC hR hL (hV2) hc hsl hq hA)
theorem wp_if_eq {X : Nat × (Nat → Int32)} {M : mrec} {k pc : Nat} {ls st : List qv} {g : sg} {Z : qv → sg → Prop} {x : Int32} {off : Int} {tgt : Nat} (hd : decode (mB M) pc = .ok (.ifCond .eq off, 3)) (ht : (pc : Int) + off = (tgt : Int)) (kt : x = 0 → nnWP X M k tgt ls st g Z) (kf : ¬ x = 0 → nnWP X M k (pc + 3) ls st g Z) : nnWP X M k pc ls (qi x :: st) g Z := by
  intro p l e R s m args below meth c dC dI dA scr b sz0 adr aad H locs cells slots Q lsM hC hR hL hV hc hsl hq hA
  have hx := hC.1
  have hb := hC.2.1
  have hV2 := (List.forall_mem_cons.mp hV).2
  exact lv_if_eq (x := x) (rest := st.map (vM adr aad b)) hx hb hd ht (fun z => kt z p l e R s m args below meth c dC dI dA scr b sz0 adr aad H locs cells slots Q lsM hC hR hL (hV2) hc hsl hq hA) (fun z => kf z p l e R s m args below meth c dC dI dA scr b sz0 adr aad H locs cells slots Q lsM hC hR hL (hV2) hc hsl hq hA)
theorem wp_icmp_ne {X : Nat × (Nat → Int32)} {M : mrec} {k pc : Nat} {ls st : List qv} {g : sg} {Z : qv → sg → Prop} {x y : Int32} {off : Int} {tgt : Nat} (hd : decode (mB M) pc = .ok (.if_icmp .ne off, 3)) (ht : (pc : Int) + off = (tgt : Int)) (kt : ¬ x = y → nnWP X M k tgt ls st g Z) (kf : x = y → nnWP X M k (pc + 3) ls st g Z) : nnWP X M k pc ls (qi y :: qi x :: st) g Z := by
  intro p l e R s m args below meth c dC dI dA scr b sz0 adr aad H locs cells slots Q lsM hC hR hL hV hc hsl hq hA
  have hx := hC.1
  have hb := hC.2.1
  have hV2 := (List.forall_mem_cons.mp (List.forall_mem_cons.mp hV).2).2
  exact lv_icmp_ne (x := x) (y := y) (rest := st.map (vM adr aad b)) hx hb hd ht (fun z => kt z p l e R s m args below meth c dC dI dA scr b sz0 adr aad H locs cells slots Q lsM hC hR hL (hV2) hc hsl hq hA) (fun z => kf z p l e R s m args below meth c dC dI dA scr b sz0 adr aad H locs cells slots Q lsM hC hR hL (hV2) hc hsl hq hA)
theorem wp_if_ne {X : Nat × (Nat → Int32)} {M : mrec} {k pc : Nat} {ls st : List qv} {g : sg} {Z : qv → sg → Prop} {x : Int32} {off : Int} {tgt : Nat} (hd : decode (mB M) pc = .ok (.ifCond .ne off, 3)) (ht : (pc : Int) + off = (tgt : Int)) (kt : ¬ x = 0 → nnWP X M k tgt ls st g Z) (kf : x = 0 → nnWP X M k (pc + 3) ls st g Z) : nnWP X M k pc ls (qi x :: st) g Z := by
  intro p l e R s m args below meth c dC dI dA scr b sz0 adr aad H locs cells slots Q lsM hC hR hL hV hc hsl hq hA
  have hx := hC.1
  have hb := hC.2.1
  have hV2 := (List.forall_mem_cons.mp hV).2
  exact lv_if_ne (x := x) (rest := st.map (vM adr aad b)) hx hb hd ht (fun z => kt z p l e R s m args below meth c dC dI dA scr b sz0 adr aad H locs cells slots Q lsM hC hR hL (hV2) hc hsl hq hA) (fun z => kf z p l e R s m args below meth c dC dI dA scr b sz0 adr aad H locs cells slots Q lsM hC hR hL (hV2) hc hsl hq hA)
theorem wp_icmp_lt {X : Nat × (Nat → Int32)} {M : mrec} {k pc : Nat} {ls st : List qv} {g : sg} {Z : qv → sg → Prop} {x y : Int32} {off : Int} {tgt : Nat} (hd : decode (mB M) pc = .ok (.if_icmp .lt off, 3)) (ht : (pc : Int) + off = (tgt : Int)) (kt : x < y → nnWP X M k tgt ls st g Z) (kf : ¬ x < y → nnWP X M k (pc + 3) ls st g Z) : nnWP X M k pc ls (qi y :: qi x :: st) g Z := by
  intro p l e R s m args below meth c dC dI dA scr b sz0 adr aad H locs cells slots Q lsM hC hR hL hV hc hsl hq hA
  have hx := hC.1
  have hb := hC.2.1
  have hV2 := (List.forall_mem_cons.mp (List.forall_mem_cons.mp hV).2).2
  exact lv_icmp_lt (x := x) (y := y) (rest := st.map (vM adr aad b)) hx hb hd ht (fun z => kt z p l e R s m args below meth c dC dI dA scr b sz0 adr aad H locs cells slots Q lsM hC hR hL (hV2) hc hsl hq hA) (fun z => kf z p l e R s m args below meth c dC dI dA scr b sz0 adr aad H locs cells slots Q lsM hC hR hL (hV2) hc hsl hq hA)
theorem wp_if_lt {X : Nat × (Nat → Int32)} {M : mrec} {k pc : Nat} {ls st : List qv} {g : sg} {Z : qv → sg → Prop} {x : Int32} {off : Int} {tgt : Nat} (hd : decode (mB M) pc = .ok (.ifCond .lt off, 3)) (ht : (pc : Int) + off = (tgt : Int)) (kt : x < 0 → nnWP X M k tgt ls st g Z) (kf : ¬ x < 0 → nnWP X M k (pc + 3) ls st g Z) : nnWP X M k pc ls (qi x :: st) g Z := by
  intro p l e R s m args below meth c dC dI dA scr b sz0 adr aad H locs cells slots Q lsM hC hR hL hV hc hsl hq hA
  have hx := hC.1
  have hb := hC.2.1
  have hV2 := (List.forall_mem_cons.mp hV).2
  exact lv_if_lt (x := x) (rest := st.map (vM adr aad b)) hx hb hd ht (fun z => kt z p l e R s m args below meth c dC dI dA scr b sz0 adr aad H locs cells slots Q lsM hC hR hL (hV2) hc hsl hq hA) (fun z => kf z p l e R s m args below meth c dC dI dA scr b sz0 adr aad H locs cells slots Q lsM hC hR hL (hV2) hc hsl hq hA)
theorem wp_icmp_ge {X : Nat × (Nat → Int32)} {M : mrec} {k pc : Nat} {ls st : List qv} {g : sg} {Z : qv → sg → Prop} {x y : Int32} {off : Int} {tgt : Nat} (hd : decode (mB M) pc = .ok (.if_icmp .ge off, 3)) (ht : (pc : Int) + off = (tgt : Int)) (kt : y ≤ x → nnWP X M k tgt ls st g Z) (kf : ¬ y ≤ x → nnWP X M k (pc + 3) ls st g Z) : nnWP X M k pc ls (qi y :: qi x :: st) g Z := by
  intro p l e R s m args below meth c dC dI dA scr b sz0 adr aad H locs cells slots Q lsM hC hR hL hV hc hsl hq hA
  have hx := hC.1
  have hb := hC.2.1
  have hV2 := (List.forall_mem_cons.mp (List.forall_mem_cons.mp hV).2).2
  exact lv_icmp_ge (x := x) (y := y) (rest := st.map (vM adr aad b)) hx hb hd ht (fun z => kt z p l e R s m args below meth c dC dI dA scr b sz0 adr aad H locs cells slots Q lsM hC hR hL (hV2) hc hsl hq hA) (fun z => kf z p l e R s m args below meth c dC dI dA scr b sz0 adr aad H locs cells slots Q lsM hC hR hL (hV2) hc hsl hq hA)
theorem wp_if_ge {X : Nat × (Nat → Int32)} {M : mrec} {k pc : Nat} {ls st : List qv} {g : sg} {Z : qv → sg → Prop} {x : Int32} {off : Int} {tgt : Nat} (hd : decode (mB M) pc = .ok (.ifCond .ge off, 3)) (ht : (pc : Int) + off = (tgt : Int)) (kt : 0 ≤ x → nnWP X M k tgt ls st g Z) (kf : ¬ 0 ≤ x → nnWP X M k (pc + 3) ls st g Z) : nnWP X M k pc ls (qi x :: st) g Z := by
  intro p l e R s m args below meth c dC dI dA scr b sz0 adr aad H locs cells slots Q lsM hC hR hL hV hc hsl hq hA
  have hx := hC.1
  have hb := hC.2.1
  have hV2 := (List.forall_mem_cons.mp hV).2
  exact lv_if_ge (x := x) (rest := st.map (vM adr aad b)) hx hb hd ht (fun z => kt z p l e R s m args below meth c dC dI dA scr b sz0 adr aad H locs cells slots Q lsM hC hR hL (hV2) hc hsl hq hA) (fun z => kf z p l e R s m args below meth c dC dI dA scr b sz0 adr aad H locs cells slots Q lsM hC hR hL (hV2) hc hsl hq hA)
theorem wp_icmp_gt {X : Nat × (Nat → Int32)} {M : mrec} {k pc : Nat} {ls st : List qv} {g : sg} {Z : qv → sg → Prop} {x y : Int32} {off : Int} {tgt : Nat} (hd : decode (mB M) pc = .ok (.if_icmp .gt off, 3)) (ht : (pc : Int) + off = (tgt : Int)) (kt : y < x → nnWP X M k tgt ls st g Z) (kf : ¬ y < x → nnWP X M k (pc + 3) ls st g Z) : nnWP X M k pc ls (qi y :: qi x :: st) g Z := by
  intro p l e R s m args below meth c dC dI dA scr b sz0 adr aad H locs cells slots Q lsM hC hR hL hV hc hsl hq hA
  have hx := hC.1
  have hb := hC.2.1
  have hV2 := (List.forall_mem_cons.mp (List.forall_mem_cons.mp hV).2).2
  exact lv_icmp_gt (x := x) (y := y) (rest := st.map (vM adr aad b)) hx hb hd ht (fun z => kt z p l e R s m args below meth c dC dI dA scr b sz0 adr aad H locs cells slots Q lsM hC hR hL (hV2) hc hsl hq hA) (fun z => kf z p l e R s m args below meth c dC dI dA scr b sz0 adr aad H locs cells slots Q lsM hC hR hL (hV2) hc hsl hq hA)
theorem wp_if_gt {X : Nat × (Nat → Int32)} {M : mrec} {k pc : Nat} {ls st : List qv} {g : sg} {Z : qv → sg → Prop} {x : Int32} {off : Int} {tgt : Nat} (hd : decode (mB M) pc = .ok (.ifCond .gt off, 3)) (ht : (pc : Int) + off = (tgt : Int)) (kt : 0 < x → nnWP X M k tgt ls st g Z) (kf : ¬ 0 < x → nnWP X M k (pc + 3) ls st g Z) : nnWP X M k pc ls (qi x :: st) g Z := by
  intro p l e R s m args below meth c dC dI dA scr b sz0 adr aad H locs cells slots Q lsM hC hR hL hV hc hsl hq hA
  have hx := hC.1
  have hb := hC.2.1
  have hV2 := (List.forall_mem_cons.mp hV).2
  exact lv_if_gt (x := x) (rest := st.map (vM adr aad b)) hx hb hd ht (fun z => kt z p l e R s m args below meth c dC dI dA scr b sz0 adr aad H locs cells slots Q lsM hC hR hL (hV2) hc hsl hq hA) (fun z => kf z p l e R s m args below meth c dC dI dA scr b sz0 adr aad H locs cells slots Q lsM hC hR hL (hV2) hc hsl hq hA)
theorem wp_icmp_le {X : Nat × (Nat → Int32)} {M : mrec} {k pc : Nat} {ls st : List qv} {g : sg} {Z : qv → sg → Prop} {x y : Int32} {off : Int} {tgt : Nat} (hd : decode (mB M) pc = .ok (.if_icmp .le off, 3)) (ht : (pc : Int) + off = (tgt : Int)) (kt : x ≤ y → nnWP X M k tgt ls st g Z) (kf : ¬ x ≤ y → nnWP X M k (pc + 3) ls st g Z) : nnWP X M k pc ls (qi y :: qi x :: st) g Z := by
  intro p l e R s m args below meth c dC dI dA scr b sz0 adr aad H locs cells slots Q lsM hC hR hL hV hc hsl hq hA
  have hx := hC.1
  have hb := hC.2.1
  have hV2 := (List.forall_mem_cons.mp (List.forall_mem_cons.mp hV).2).2
  exact lv_icmp_le (x := x) (y := y) (rest := st.map (vM adr aad b)) hx hb hd ht (fun z => kt z p l e R s m args below meth c dC dI dA scr b sz0 adr aad H locs cells slots Q lsM hC hR hL (hV2) hc hsl hq hA) (fun z => kf z p l e R s m args below meth c dC dI dA scr b sz0 adr aad H locs cells slots Q lsM hC hR hL (hV2) hc hsl hq hA)
theorem wp_if_le {X : Nat × (Nat → Int32)} {M : mrec} {k pc : Nat} {ls st : List qv} {g : sg} {Z : qv → sg → Prop} {x : Int32} {off : Int} {tgt : Nat} (hd : decode (mB M) pc = .ok (.ifCond .le off, 3)) (ht : (pc : Int) + off = (tgt : Int)) (kt : x ≤ 0 → nnWP X M k tgt ls st g Z) (kf : ¬ x ≤ 0 → nnWP X M k (pc + 3) ls st g Z) : nnWP X M k pc ls (qi x :: st) g Z := by
  intro p l e R s m args below meth c dC dI dA scr b sz0 adr aad H locs cells slots Q lsM hC hR hL hV hc hsl hq hA
  have hx := hC.1
  have hb := hC.2.1
  have hV2 := (List.forall_mem_cons.mp hV).2
  exact lv_if_le (x := x) (rest := st.map (vM adr aad b)) hx hb hd ht (fun z => kt z p l e R s m args below meth c dC dI dA scr b sz0 adr aad H locs cells slots Q lsM hC hR hL (hV2) hc hsl hq hA) (fun z => kf z p l e R s m args below meth c dC dI dA scr b sz0 adr aad H locs cells slots Q lsM hC hR hL (hV2) hc hsl hq hA)
theorem wp_goto {X : Nat × (Nat → Int32)} {M : mrec} {k pc : Nat} {ls st : List qv} {g : sg} {Z : qv → sg → Prop} {off : Int} {tgt : Nat} (hd : decode (mB M) pc = .ok (.goto off, 3)) (ht : (pc : Int) + off = (tgt : Int)) (kk : nnWP X M k tgt ls st g Z) : nnWP X M k pc ls st g Z := by
  intro p l e R s m args below meth c dC dI dA scr b sz0 adr aad H locs cells slots Q lsM hC hR hL hV hc hsl hq hA
  have hx := hC.1
  have hb := hC.2.1
  exact lv_goto hx hb hd ht (kk p l e R s m args below meth c dC dI dA scr b sz0 adr aad H locs cells slots Q lsM hC hR hL (hV) hc hsl hq hA)
theorem wp_null {X : Nat × (Nat → Int32)} {M : mrec} {k pc : Nat} {ls st : List qv} {g : sg} {Z : qv → sg → Prop} (ci : Nat) (hd : decode (mB M) pc = .ok (.aconst_null, 1)) (kk : nnWP X M k (pc + 1) ls (qr ci none :: st) g Z) : nnWP X M k pc ls st g Z := by
  intro p l e R s m args below meth c dC dI dA scr b sz0 adr aad H locs cells slots Q lsM hC hR hL hV hc hsl hq hA
  have hx := hC.1
  have hb := hC.2.1
  exact lv_null hx hb hd (kk p l e R s m args below meth c dC dI dA scr b sz0 adr aad H locs cells slots Q lsM hC hR hL (List.forall_mem_cons.mpr ⟨fun a z => (by cases z), hV⟩) hc hsl hq hA)
theorem wp_ifnull {X : Nat × (Nat → Int32)} {M : mrec} {k pc : Nat} {ls st : List qv} {g : sg} {Z : qv → sg → Prop} {ci : Nat} {o : Option Nat} {off : Int} {tgt : Nat} (hd : decode (mB M) pc = .ok (.ifnull off, 3)) (ht : (pc : Int) + off = (tgt : Int)) (kt : o = none → nnWP X M k tgt ls st g Z) (kf : ∀ a, o = some a → nnWP X M k (pc + 3) ls st g Z) : nnWP X M k pc ls (qr ci o :: st) g Z := by
  intro p l e R s m args below meth c dC dI dA scr b sz0 adr aad H locs cells slots Q lsM hC hR hL hV hc hsl hq hA
  have hx := hC.1
  have hb := hC.2.1
  have hV2 := (List.forall_mem_cons.mp hV).2
  cases o with
  | none => exact lv_ifnullN (rest := st.map (vM adr aad b)) hx hb hd ht (kt rfl p l e R s m args below meth c dC dI dA scr b sz0 adr aad H locs cells slots Q lsM hC hR hL (hV2) hc hsl hq hA)
  | some a => exact lv_ifnull (x := adr ci a) (rest := st.map (vM adr aad b)) hx hb hd (kf a rfl p l e R s m args below meth c dC dI dA scr b sz0 adr aad H locs cells slots Q lsM hC hR hL (hV2) hc hsl hq hA)
theorem wp_ifnonnull {X : Nat × (Nat → Int32)} {M : mrec} {k pc : Nat} {ls st : List qv} {g : sg} {Z : qv → sg → Prop} {ci : Nat} {o : Option Nat} {off : Int} {tgt : Nat} (hd : decode (mB M) pc = .ok (.ifnonnull off, 3)) (ht : (pc : Int) + off = (tgt : Int)) (kt : ∀ a, o = some a → nnWP X M k tgt ls st g Z) (kf : o = none → nnWP X M k (pc + 3) ls st g Z) : nnWP X M k pc ls (qr ci o :: st) g Z := by
  intro p l e R s m args below meth c dC dI dA scr b sz0 adr aad H locs cells slots Q lsM hC hR hL hV hc hsl hq hA
  have hx := hC.1
  have hb := hC.2.1
  have hV2 := (List.forall_mem_cons.mp hV).2
  cases o with
  | none => exact lv_ifnonnullN (rest := st.map (vM adr aad b)) hx hb hd (kf rfl p l e R s m args below meth c dC dI dA scr b sz0 adr aad H locs cells slots Q lsM hC hR hL (hV2) hc hsl hq hA)
  | some a => exact lv_ifnonnull (x := adr ci a) (rest := st.map (vM adr aad b)) hx hb hd ht (kt a rfl p l e R s m args below meth c dC dI dA scr b sz0 adr aad H locs cells slots Q lsM hC hR hL (hV2) hc hsl hq hA)
theorem wp_acmp_eq {X : Nat × (Nat → Int32)} {M : mrec} {k pc : Nat} {ls st : List qv} {g : sg} {Z : qv → sg → Prop} {ci : Nat} {o1 o2 : Option Nat} {off : Int} {tgt : Nat} (hd : decode (mB M) pc = .ok (.if_acmp .eq off, 3)) (ht : (pc : Int) + off = (tgt : Int)) (kt : o1 = o2 → nnWP X M k tgt ls st g Z) (kf : ¬ o1 = o2 → nnWP X M k (pc + 3) ls st g Z) : nnWP X M k pc ls (qr ci o2 :: qr ci o1 :: st) g Z := by
  intro p l e R s m args below meth c dC dI dA scr b sz0 adr aad H locs cells slots Q lsM hC hR hL hV hc hsl hq hA
  have hx := hC.1
  have hb := hC.2.1
  have h1 := List.forall_mem_cons.mp hV
  have h2 := List.forall_mem_cons.mp h1.2
  have he : o1.map (adr ci) = o2.map (adr ci) ↔ o1 = o2 := by
    constructor
    · intro z
      cases o1 with
      | none => cases o2 with
        | none => rfl
        | some y => cases z
      | some x => cases o2 with
        | none => cases z
        | some y => rw [(hR.2.2.1.1 ci x ci y (h2.1 x rfl) (h1.1 y rfl) (Option.some.inj z)).2]
    · intro z; rw [z]
  exact lv_acmp_eq (rx := o1.map (adr ci)) (ry := o2.map (adr ci)) (rest := st.map (vM adr aad b)) hx hb hd ht (fun z => kt (by rw [← he]; exact z) p l e R s m args below meth c dC dI dA scr b sz0 adr aad H locs cells slots Q lsM hC hR hL (h2.2) hc hsl hq hA) (fun z => kf (by rw [← he]; exact z) p l e R s m args below meth c dC dI dA scr b sz0 adr aad H locs cells slots Q lsM hC hR hL (h2.2) hc hsl hq hA)
theorem wp_acmp_ne {X : Nat × (Nat → Int32)} {M : mrec} {k pc : Nat} {ls st : List qv} {g : sg} {Z : qv → sg → Prop} {ci : Nat} {o1 o2 : Option Nat} {off : Int} {tgt : Nat} (hd : decode (mB M) pc = .ok (.if_acmp .ne off, 3)) (ht : (pc : Int) + off = (tgt : Int)) (kt : ¬ o1 = o2 → nnWP X M k tgt ls st g Z) (kf : o1 = o2 → nnWP X M k (pc + 3) ls st g Z) : nnWP X M k pc ls (qr ci o2 :: qr ci o1 :: st) g Z := by
  intro p l e R s m args below meth c dC dI dA scr b sz0 adr aad H locs cells slots Q lsM hC hR hL hV hc hsl hq hA
  have hx := hC.1
  have hb := hC.2.1
  have h1 := List.forall_mem_cons.mp hV
  have h2 := List.forall_mem_cons.mp h1.2
  have he : o1.map (adr ci) = o2.map (adr ci) ↔ o1 = o2 := by
    constructor
    · intro z
      cases o1 with
      | none => cases o2 with
        | none => rfl
        | some y => cases z
      | some x => cases o2 with
        | none => cases z
        | some y => rw [(hR.2.2.1.1 ci x ci y (h2.1 x rfl) (h1.1 y rfl) (Option.some.inj z)).2]
    · intro z; rw [z]
  exact lv_acmp_ne (rx := o1.map (adr ci)) (ry := o2.map (adr ci)) (rest := st.map (vM adr aad b)) hx hb hd ht (fun z => kt (by rw [← he]; exact z) p l e R s m args below meth c dC dI dA scr b sz0 adr aad H locs cells slots Q lsM hC hR hL (h2.2) hc hsl hq hA) (fun z => kf (by rw [← he]; exact z) p l e R s m args below meth c dC dI dA scr b sz0 adr aad H locs cells slots Q lsM hC hR hL (h2.2) hc hsl hq hA)
theorem wp_lookup {X : Nat × (Nat → Int32)} {M : mrec} {k pc : Nat} {ls st : List qv} {g : sg} {Z : qv → sg → Prop} {x : Int32} {dflt : Int} {ps : Array (Int × Int)} {len : Nat} (hd : decode (mB M) pc = .ok (.lookupswitch dflt ps, len)) (hp : (ps.toList.zip (ps.toList.drop 1)).all (fun (a, next) => a.1 < next.1) = true) {tgt : Nat} (ht : (pc : Int) + Op.lookupswitch.offset ps.toList dflt x.toInt = (tgt : Int)) (kk : nnWP X M k tgt ls st g Z) : nnWP X M k pc ls (qi x :: st) g Z := by
  intro p l e R s m args below meth c dC dI dA scr b sz0 adr aad H locs cells slots Q lsM hC hR hL hV hc hsl hq hA
  have hx := hC.1
  have hb := hC.2.1
  exact lv_lookup (x := x) (rest := st.map (vM adr aad b)) hx hb hd hp rfl ht (kk p l e R s m args below meth c dC dI dA scr b sz0 adr aad H locs cells slots Q lsM hC hR hL ((List.forall_mem_cons.mp hV).2) hc hsl hq hA)
theorem wp_tableIn {X : Nat × (Nat → Int32)} {M : mrec} {k pc : Nat} {ls st : List qv} {g : sg} {Z : qv → sg → Prop} {x : Int32} {dflt lo hi : Int} {offs : Array Int} {len : Nat} (hd : decode (mB M) pc = .ok (.tableswitch dflt lo hi offs, len)) (h1 : ¬ x.toInt < lo) (h2 : ¬ hi < x.toInt) {off : Int} (ho : offs[(x.toInt - lo).toNat]? = some off) {tgt : Nat} (ht : (pc : Int) + off = (tgt : Int)) (kk : nnWP X M k tgt ls st g Z) : nnWP X M k pc ls (qi x :: st) g Z := by
  intro p l e R s m args below meth c dC dI dA scr b sz0 adr aad H locs cells slots Q lsM hC hR hL hV hc hsl hq hA
  have hx := hC.1
  have hb := hC.2.1
  exact lv_tableIn (x := x) (rest := st.map (vM adr aad b)) hx hb hd h1 h2 ho ht (kk p l e R s m args below meth c dC dI dA scr b sz0 adr aad H locs cells slots Q lsM hC hR hL ((List.forall_mem_cons.mp hV).2) hc hsl hq hA)
theorem wp_tableOut {X : Nat × (Nat → Int32)} {M : mrec} {k pc : Nat} {ls st : List qv} {g : sg} {Z : qv → sg → Prop} {x : Int32} {dflt lo hi : Int} {offs : Array Int} {len : Nat} (hd : decode (mB M) pc = .ok (.tableswitch dflt lo hi offs, len)) (h1 : x.toInt < lo ∨ hi < x.toInt) {tgt : Nat} (ht : (pc : Int) + dflt = (tgt : Int)) (kk : nnWP X M k tgt ls st g Z) : nnWP X M k pc ls (qi x :: st) g Z := by
  intro p l e R s m args below meth c dC dI dA scr b sz0 adr aad H locs cells slots Q lsM hC hR hL hV hc hsl hq hA
  have hx := hC.1
  have hb := hC.2.1
  exact lv_tableOut (x := x) (rest := st.map (vM adr aad b)) hx hb hd h1 ht (kk p l e R s m args below meth c dC dI dA scr b sz0 adr aad H locs cells slots Q lsM hC hR hL ((List.forall_mem_cons.mp hV).2) hc hsl hq hA)
