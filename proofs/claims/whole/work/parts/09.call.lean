def nnMT (X : Nat × (Nat → Int32)) (M : mrec) (k : Nat) (as : List qv) (g : sg) (Z : qv → sg → Prop) : Prop := nnWP X M k 0 (as ++ List.replicate (mL M - as.length) none) [] g Z
def gExt (g g1 : sg) : Prop := (∀ ci, gC g ci ≤ gC g1 ci) ∧ ∀ f a n, gA g f a = some n → gA g1 f a = some n
theorem gExt.rf {g : sg} : gExt g g := ⟨fun _ => Nat.le_refl _, fun _ _ _ h => h⟩
theorem gExt.tr {g g1 g2 : sg} (h : gExt g g1) (k : gExt g1 g2) : gExt g g2 := ⟨fun c => Nat.le_trans (h.1 c) (k.1 c), fun f a n hn => k.2 f a n (h.2 f a n hn)⟩
def mOK (M : mrec) : Prop := Cond.code (mY M) (mB M) (mL M) (mR M) ∈ nn_ws ∧ Cond.initialized (mY M).cls ∈ nn_ws ∧ plainName (mY M).cls = true ∧ (mY M).cls ≠ "java/lang/invoke/MethodHandle" ∧ (mY M).cls ≠ "java/lang/invoke/VarHandle"
def lkM (own : String) (index : Nat) (y : MethodName) : Prop := Cond.methodLink own index y ∈ nn_ws ∨ ∃ h : String, (own, index, y, h) ∈ nn_nq
def nnPc (X : Nat × (Nat → Int32)) (dC : Nat → ClassId) (dI : Nat → Nat → Nat) (dA : Nat → ClassId) (scr : Cell) (b sz0 : Nat) (adr aad : Nat → Nat → Nat) (g : sg) (as : List qv) : Array Value → State → Prop :=
  va_Pc (as.map (vM adr aad b)) (fun U => nnRP dC dI dA adr aad b scr sz0 g U.heap ∧ nnKN dC dI dA U ∧ nnSC X scr U)
def nnQc (dC : Nat → ClassId) (dI : Nat → Nat → Nat) (dA : Nat → ClassId) (scr : Cell) (b sz0 : Nat) (adr aad : Nat → Nat → Nat) (g : sg) (sd : Nat) (Z : qv → sg → Prop) : Array Value → State → Outcome → State → Prop := fun _ _ o t =>
  ∃ (r : qv) (g1 : sg) (adr1 aad1 : Nat → Nat → Nat), o = .returned ((rl r).map (vM adr1 aad1 b)).head? ∧ Z r g1 ∧ nnRP dC dI dA adr1 aad1 b scr sz0 g1 t.heap ∧ nnEX adr aad adr1 aad1 g g1 ∧ nnAG sd g g1 ∧ vOK g1 r
theorem nnPc_blind {X : Nat × (Nat → Int32)} {dC : Nat → ClassId} {dI : Nat → Nat → Nat} {dA : Nat → ClassId} {scr : Cell} {b sz0 : Nat} {adr aad : Nat → Nat → Nat} {g : sg} {as : List qv} : FrameBlind (nnPc X dC dI dA scr b sz0 adr aad g as) := by
  intro a U fr mk h
  obtain ⟨h1, h2, h3, h4⟩ := h
  exact ⟨h1, h2, nnKN.same (u := U) (U := U.calling fr mk a) h3 rfl, nnSC.moved (u := U) (U := U.calling fr mk a) h4 (Vm.Alike.refl _)⟩
theorem nnPc_at {X : Nat × (Nat → Int32)} {dC : Nat → ClassId} {dI : Nat → Nat → Nat} {dA : Nat → ClassId} {scr : Cell} {b sz0 : Nat} {adr aad : Nat → Nat → Nat} {g : sg} {as : List qv} {s : State} {H : Heap} (hR : nnRP dC dI dA adr aad b scr sz0 g H) (hK : nnKN dC dI dA s) (hS : nnSC X scr s) :
    ∀ U : State, U.heap = H → s.WarmedH U.vm → nnPc X dC dI dA scr b sz0 adr aad g as (as.map (vM adr aad b)).toArray U := by
  intro U hU hW
  exact ⟨rfl, by rw [hU]; exact hR, hK.warm hW, hS.moved hW.alike⟩
theorem lg_sl_1 (vs : List Value) (h : ∀ v ∈ vs, v.category = 1) : lg_sl vs = vs.map Slot.val := by
  induction vs with
  | nil => rfl
  | cons v vs ih =>
    have h1 := h v List.mem_cons_self
    have h2 := ih fun w hw => h w (List.mem_cons_of_mem _ hw)
    unfold lg_sl at h2 ⊢
    rw [List.flatMap_cons, h2, if_neg (by omega)]
    rfl
theorem nn_entry {adr aad : Nat → Nat → Nat} {b nL : Nat} {g : sg} {as : List qv} (hlen : as.length ≤ nL) (has : ∀ v ∈ as, vOK g v) :
    nnLR adr aad b g nL (as ++ List.replicate (nL - as.length) none) ((lg_sl (as.map (vM adr aad b)) ++ List.replicate (nL - (lg_sl (as.map (vM adr aad b))).length) Slot.unset).toArray) := by
  have hc : ∀ v ∈ as.map (vM adr aad b), v.category = 1 := by
    intro v hv
    obtain ⟨w, -, rfl⟩ := List.mem_map.mp hv
    exact vM_cat adr aad b w
  have he := lg_sl_1 _ hc
  have hle : (lg_sl (as.map (vM adr aad b))).length = as.length := by rw [he, List.length_map, List.length_map]
  have hl := lv_entry (as.map (vM adr aad b)) (n := nL) (by rw [hle]; exact hlen)
  refine ⟨hl.1, hl.2.1, by rw [List.length_append, List.length_replicate]; omega, fun i v hi hn => ?_⟩
  have hlt : i < as.length := by
    apply Nat.not_le.mp
    intro hge
    rw [List.getElem?_append_right hge] at hi
    have := List.mem_of_getElem? hi
    exact hn (List.eq_of_mem_replicate this)
  rw [List.getElem?_append_left hlt] at hi
  refine ⟨has v (List.mem_of_getElem? hi), ?_⟩
  rw [List.getElem?_toArray, List.getElem?_append_left (by rw [hle]; exact hlt), he, List.map_map, List.getElem?_map, hi]
  rfl
section MT
variable {X : Nat × (Nat → Int32)} {dC : Nat → ClassId} {dI : Nat → Nat → Nat} {dA : Nat → ClassId} {scr : Cell} {b sz0 : Nat} {adr aad : Nat → Nat → Nat} {g : sg}
theorem nn_met (l : Launch) {M : mrec} {k : Nat} {as : List qv} {Z : qv → sg → Prop} (hM : mOK M) (hlen : as.length ≤ mL M) (has : ∀ v ∈ as, vOK g v) (hmt : nnMT X M k as g Z) :
    Met l (mY M) (Cond.code (mY M) (mB M) (mL M) (mR M) :: nn_ws) ({ frames := mF M, cells := k, slots := 16 * k, locals := mW M } : Room) (nnPc X dC dI dA scr b sz0 adr aad g as) (nnQc dC dI dA scr b sz0 adr aad g (mS M) Z) k (16 * k) (fun q => sz0 ≤ q) := by
  refine Met.ofW (cc := mB M) (maxL := mL M) (ret := mR M) hM.2.2.1 rfl ?_
  intro p e s m args below meth c s₁ B hml hv
  obtain ⟨rfl, hRP, hKN, hSC⟩ := hv
  have hts := atoms_spec (ws := Cond.code (mY M) (mB M) (mL M) (mR M) :: nn_ws) B.pre
  have hlocks := B.notSynchronized
  rw [lg_entry_eq]
  refine hmt p l e _ s m _ below meth c dC dI dA scr b sz0 adr aad s.heap [] 0 0 _ _ ⟨B.exec, B.bytes, hml, findClass_of_methodNamed B.named, fun w hw => hts w (List.mem_cons_of_mem _ hw), hKN, fun hn => (name_of_methodNamed B.named B.method).1.trans hn, Nat.le_refl _, Nat.le_refl _, hSC⟩ hRP (nn_entry hlen has) (fun v hv => by cases hv) (Nat.le_of_eq (Nat.zero_add _)) (Nat.le_of_eq (Nat.zero_add _)) (fun q hq => by cases hq) ?_
  intro r g1 adr1 aad1 H1 locs1 cells1 slots1 pc1 ls1 hz hR1 hx1 hg1 hv1 hq1 hc1 hs1 hrt
  refine W.widen (k := k) (n := 16 * k) hc1 hs1 ?_
  have hret := B.returns
  have hq : ∀ t : State, t.heap = H1 → s.WarmedH t.vm → nnQc dC dI dA scr b sz0 adr aad g (mS M) Z (as.map (vM adr aad b)).toArray s (.returned ((rl r).map (vM adr1 aad1 b)).head?) t := fun t ht _ => ⟨r, g1, adr1, aad1, rfl, hz, by rw [ht]; exact hR1, hx1, hg1, hv1⟩
  unfold nnRT at hrt
  split at hrt
  · rename_i hm
    obtain ⟨rfl, hd⟩ := hrt
    exact W.vret B.exec B.bytes (by rw [hret, hm]) hq hq1 hd
  · rename_i hm
    obtain ⟨⟨x, rfl⟩, hd⟩ := hrt
    exact W.iret B.exec B.bytes (by rw [hret, hm]) hq hq1 hd
  · rename_i hm
    obtain ⟨hr, hd⟩ := hrt
    rcases hr with rfl | rfl
    · exact W.zret (ty := .boolean) B.exec B.bytes (by rw [hret, hm]) rfl hq hq1 hd
    · exact W.zret (ty := .boolean) B.exec B.bytes (by rw [hret, hm]) rfl hq hq1 hd
  · rename_i hm
    obtain ⟨⟨x, hx, rfl⟩, hd⟩ := hrt
    exact W.zret (ty := .char) B.exec B.bytes (by rw [hret, hm]) hx.1 hq hq1 hd
  · rename_i hm
    obtain ⟨⟨ci, o, rfl⟩, hd⟩ := hrt
    exact W.aret B.exec B.bytes (by rw [hret, hm]) (Or.inl ⟨_, rfl⟩) (va_rf_rf _) hq hq1 hd
  · exact hrt.elim
theorem nn_good {M : mrec} (hM : mOK M) : GoodIn nn_ws (Cond.code (mY M) (mB M) (mL M) (mR M) :: nn_ws) := by
  intro w hw
  have hin : w ∈ nn_ws := by
    rcases List.mem_cons.mp hw with rfl | h
    · exact hM.1
    · exact h
  exact ⟨hin, good_of_word (nn_ws_good w hin)⟩
theorem rl_head (adr aad : Nat → Nat → Nat) (b : Nat) (r : qv) : ((rl r).map (vM adr aad b)).head?.toList = (rl r).map (vM adr aad b) := by
  cases r with
  | none => rfl
  | some v => rfl
theorem nn_cont {M : mrec} {p : Program} {l : Launch} {e : Env} {R : Room} {s : State} {m : MethodId} {args : Array Value} {below : List Frame} {meth : Method} {c : Code} {H : Heap} {locs : List Loc} {cells slots : Nat} {Q : State → Prop} {lsM : Array Slot} {k k' pc sd' : Nat} {ls st : List qv} {Z : qv → sg → Prop} {stM : List Value} {a : Array Value}
    (hrun : va_Run p l e R s m args below meth c H locs cells slots k' (16 * k') (F0 m pc lsM stM) (st.map (vM adr aad b)) (nnQc dC dI dA scr b sz0 adr aad g sd' (fun r g1 => gExt g g1 ∧ nnAG sd' g g1 → nnWP X M (k - k') (pc + 3) ls (rl r ++ st) g1 Z) a) (fun q => sz0 ≤ q))
    (hC : nnCX X M p R s m args meth c dC dI dA scr) (hL : nnLR adr aad b g (mL M) ls lsM) (hV : ∀ v ∈ st, vOK g v) (hsd : sd' = mS M ∨ mS M = 2) (hk : k' ≤ k) (hc : cells + k ≤ R.cells) (hsl : slots + 16 * k ≤ R.slots) (hq : ∀ q ∈ locs, sz0 ≤ q.base) (hA : nnAC M p l e R s m args below meth c dC dI dA scr b sz0 adr aad g Q Z) :
    W p l e R s m args below meth c H locs cells slots Q (F0 m pc lsM stM) := by
  intro T hT Xs
  obtain ⟨v, st₀, t, T', L, h0, X', hL', e1, e2, ⟨r, g1, adr1, aad1, hv, hz, hR1, hx1, hg1, hv1⟩, hgo⟩ := hrun T hT Xs
  have hv2 := Outcome.returned.inj hv
  have hm : st.map (vM adr1 aad1 b) = st.map (vM adr aad b) := List.map_congr_left fun v hv => vM_ex hx1 (hV v hv)
  have hst : ∀ w ∈ rl r ++ st, vOK g1 w := by
    intro w hw
    rcases List.mem_append.mp hw with h | h
    · cases r with
      | none => cases h
      | some u =>
        rw [List.mem_singleton.mp h]
        exact hv1
    · exact vOK_ex hx1 (hV w h)
  obtain ⟨t2, a1, b1⟩ := hz ⟨⟨hx1.1, fun f a n h => (hx1.2.2 f a n h).1⟩, hg1⟩ p l e R s m args below meth c dC dI dA scr b sz0 adr1 aad1 T'.heap (locs ++ L) (cells + k') (slots + 16 * k') Q lsM hC (by rw [e1]; exact hR1) (hL.ex hx1) hst (by omega) (by omega) (t_lL hq hL') (hA.ex hx1 (hg1.up hsd)) T' rfl X'
  refine ⟨t2, hgo t2 ?_, b1⟩
  rw [List.map_append, hm, ← rl_head, ← hv2] at a1
  exact a1
end MT
theorem lv_room8 {m : MethodId} {pc : Nat} {ls : Array Slot} {rest : List Value} (adr aad : Nat → Nat → Nat) (b : Nat) {st : List qv} (h : st.length ≤ 8) : 2 * (F0 m pc ls rest).monitorRoom + ((st.map (vM adr aad b)).map fun v => v.category).sum ≤ 8 := lv_room (by rw [sum_cat]; exact h)
theorem wp_callS {X : Nat × (Nat → Int32)} {M : mrec} {k pc : Nat} {ls : List qv} {g : sg} {Z : qv → sg → Prop} {M' : mrec} {index : Nat} (k' : Nat) (as st : List qv) (hd : decode (mB M) pc = .ok (.invokestatic index, 3)) (hM : mOK M') (hlk : lkM (mY M).cls index (mY M')) (hw : Cond.static (mY M') ∈ nn_ws) (hfr : mF M' + 1 ≤ mF M ∧ 8 + (mL M' + 11) + mW M' ≤ mW M)
    (hn : (parseMethodDescriptor (mY M').desc).map (fun d => d.parameters.length) = some as.length) (hlen : as.length ≤ mL M') (hst : st.length ≤ 8) (hsd : mS M' = mS M ∨ mS M = 2) (hk : k' ≤ k) (kk : nnMT X M' k' as g (fun r g1 => gExt g g1 ∧ nnAG (mS M') g g1 → nnWP X M (k - k') (pc + 3) ls (rl r ++ st) g1 Z)) : nnWP X M k pc ls (as.reverse ++ st) g Z := by
  intro p l e R s m args below meth c dC dI dA scr b sz0 adr aad H locs cells slots Q lsM hC hR hL hV hc hsl hq hA
  obtain ⟨hx, hb, hml, hown, hts, hK, hnm, hf, hwd, hS⟩ := hC
  have hV1 : ∀ v ∈ as, vOK g v := fun v hv => hV v (List.mem_append_left _ (List.mem_reverse.mpr hv))
  have hV2 : ∀ v ∈ st, vOK g v := fun v hv => hV v (List.mem_append_right _ hv)
  have hmet := nn_met (dC := dC) (dI := dI) (dA := dA) (scr := scr) (b := b) (sz0 := sz0) (adr := adr) (aad := aad) l hM hlen hV1 kk
  have hstk : (as.reverse ++ st).map (vM adr aad b) = (as.map (vM adr aad b)).reverse ++ st.map (vM adr aad b) := by rw [List.map_append, List.map_reverse]
  have hf' : cells + k' ≤ R.cells ∧ slots + 16 * k' ≤ R.slots := ⟨by omega, by omega⟩
  have hR' : mF M' + 1 ≤ R.frames ∧ 8 + (mL M' + 11) + mW M' ≤ R.locals := ⟨by omega, by omega⟩
  have hG := nn_good hM
  have hini := hts _ hM.2.1
  have hstt := hts _ hw
  have hd' : (mY M').cls ≠ "java/lang/invoke/MethodHandle" ∧ (mY M').cls ≠ "java/lang/invoke/VarHandle" ∧ (parseMethodDescriptor (mY M').desc).map (fun d => d.parameters.length) = some as.length := ⟨hM.2.2.2.1, hM.2.2.2.2, hn⟩
  rcases hlk with hlk | ⟨h, hlk⟩
  · refine nn_cont (k := k) (k' := k') (va_runS (n := as.length) (Ts := nn_ws) (nL := mL M) (As := as.map (vM adr aad b)) ⟨hx, hb, hml, hown, hts⟩ hmet ⟨callB_of as.length hts hG rfl rfl rfl hini (hts _ hlk) hd' hR', hstt⟩ ⟨nnPc_blind, nnPc_at hR hK hS⟩ rfl (List.length_map _) hL.1 hstk (lv_room8 adr aad b hst) hd hf') ⟨hx, hb, hml, hown, hts, hK, hnm, hf, hwd, hS⟩ hL hV2 hsd hk hc hsl hq hA
  · refine nn_cont (k := k) (k' := k') (va_runSN (n := as.length) (Ts := nn_ws) (nL := mL M) (As := as.map (vM adr aad b)) ⟨hx, hb, hml, hown, hts⟩ hmet ⟨va_cnB as.length hts hG rfl rfl rfl (hK.2.2.2.2 _ hlk) hini hd' hR', hstt, trivial⟩ ⟨nnPc_blind, nnPc_at hR hK hS⟩ rfl (List.length_map _) hL.1 hstk (lv_room8 adr aad b hst) hd hf') ⟨hx, hb, hml, hown, hts, hK, hnm, hf, hwd, hS⟩ hL hV2 hsd hk hc hsl hq hA
theorem wp_callV {X : Nat × (Nat → Int32)} {M : mrec} {k pc : Nat} {ls : List qv} {g : sg} {Z : qv → sg → Prop} {M' : mrec} {index ci : Nat} {o : Option Nat} (a k' : Nat) (as st : List qv) (hd : decode (mB M) pc = .ok (.invokevirtual index, 3)) (hM : mOK M') (hlk : lkM (mY M).cls index (mY M')) (hN : ci < nn_N) (hw : Cond.instanceMethod (mY M') ∈ nn_ws) (hw2 : Cond.selects (nn_nm ci) (mY M') (mY M') ∈ nn_ws) (hfr : mF M' + 1 ≤ mF M ∧ 8 + (mL M' + 11) + mW M' ≤ mW M)
    (hn : (parseMethodDescriptor (mY M').desc).map (fun d => d.parameters.length) = some as.length) (hlen : as.length + 1 ≤ mL M') (hst : st.length ≤ 8) (ho : o = some a) (hsd : mS M' = mS M ∨ mS M = 2) (hk : k' ≤ k) (kk : nnMT X M' k' (qr ci (some a) :: as) g (fun r g1 => gExt g g1 ∧ nnAG (mS M') g g1 → nnWP X M (k - k') (pc + 3) ls (rl r ++ st) g1 Z)) : nnWP X M k pc ls (as.reverse ++ qr ci o :: st) g Z := by
  subst ho
  intro p l e R s m args below meth c dC dI dA scr b sz0 adr aad H locs cells slots Q lsM hC hR hL hV hc hsl hq hA
  obtain ⟨hx, hb, hml, hown, hts, hK, hnm, hf, hwd, hS⟩ := hC
  have hV0 : vOK g (qr ci (some a)) := hV _ (List.mem_append_right _ List.mem_cons_self)
  have hV1 : ∀ v ∈ qr ci (some a) :: as, vOK g v := List.forall_mem_cons.mpr ⟨hV0, fun v hv => hV v (List.mem_append_left _ (List.mem_reverse.mpr hv))⟩
  have hV2 : ∀ v ∈ st, vOK g v := fun v hv => hV v (List.mem_append_right _ (List.mem_cons_of_mem _ hv))
  have hmet := nn_met (dC := dC) (dI := dI) (dA := dA) (scr := scr) (b := b) (sz0 := sz0) (adr := adr) (aad := aad) (as := qr ci (some a) :: as) l hM hlen hV1 kk
  have hstk : (as.reverse ++ qr ci (some a) :: st).map (vM adr aad b) = (as.map (vM adr aad b)).reverse ++ .ref (adr ci a) :: st.map (vM adr aad b) := by rw [List.map_append, List.map_reverse, List.map_cons]; rfl
  have hf' : cells + k' ≤ R.cells ∧ slots + 16 * k' ≤ R.slots := ⟨by omega, by omega⟩
  have hR' : mF M' + 1 ≤ R.frames ∧ 8 + (mL M' + 11) + mW M' ≤ R.locals := ⟨by omega, by omega⟩
  have hG := nn_good hM
  have hini := hts _ hM.2.1
  have hstt := hts _ hw
  have hsel := hts _ hw2
  have hd' : (mY M').cls ≠ "java/lang/invoke/MethodHandle" ∧ (mY M').cls ≠ "java/lang/invoke/VarHandle" ∧ (parseMethodDescriptor (mY M').desc).map (fun d => d.parameters.length) = some as.length := ⟨hM.2.2.2.1, hM.2.2.2.2, hn⟩
  have hcell : ∃ cellB : Cell, H[adr ci a]? = some cellB ∧ cellB.vm.isStatics = false ∧ s.vm.findClass (nn_nm ci) = some cellB.cls := by
    obtain ⟨-, ⟨cell, q1, q2, q3, -⟩, -⟩ := hR.1 ci a (hV0 a rfl)
    exact ⟨cell, q1, by rw [q3]; rfl, by rw [q2]; exact (hK.1 ci hN).2.1⟩
  rcases hlk with hlk | ⟨h, hlk⟩
  · refine nn_cont (k := k) (k' := k') (va_runV (n := as.length) (C := nn_nm ci) (b := adr ci a) (Ts := nn_ws) (nL := mL M) (As := as.map (vM adr aad b)) ⟨hx, hb, hml, hown, hts⟩ hmet ⟨callB_of as.length hts hG rfl rfl rfl hini (hts _ hlk) hd' hR', hstt, hsel⟩ ⟨nnPc_blind, hcell, nnPc_at hR hK hS⟩ rfl (List.length_map _) hL.1 hstk (lv_room8 adr aad b hst) hd hf') ⟨hx, hb, hml, hown, hts, hK, hnm, hf, hwd, hS⟩ hL hV2 hsd hk hc hsl hq hA
  · refine nn_cont (k := k) (k' := k') (va_runVN (n := as.length) (C := nn_nm ci) (b := adr ci a) (Ts := nn_ws) (nL := mL M) (As := as.map (vM adr aad b)) ⟨hx, hb, hml, hown, hts⟩ hmet ⟨va_cnB as.length hts hG rfl rfl rfl (hK.2.2.2.2 _ hlk) hini hd' hR', hstt, hsel⟩ ⟨nnPc_blind, hcell, nnPc_at hR hK hS⟩ rfl (List.length_map _) hL.1 hstk (lv_room8 adr aad b hst) hd hf') ⟨hx, hb, hml, hown, hts, hK, hnm, hf, hwd, hS⟩ hL hV2 hsd hk hc hsl hq hA
theorem wp_callI {X : Nat × (Nat → Int32)} {M : mrec} {k pc : Nat} {ls : List qv} {g : sg} {Z : qv → sg → Prop} {M' : mrec} {index ci : Nat} {o : Option Nat} (a k' : Nat) (as st : List qv) (hd : decode (mB M) pc = .ok (.invokespecial index, 3)) (hM : mOK M') (hret : mR M' = none) (hnm1 : (mY M').name = "<init>") (hlk : lkM (mY M).cls index (mY M')) (hw : Cond.instanceMethod (mY M') ∈ nn_ws) (hfr : mF M' + 1 ≤ mF M ∧ 8 + (mL M' + 11) + mW M' ≤ mW M)
    (hn : (parseMethodDescriptor (mY M').desc).map (fun d => d.parameters.length) = some as.length) (hlen : as.length + 1 ≤ mL M') (hst : st.length ≤ 8) (ho : o = some a) (hsd : mS M' = mS M ∨ mS M = 2) (hk : k' ≤ k) (kk : nnMT X M' k' (qr ci (some a) :: as) g (fun r g1 => gExt g g1 ∧ nnAG (mS M') g g1 → nnWP X M (k - k') (pc + 3) ls (rl r ++ st) g1 Z)) : nnWP X M k pc ls (as.reverse ++ qr ci o :: st) g Z := by
  subst ho
  intro p l e R s m args below meth c dC dI dA scr b sz0 adr aad H locs cells slots Q lsM hC hR hL hV hc hsl hq hA
  obtain ⟨hx, hb, hml, hown, hts, hK, hnm, hf, hwd, hS⟩ := hC
  have hV0 : vOK g (qr ci (some a)) := hV _ (List.mem_append_right _ List.mem_cons_self)
  have hV1 : ∀ v ∈ qr ci (some a) :: as, vOK g v := List.forall_mem_cons.mpr ⟨hV0, fun v hv => hV v (List.mem_append_left _ (List.mem_reverse.mpr hv))⟩
  have hV2 : ∀ v ∈ st, vOK g v := fun v hv => hV v (List.mem_append_right _ (List.mem_cons_of_mem _ hv))
  have hmet := nn_met (dC := dC) (dI := dI) (dA := dA) (scr := scr) (b := b) (sz0 := sz0) (adr := adr) (aad := aad) (as := qr ci (some a) :: as) l hM hlen hV1 kk
  have hstk : (as.reverse ++ qr ci (some a) :: st).map (vM adr aad b) = (as.map (vM adr aad b)).reverse ++ .ref (adr ci a) :: st.map (vM adr aad b) := by rw [List.map_append, List.map_reverse, List.map_cons]; rfl
  have hf' : cells + k' ≤ R.cells ∧ slots + 16 * k' ≤ R.slots := ⟨by omega, by omega⟩
  have hR' : mF M' + 1 ≤ R.frames ∧ 8 + (mL M' + 11) + mW M' ≤ R.locals := ⟨by omega, by omega⟩
  have hG := nn_good hM
  have hini := hts _ hM.2.1
  have hstt := hts _ hw
  have hd' : (mY M').cls ≠ "java/lang/invoke/MethodHandle" ∧ (mY M').cls ≠ "java/lang/invoke/VarHandle" ∧ (parseMethodDescriptor (mY M').desc).map (fun d => d.parameters.length) = some as.length := ⟨hM.2.2.2.1, hM.2.2.2.2, hn⟩
  rw [hret] at hmet hG
  rcases hlk with hlk | ⟨h, hlk⟩
  · refine nn_cont (k := k) (k' := k') (va_runI (n := as.length) (b := adr ci a) (Ts := nn_ws) (nL := mL M) (As := as.map (vM adr aad b)) ⟨hx, hb, hml, hown, hts⟩ hmet ⟨callB_of as.length hts hG rfl rfl rfl hini (hts _ hlk) hd' hR', hnm1, hstt⟩ ⟨nnPc_blind, nnPc_at hR hK hS⟩ rfl (List.length_map _) hL.1 hstk (lv_room8 adr aad b hst) hd hf') ⟨hx, hb, hml, hown, hts, hK, hnm, hf, hwd, hS⟩ hL hV2 hsd hk hc hsl hq hA
  · refine nn_cont (k := k) (k' := k') (va_runIN (n := as.length) (b := adr ci a) (Ts := nn_ws) (nL := mL M) (As := as.map (vM adr aad b)) ⟨hx, hb, hml, hown, hts⟩ hmet ⟨va_cnB as.length hts hG rfl rfl rfl (hK.2.2.2.2 _ hlk) hini hd' hR', hnm1, hstt⟩ ⟨nnPc_blind, nnPc_at hR hK hS⟩ rfl (List.length_map _) hL.1 hstk (lv_room8 adr aad b hst) hd hf') ⟨hx, hb, hml, hown, hts, hK, hnm, hf, hwd, hS⟩ hL hV2 hsd hk hc hsl hq hA
def zV (Z : sg → Prop) : qv → sg → Prop := fun r g => r = none ∧ Z g
def zI (Z : Int32 → sg → Prop) : qv → sg → Prop := fun r g => ∃ x, r = qi x ∧ Z x g
def zR (c : Nat) (Z : Option Nat → sg → Prop) : qv → sg → Prop := fun r g => ∃ o, r = qr c o ∧ Z o g
theorem mt_mono {X : Nat × (Nat → Int32)} {M : mrec} {k : Nat} {as : List qv} {g : sg} {Z Z' : qv → sg → Prop} (h : nnMT X M k as g Z) (hz : ∀ r g1, Z r g1 → Z' r g1) : nnMT X M k as g Z' := nnWP.mono h hz
def subL : List qv → List qv → Prop
  | [], [] => True
  | a :: as, b :: bs => (a = none ∨ a = b) ∧ subL as bs
  | _, _ => False
theorem subL_len : ∀ {l l' : List qv}, subL l l' → l.length = l'.length
  | [], [], _ => rfl
  | _ :: as, _ :: bs, h => congrArg (· + 1) (subL_len (l := as) (l' := bs) h.2)
theorem subL_at : ∀ {l l' : List qv}, subL l l' → ∀ (i : Nat) (v : qv), l[i]? = some v → v ≠ none → l'[i]? = some v
  | [], [], _, i, v, hi, _ => by simp at hi
  | a :: as, b :: bs, h, 0, v, hi, hn => by
    have : a = v := by simpa using hi
    subst this
    rcases h.1 with h1 | h1
    · exact absurd h1 hn
    · rw [h1]; rfl
  | a :: as, b :: bs, h, i + 1, v, hi, hn => by
    have h2 := subL_at h.2 i v (by simpa using hi) hn
    simpa using h2
theorem wp_cut {X : Nat × (Nat → Int32)} {M : mrec} {k pc : Nat} {ls ls' st : List qv} {g : sg} {Z : qv → sg → Prop} (h : nnWP X M k pc ls' st g Z) (hs : subL ls' ls) : nnWP X M k pc ls st g Z := h.sub (Nat.le_refl _) (subL_len hs) (subL_at hs)
theorem dz {b : ByteArray} {l : List (Nat × Instr × Nat)} (h : (l.all fun e => decide (decode b e.1 = .ok e.2)) = true) (i pc : Nat) (ins : Instr) (n : Nat) (he : l[i]? = some (pc, ins, n)) : decode b pc = .ok (ins, n) := by
  have h1 := List.all_eq_true.mp h _ (List.mem_of_getElem? he)
  rw [decide_eq_true_eq] at h1
  exact h1
theorem rt_I {M : mrec} {pc : Nat} {x : Int32} (h : mR M = some .int) (hd : decode (mB M) pc = .ok (.ireturn, 1)) : nnRT M pc (qi x) := by unfold nnRT; rw [h]; exact ⟨⟨x, rfl⟩, hd⟩
theorem rt_Z {M : mrec} {pc : Nat} {x : Int32} (h : mR M = some .boolean) (hx : x = 0 ∨ x = 1) (hd : decode (mB M) pc = .ok (.ireturn, 1)) : nnRT M pc (qi x) := by
  unfold nnRT
  rw [h]
  rcases hx with rfl | rfl
  · exact ⟨Or.inl rfl, hd⟩
  · exact ⟨Or.inr rfl, hd⟩
theorem rt_C {M : mrec} {pc : Nat} {x : Int32} (h : mR M = some .char) (hx : okI 1 x) (hd : decode (mB M) pc = .ok (.ireturn, 1)) : nnRT M pc (qi x) := by unfold nnRT; rw [h]; exact ⟨⟨x, hx, rfl⟩, hd⟩
theorem rt_R {M : mrec} {pc ci : Nat} {o : Option Nat} {C : String} (h : mR M = some (.object C)) (hd : decode (mB M) pc = .ok (.areturn, 1)) : nnRT M pc (qr ci o) := by unfold nnRT; rw [h]; exact ⟨⟨ci, o, rfl⟩, hd⟩
theorem rt_V {M : mrec} {pc : Nat} (h : mR M = none) (hd : decode (mB M) pc = .ok (.return_, 1)) : nnRT M pc none := by unfold nnRT; rw [h]; exact ⟨rfl, hd⟩
theorem wp_tableInK {X : Nat × (Nat → Int32)} {M : mrec} {k pc : Nat} {ls st : List qv} {g : sg} {Z : qv → sg → Prop} {x : Int32} {dflt lo hi : Int} {offs : Array Int} {len : Nat} (v : Int32) (hxv : x = v) (hd : decode (mB M) pc = .ok (.tableswitch dflt lo hi offs, len)) (h1 : ¬ v.toInt < lo) (h2 : ¬ hi < v.toInt) (off : Int) (ho : offs[(v.toInt - lo).toNat]? = some off) (tgt : Nat) (ht : (pc : Int) + off = (tgt : Int)) (kk : nnWP X M k tgt ls st g Z) : nnWP X M k pc ls (qi x :: st) g Z := by
  subst hxv
  exact wp_tableIn hd h1 h2 ho ht kk
theorem wp_lookupK {X : Nat × (Nat → Int32)} {M : mrec} {k pc : Nat} {ls st : List qv} {g : sg} {Z : qv → sg → Prop} {x : Int32} {dflt : Int} {ps : Array (Int × Int)} {len : Nat} (v : Int32) (hxv : x = v) (hd : decode (mB M) pc = .ok (.lookupswitch dflt ps, len)) (hp : (ps.toList.zip (ps.toList.drop 1)).all (fun (a, next) => a.1 < next.1) = true) (tgt : Nat) (ht : (pc : Int) + Op.lookupswitch.offset ps.toList dflt v.toInt = (tgt : Int)) (kk : nnWP X M k tgt ls st g Z) : nnWP X M k pc ls (qi x :: st) g Z := by
  subst hxv
  exact wp_lookup hd hp ht kk
