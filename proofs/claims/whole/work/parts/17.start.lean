theorem nn_inst : ∀ ci, ci < nn_N → Cond.instantiable (nn_nm ci) (nn_n ci) ∈ nn_ws := fun ci hc => match ci, hc with
  | 0, _ => wi_0
  | 1, _ => wi_1
  | 2, _ => wi_2
  | 3, _ => wi_3
  | 4, _ => wi_4
  | 5, _ => wi_5
  | 6, _ => wi_6
  | 7, _ => wi_7
  | 8, _ => wi_8
  | 9, _ => wi_9
  | 10, _ => wi_10
  | 11, _ => wi_11
  | 12, _ => wi_12
  | n + 13, h => absurd h (by show ¬ n + 13 < 13; omega)
theorem ao_2 : Cond.arrayOver (.object "NameNet$Entry") ∈ lw_tbl := nn_c_tables_1_1 _ (List.mem_of_getElem? (i := 167) rfl)
theorem ao_3 : Cond.arrayOver (.object "NameNet$Face") ∈ lw_tbl := nn_c_tables_1_1 _ (List.mem_of_getElem? (i := 65) rfl)
theorem ao_6 : Cond.arrayOver (.object "NameNet$Node") ∈ lw_tbl := nn_c_tables_1_1 _ (List.mem_of_getElem? (i := 45) rfl)
theorem ao_7 : Cond.arrayOver (.object "NameNet$Packet") ∈ lw_tbl := nn_c_tables_1_1 _ (List.mem_of_getElem? (i := 47) rfl)
theorem ao_9 : Cond.arrayOver (.object "NameNet$Request") ∈ lw_tbl := nn_c_tables_1_1 _ (List.mem_of_getElem? (i := 49) rfl)
theorem ao_10 : Cond.arrayOver (.object "NameNet$Route") ∈ lw_tbl := nn_c_tables_1_1 _ (List.mem_of_getElem? (i := 73) rfl)
theorem nf_in : ∀ q ∈ nn_nf, Cond.fieldLinkNest q.1 q.2.1 q.2.2.1 q.2.2.2.1 q.2.2.2.2.1 q.2.2.2.2.2 ∈ lw_tbl := List.forall_mem_cons.mpr ⟨nn_c_tables_1_1 _ (List.mem_of_getElem? (i := 89) rfl),
  List.forall_mem_cons.mpr ⟨nn_c_tables_1_1 _ (List.mem_of_getElem? (i := 91) rfl),
  List.forall_mem_cons.mpr ⟨nn_c_tables_1_1 _ (List.mem_of_getElem? (i := 93) rfl),
  List.forall_mem_cons.mpr ⟨nn_c_tables_1_1 _ (List.mem_of_getElem? (i := 95) rfl),
  List.forall_mem_cons.mpr ⟨nn_c_tables_1_1 _ (List.mem_of_getElem? (i := 97) rfl),
  List.forall_mem_cons.mpr ⟨nn_c_tables_1_1 _ (List.mem_of_getElem? (i := 122) rfl),
  List.forall_mem_cons.mpr ⟨nn_c_tables_1_1 _ (List.mem_of_getElem? (i := 124) rfl),
  List.forall_mem_cons.mpr ⟨nn_c_tables_1_1 _ (List.mem_of_getElem? (i := 126) rfl),
  List.forall_mem_cons.mpr ⟨nn_c_tables_1_1 _ (List.mem_of_getElem? (i := 127) rfl),
  List.forall_mem_cons.mpr ⟨nn_c_tables_1_1 _ (List.mem_of_getElem? (i := 130) rfl),
  List.forall_mem_cons.mpr ⟨nn_c_tables_1_1 _ (List.mem_of_getElem? (i := 152) rfl),
  List.forall_mem_cons.mpr ⟨nn_c_tables_1_1 _ (List.mem_of_getElem? (i := 174) rfl),
  List.forall_mem_cons.mpr ⟨nn_c_tables_1_1 _ (List.mem_of_getElem? (i := 175) rfl),
  List.forall_mem_cons.mpr ⟨nn_c_tables_1_1 _ (List.mem_of_getElem? (i := 176) rfl),
  List.forall_mem_cons.mpr ⟨nn_c_tables_1_1 _ (List.mem_of_getElem? (i := 178) rfl),
  List.forall_mem_cons.mpr ⟨nn_c_tables_1_1 _ (List.mem_of_getElem? (i := 179) rfl),
  List.forall_mem_cons.mpr ⟨nn_c_tables_1_1 _ (List.mem_of_getElem? (i := 180) rfl),
  List.forall_mem_cons.mpr ⟨nn_c_tables_1_1 _ (List.mem_of_getElem? (i := 182) rfl),
  List.forall_mem_cons.mpr ⟨nn_c_tables_1_1 _ (List.mem_of_getElem? (i := 204) rfl),
  List.forall_mem_cons.mpr ⟨nn_c_tables_1_1 _ (List.mem_of_getElem? (i := 211) rfl),
  List.forall_mem_cons.mpr ⟨nn_c_tables_1_1 _ (List.mem_of_getElem? (i := 213) rfl),
  List.forall_mem_cons.mpr ⟨nn_c_tables_1_1 _ (List.mem_of_getElem? (i := 215) rfl),
  List.forall_mem_cons.mpr ⟨nn_c_tables_1_1 _ (List.mem_of_getElem? (i := 217) rfl),
  List.forall_mem_cons.mpr ⟨nn_c_tables_1_1 _ (List.mem_of_getElem? (i := 219) rfl),
  List.forall_mem_cons.mpr ⟨nn_c_tables_1_1 _ (List.mem_of_getElem? (i := 221) rfl),
  List.forall_mem_cons.mpr ⟨nn_c_tables_1_2 _ (List.mem_of_getElem? (i := 123) rfl),
  List.forall_mem_cons.mpr ⟨nn_c_tables_1_2 _ (List.mem_of_getElem? (i := 125) rfl),
  List.forall_mem_cons.mpr ⟨nn_c_tables_1_2 _ (List.mem_of_getElem? (i := 127) rfl),
  List.forall_mem_cons.mpr ⟨nn_c_tables_1_2 _ (List.mem_of_getElem? (i := 128) rfl),
  List.forall_mem_cons.mpr ⟨nn_c_tables_1_2 _ (List.mem_of_getElem? (i := 130) rfl),
  List.forall_mem_cons.mpr ⟨nn_c_tables_1_2 _ (List.mem_of_getElem? (i := 131) rfl),
  List.forall_mem_cons.mpr ⟨nn_c_tables_1_2 _ (List.mem_of_getElem? (i := 155) rfl),
  List.forall_mem_cons.mpr ⟨nn_c_tables_1_2 _ (List.mem_of_getElem? (i := 157) rfl),
  List.forall_mem_cons.mpr ⟨nn_c_tables_1_2 _ (List.mem_of_getElem? (i := 158) rfl),
  List.forall_mem_cons.mpr ⟨nn_c_tables_1_2 _ (List.mem_of_getElem? (i := 159) rfl),
  List.forall_mem_cons.mpr ⟨nn_c_tables_1_2 _ (List.mem_of_getElem? (i := 161) rfl),
  List.forall_mem_cons.mpr ⟨nn_c_tables_1_2 _ (List.mem_of_getElem? (i := 162) rfl),
  List.forall_mem_cons.mpr ⟨nn_c_tables_1_2 _ (List.mem_of_getElem? (i := 164) rfl),
  List.forall_mem_cons.mpr ⟨nn_c_tables_1_2 _ (List.mem_of_getElem? (i := 166) rfl),
  List.forall_mem_cons.mpr ⟨nn_c_tables_1_2 _ (List.mem_of_getElem? (i := 168) rfl),
  List.forall_mem_cons.mpr ⟨nn_c_tables_1_2 _ (List.mem_of_getElem? (i := 169) rfl),
  List.forall_mem_cons.mpr ⟨nn_c_tables_1_2 _ (List.mem_of_getElem? (i := 171) rfl),
  List.forall_mem_cons.mpr ⟨nn_c_tables_1_2 _ (List.mem_of_getElem? (i := 172) rfl),
  List.forall_mem_cons.mpr ⟨nn_c_tables_1_2 _ (List.mem_of_getElem? (i := 174) rfl),
  List.forall_mem_cons.mpr ⟨nn_c_tables_1_2 _ (List.mem_of_getElem? (i := 176) rfl),
  List.forall_mem_cons.mpr ⟨nn_c_tables_1_2 _ (List.mem_of_getElem? (i := 228) rfl),
  List.forall_mem_cons.mpr ⟨nn_c_tables_1_2 _ (List.mem_of_getElem? (i := 230) rfl),
  List.forall_mem_cons.mpr ⟨nn_c_tables_1_2 _ (List.mem_of_getElem? (i := 232) rfl),
  List.forall_mem_cons.mpr ⟨nn_c_tables_1_2 _ (List.mem_of_getElem? (i := 234) rfl),
  List.forall_mem_cons.mpr ⟨nn_c_tables_1_2 _ (List.mem_of_getElem? (i := 236) rfl),
  List.forall_mem_cons.mpr ⟨nn_c_tables_1_2 _ (List.mem_of_getElem? (i := 237) rfl),
  List.forall_mem_cons.mpr ⟨nn_c_tables_1_2 _ (List.mem_of_getElem? (i := 238) rfl),
  List.forall_mem_cons.mpr ⟨nn_c_tables_1_2 _ (List.mem_of_getElem? (i := 239) rfl),
  fun _ h => absurd h List.not_mem_nil⟩⟩⟩⟩⟩⟩⟩⟩⟩⟩⟩⟩⟩⟩⟩⟩⟩⟩⟩⟩⟩⟩⟩⟩⟩⟩⟩⟩⟩⟩⟩⟩⟩⟩⟩⟩⟩⟩⟩⟩⟩⟩⟩⟩⟩⟩⟩⟩⟩⟩⟩⟩⟩
theorem nq_in : ∀ q ∈ nn_nq, Cond.methodLinkNest q.1 q.2.1 q.2.2.1 q.2.2.2 ∈ lw_tbl := List.forall_mem_cons.mpr ⟨nn_c_tables_1_1 _ (List.mem_of_getElem? (i := 68) rfl),
  List.forall_mem_cons.mpr ⟨nn_c_tables_1_1 _ (List.mem_of_getElem? (i := 83) rfl),
  List.forall_mem_cons.mpr ⟨nn_c_tables_1_1 _ (List.mem_of_getElem? (i := 116) rfl),
  List.forall_mem_cons.mpr ⟨nn_c_tables_1_1 _ (List.mem_of_getElem? (i := 169) rfl),
  fun _ h => absurd h List.not_mem_nil⟩⟩⟩⟩
theorem arr_p {s : State} {args : Array Value} {ty : FieldType} (h : (Cond.arrayClass ty).before args s = true) : ∃ cA : ClassId, ArrOfT s cA ty ∧ s.vm.findClass ("[" ++ ty.toString) = some cA := by
  obtain ⟨cA, kA, comp, h1, h2, h3⟩ := Cond.arrayClass_spec h
  exact ⟨cA, fun n z => ⟨fun k h => (by cases h), kA, h2, comp, h3⟩, h1⟩
theorem arr_o {s : State} {args : Array Value} {C : String} (h : (Cond.arrayOver (.object C)).before args s = true) : ∃ cA : ClassId, ArrOfT s cA (.object C) ∧ va_RA s cA (.object C) := by
  obtain ⟨comp, c, k, h1, h2, h3, h4, h5⟩ := Cond.arrayOver_spec h
  exact ⟨c, fun n z => ⟨fun k h => (by cases h), k, h3, comp, h4⟩, k, comp, h3, h4, h1, h5⟩
theorem arr_t {s : State} {args : Array Value} (hts : ∀ w ∈ lw_tbl, w.before args s = true) (hw : ∀ w ∈ nn_ws, w.before args s = true) : ∀ t ∈ nn_tc, ∃ cA : ClassId, ArrOfT s cA (tcT t) ∧ va_RA s cA (tcT t) :=
  List.forall_mem_cons.mpr ⟨arr_p (hw _ wa_0),
  List.forall_mem_cons.mpr ⟨arr_p (hw _ wa_1),
  List.forall_mem_cons.mpr ⟨arr_p (hw _ wa_2),
  List.forall_mem_cons.mpr ⟨arr_o (hts _ ao_2),
  List.forall_mem_cons.mpr ⟨arr_o (hts _ ao_3),
  List.forall_mem_cons.mpr ⟨arr_o (hts _ ao_6),
  List.forall_mem_cons.mpr ⟨arr_o (hts _ ao_7),
  List.forall_mem_cons.mpr ⟨arr_o (hts _ ao_9),
  List.forall_mem_cons.mpr ⟨arr_o (hts _ ao_10),
  fun _ h => absurd h List.not_mem_nil⟩⟩⟩⟩⟩⟩⟩⟩⟩
theorem ao_all {s : State} {args : Array Value} (hts : ∀ w ∈ lw_tbl, w.before args s = true) : ∀ C ∈ nn_ao, va_AO C s :=
  List.forall_mem_cons.mpr ⟨va_AO.of (hts _ ao_2),
  List.forall_mem_cons.mpr ⟨va_AO.of (hts _ ao_3),
  List.forall_mem_cons.mpr ⟨va_AO.of (hts _ ao_6),
  List.forall_mem_cons.mpr ⟨va_AO.of (hts _ ao_7),
  List.forall_mem_cons.mpr ⟨va_AO.of (hts _ ao_9),
  List.forall_mem_cons.mpr ⟨va_AO.of (hts _ ao_10),
  fun _ h => absurd h List.not_mem_nil⟩⟩⟩⟩⟩⟩
theorem kn_start {s : State} {args : Array Value} (hts : ∀ w ∈ lw_tbl, w.before args s = true) : ∃ (dC : Nat → ClassId) (dI : Nat → Nat → Nat) (dA : Nat → ClassId), nnKN dC dI dA s := by
  have hw : ∀ w ∈ nn_ws, w.before args s = true := fun w h => hts w (List.mem_filter.mp h).1
  have h1 : ∀ ci, ∃ (cC : ClassId) (iS : Nat → Nat), ci < nn_N → u_Kn s (nn_nm ci) (vwT ci) (nn_n ci) cC iS := by
    intro ci
    by_cases h : ci < nn_N
    · obtain ⟨cC, iS, hk⟩ := u_known hw (nn_lay ci h) (hw _ (nn_inst ci h))
      exact ⟨cC, iS, fun _ => hk⟩
    · exact ⟨0, fun _ => 0, fun z => absurd z h⟩
  have h2 : ∀ t, ∃ cA : ClassId, t ∈ nn_tc → ArrOfT s cA (tcT t) ∧ va_RA s cA (tcT t) := by
    intro t
    by_cases h : t ∈ nn_tc
    · obtain ⟨cA, hk⟩ := arr_t hts hw t h
      exact ⟨cA, fun _ => hk⟩
    · exact ⟨0, fun z => absurd z h⟩
  exact ⟨fun ci => Classical.choose (h1 ci), fun ci => Classical.choose (Classical.choose_spec (h1 ci)), fun t => Classical.choose (h2 t), fun ci hc => Classical.choose_spec (Classical.choose_spec (h1 ci)) hc, fun t ht => Classical.choose_spec (h2 t) ht, ao_all hts, fun q hq => va_Nw.of rfl (hts _ (nf_in q hq)), fun q hq => va_Nw.of rfl (hts _ (nq_in q hq))⟩
/-! THE CLAIM OUT OF ONE WALK OF THE LAW'S BODY. Your part is whole_start (and what it stands on); all else here is the same for every law, but numbers. -/
def R_law : String := "NameNetLaw"
def lw_P (b : Addr) (xs : List Int32) (args : Array Value) (s : State) : Prop := args = #[.ref b] ∧ s.IntsAt b xs ∧ xs.length ≤ 2563 ∧ (Jvm.Cond.and given_1 narrow_1).before args s = true
def lw_Q (_ : Array Value) (s : State) (o : Outcome) (t : State) : Prop := o = .returned (some (.int 1)) ∧ Framed s o t [] 600000 7302250
def lw_Z (below : List Frame) (a : Array Value) (s : State) : State → Prop := fun t => ∃ o, t.status = .running ∧ Ended t below o ∧ lw_Q a s o t
/-- the law's own end, with 1 on the stack, nothing written that was there before, its room as the claim has it -/
theorem lw_ret {p : Program} {l : Launch} {e : Env} {s : State} {m : MethodId} {below : List Frame} {meth : Method} {c : Code} {b : Nat} (hx : p.tables.exec = Jvm.exec) (hb : c.code = code) (hr : meth.sig.returnType = ret) (hlocks : meth.locks = false) {pc : Nat} {H : Heap} {ls : Array Slot} (hdg : decode code pc = .ok (.ireturn, 1)) : W p l e room_1 s m #[Value.ref b] below meth c H [] 600000 7302250 (lw_Z below #[Value.ref b] s) (F0 m pc ls [.int 1]) := by
  intro T hT X
  obtain ⟨fs, hret, hrun, hended, hW, hframe⟩ := X.leave (v := some (.int 1)) (hlocks := hlocks) (fun h => by rw [hr] at h; cases h)
  have hmeth' : T.vm.method? m = some meth := X.method'
  refine ⟨T.setFrames fs, ?_, .returned (some (.int 1)), hrun, hended, rfl, ⟨_, rfl⟩, hW, hframe⟩
  jvm_step X.here [X.here.top, hx, hb, hdg, hmeth', hr, ret, narrow_b1]
  (try refine ⟨rfl, ?_⟩); (try refine ⟨rfl, ?_⟩)
  first | (intro acts; rw [hret _ acts rfl rfl rfl]) | rw [hret _ _ rfl rfl rfl]
  exact Steps.refl _
/-- what holds at the law's entry: the machine, the code, the tables' words (any of lw_tbl by 'hts w (by decide +kernel)'), the script of L ints xs at the cell b, what the Statement gives of the start (any of its parts by flat_of_before) -/
def lw_At (p : Program) (s : State) (m : MethodId) (meth : Method) (c : Code) (b L : Nat) (xs : Nat → Int32) : Prop :=
  p.tables.exec = Jvm.exec ∧ c.code = code ∧ meth.sig.returnType = ret ∧ c.maxLocals = 4 ∧ s.vm.findClass R_law = some m.cls ∧ (∀ w ∈ lw_tbl, w.before #[Value.ref b] s = true) ∧ va_X b L xs s s.heap ∧ b < s.heap.size ∧ meth.locks = false ∧ (Jvm.Cond.and given_1 narrow_1).before #[Value.ref b] s = true
theorem whole_open (hlaw : ∀ X : Nat × (Nat → Int32), X.1 ≤ 2563 → nnWP X M_Law_law 456000 0 [qa 4095 0, none, none, none] [] g0 (zI fun x _ => x = 1)) {p : Program} {e : Env} {s : State} {m : MethodId} {below : List Frame} {meth : Method} {c : Code} (l : Launch) {b L : Nat} {xs : Nat → Int32} (hL : L ≤ 2563) (C0 : lw_At p s m meth c b L xs) : W p l e room_1 s m #[Value.ref b] below meth c s.heap [] 0 0 (lw_Z below #[Value.ref b] s) (entryFrame m ([Value.ref b] : List Value).toArray 4) := by
  obtain ⟨hx, hb, hr, hml, hown, hts, ⟨scr, hs1, hs2, hs3, hs4, hs5⟩, hbl, hlocks, hgv⟩ := C0
  obtain ⟨dC, dI, dA, hKN⟩ := kn_start hts
  rw [lg_entry_eq]
  have hRP : nnRP dC dI dA (fun _ _ => 0) (fun _ _ => 0) b scr s.heap.size g0 s.heap := ⟨fun ci a h => absurd h (Nat.not_lt_zero _), fun f a n h => (by cases h), ⟨fun ci a cj c h => absurd h (Nat.not_lt_zero _), fun f a n f' a' n' h => (by cases h), fun ci a f c n h => absurd h (Nat.not_lt_zero _)⟩, fun f a j c h => (by cases h), hs1, hbl, Nat.le_refl _⟩
  have hE := nn_entry (adr := fun _ _ => 0) (aad := fun _ _ => 0) (b := b) (nL := 4) (g := g0) (as := [qa 4095 0]) (Nat.le_of_ble_eq_true rfl) (List.forall_mem_cons.mpr ⟨Or.inl rfl, fun _ h => absurd h List.not_mem_nil⟩)
  refine hlaw (L, xs) hL p l e room_1 s m #[Value.ref b] below meth c dC dI dA scr b s.heap.size _ _ s.heap [] 0 0 _ _ ⟨hx, hb, hml, hown, fun w h => hts w (List.mem_filter.mp h).1, hKN, fun h => absurd h (by decide +kernel), Nat.le_of_ble_eq_true rfl, Nat.le_of_ble_eq_true rfl, ⟨hs2, hs3, hs4, hs5⟩⟩ hRP hE (fun v h => absurd h List.not_mem_nil) (Nat.le_of_ble_eq_true rfl) (Nat.le_of_ble_eq_true rfl) (fun q h => absurd h List.not_mem_nil) ?_
  intro r g1 adr1 aad1 H1 locs1 cells1 slots1 pc1 ls1 hz hR1 hx1 hg1 hv1 hq1 hc1 hs1' hrt
  obtain ⟨x, rfl, rfl⟩ := hz
  refine va_forget hq1 ?_
  refine W.widen (k := 600000) (n := 7302250) hc1 hs1' ?_
  exact lw_ret hx hb hr hlocks (show (_ ∨ _) ∧ decode code pc1 = .ok (.ireturn, 1) from hrt).2
