def okI (t : Nat) (x : Int32) : Prop := narrow (tcT t) (.int x) = .int x ∧ fits (tcT t) (.int x) = true
def nnKN (dC : Nat → ClassId) (dI : Nat → Nat → Nat) (dA : Nat → ClassId) (s : State) : Prop :=
  (∀ ci, ci < nn_N → u_Kn s (nn_nm ci) (vwT ci) (nn_n ci) (dC ci) (dI ci)) ∧ (∀ t ∈ nn_tc, ArrOfT s (dA t) (tcT t) ∧ va_RA s (dA t) (tcT t)) ∧ (∀ C ∈ nn_ao, va_AO C s) ∧
  (∀ q ∈ nn_nf, va_Nw (.fieldLinkNest q.1 q.2.1 q.2.2.1 q.2.2.2.1 q.2.2.2.2.1 q.2.2.2.2.2) s) ∧ ∀ q ∈ nn_nq, va_Nw (.methodLinkNest q.1 q.2.1 q.2.2.1 q.2.2.2) s
theorem nnKN.warm {dC : Nat → ClassId} {dI : Nat → Nat → Nat} {dA : Nat → ClassId} {s U : State} (h : nnKN dC dI dA s) (hW : s.WarmedH U.vm) : nnKN dC dI dA U :=
  ⟨fun ci hc => u_Kn_moved hW.alike (h.1 ci hc), fun t ht => ⟨arrOfT_moved hW.alike (h.2.1 t ht).1, (h.2.1 t ht).2.moved hW.alike⟩, fun C hC => (h.2.2.1 C hC).moved hW.alike, fun q hq => (h.2.2.2.1 q hq).warmF hW, fun q hq => (h.2.2.2.2 q hq).warmM hW⟩
theorem nnKN.same {dC : Nat → ClassId} {dI : Nat → Nat → Nat} {dA : Nat → ClassId} {u U : State} (h : nnKN dC dI dA u) (e : u.vm = U.vm) : nnKN dC dI dA U := by
  have hA : u.vm.Alike U.vm := by rw [e]; exact Vm.Alike.refl _
  exact ⟨fun ci hc => u_Kn_moved hA (h.1 ci hc), fun t ht => ⟨arrOfT_moved hA (h.2.1 t ht).1, (h.2.1 t ht).2.moved hA⟩, fun C hC => (h.2.2.1 C hC).moved hA, fun q hq => (h.2.2.2.1 q hq).same rfl e, fun q hq => (h.2.2.2.2 q hq).same rfl e⟩
/-- the script's cell -/
def nnSC (X : Nat × (Nat → Int32)) (scr : Cell) (s : State) : Prop := s.isArrayOf scr .int ∧ scr.vm ≠ .unknown ∧ scr.slots.size = X.1 ∧ ∀ i : Nat, i < X.1 → scr.slots[i]? = some (.int (X.2 i))
theorem nnSC.moved {X : Nat × (Nat → Int32)} {scr : Cell} {u U : State} (h : nnSC X scr u) (hA : u.vm.Alike U.vm) : nnSC X scr U := ⟨State.isArrayOf_alike hA h.1, h.2⟩
abbrev mrec : Type := MethodName × ByteArray × Nat × Option FieldType × Nat × Nat × Nat
def mY (M : mrec) : MethodName := M.1
def mB (M : mrec) : ByteArray := M.2.1
def mL (M : mrec) : Nat := M.2.2.1
def mR (M : mrec) : Option FieldType := M.2.2.2.1
def mF (M : mrec) : Nat := M.2.2.2.2.1
def mW (M : mrec) : Nat := M.2.2.2.2.2.1
def mS (M : mrec) : Nat := M.2.2.2.2.2.2
/-- which sides a method writes: 0 all but the reference, 1 the reference alone, 2 both -/
def sdW (sd c : Nat) : Bool := match sd with
  | 0 => !(c == nn_model)
  | 1 => c == nn_model
  | _ => true
def nnAG (sd : Nat) (g g1 : sg) : Prop := ∀ c, sdW sd c = false → gC g1 c = gC g c ∧ ∀ f, f / 64 = c → (∀ a i, gI g1 f a i = gI g f a i) ∧ (∀ a i, gR g1 f a i = gR g f a i) ∧ ∀ a, gA g1 f a = gA g f a
theorem nnAG.rf {sd : Nat} {g : sg} : nnAG sd g g := fun _ _ => ⟨rfl, fun _ _ => ⟨fun _ _ => rfl, fun _ _ => rfl, fun _ => rfl⟩⟩
theorem nnAG.tr {sd : Nat} {g g1 g2 : sg} (h : nnAG sd g g1) (k : nnAG sd g1 g2) : nnAG sd g g2 := fun c hc => by
  obtain ⟨h1, h2⟩ := h c hc
  obtain ⟨k1, k2⟩ := k c hc
  refine ⟨k1.trans h1, fun f hf => ?_⟩
  obtain ⟨a1, a2, a3⟩ := h2 f hf
  obtain ⟨b1, b2, b3⟩ := k2 f hf
  exact ⟨fun a i => (b1 a i).trans (a1 a i), fun a i => (b2 a i).trans (a2 a i), fun a => (b3 a).trans (a3 a)⟩
theorem nnAG.up {sd sd' : Nat} {g g1 : sg} (h : nnAG sd' g g1) (hs : sd' = sd ∨ sd = 2) : nnAG sd g g1 := by
  rcases hs with rfl | rfl
  · exact h
  · intro c hc
    cases hc
theorem nnAG_pI {sd f a i : Nat} {g : sg} {x : Int32} (h : sdW sd (f / 64) = true) : nnAG sd g (pI g f a i x) := by
  intro c hc
  refine ⟨rfl, fun f' hf => ⟨fun a' i' => ?_, fun _ _ => rfl, fun _ => rfl⟩⟩
  rw [gI_pI, if_neg]
  rintro ⟨rfl, -⟩
  rw [hf, hc] at h
  cases h
theorem nnAG_pR {sd f a i : Nat} {g : sg} {x : Option Nat} (h : sdW sd (f / 64) = true) : nnAG sd g (pR g f a i x) := by
  intro c hc
  refine ⟨rfl, fun f' hf => ⟨fun _ _ => rfl, fun a' i' => ?_, fun _ => rfl⟩⟩
  rw [gR_pR, if_neg]
  rintro ⟨rfl, -⟩
  rw [hf, hc] at h
  cases h
theorem nnAG_pA {sd f a n : Nat} {g : sg} (h : sdW sd (f / 64) = true) : nnAG sd g (pA g f a n) := fun c hc => ⟨rfl, fun f' hf => by
  have hne : ∀ a', ¬ (f' = f ∧ a' = a) := by
    rintro a' ⟨rfl, -⟩
    rw [hf, hc] at h
    cases h
  exact ⟨fun a' i' => by rw [gI_pA, if_neg (hne a')], fun a' i' => by rw [gR_pA, if_neg (hne a')], fun a' => by rw [gA_pA, if_neg (hne a')]⟩⟩
theorem nnAG_pN {sd ci : Nat} {g : sg} (h : sdW sd ci = true) : nnAG sd g (pN g ci) := fun c hc => by
  have hne : c ≠ ci := by
    rintro rfl
    rw [hc] at h
    cases h
  refine ⟨by rw [gC_pN, if_neg hne], fun f' hf => ?_⟩
  have hn2 : ∀ a, ¬ (f' / 64 = ci ∧ a = gC g ci) := fun a z => hne (hf.symm.trans z.1)
  exact ⟨fun a i => by rw [gI_pN, if_neg (hn2 a)], fun a i => by rw [gR_pN, if_neg (hn2 a)], fun a => by rw [gA_pN, if_neg (hn2 a)]⟩
def nnCX (X : Nat × (Nat → Int32)) (M : mrec) (p : Program) (R : Room) (s : State) (m : MethodId) (args : Array Value) (meth : Method) (c : Code) (dC : Nat → ClassId) (dI : Nat → Nat → Nat) (dA : Nat → ClassId) (scr : Cell) : Prop :=
  p.tables.exec = Jvm.exec ∧ c.code = mB M ∧ c.maxLocals = mL M ∧ s.vm.findClass (mY M).cls = some m.cls ∧ (∀ w ∈ nn_ws, w.before args s = true) ∧ nnKN dC dI dA s ∧ ((mY M).name = "<init>" → meth.name = "<init>") ∧ mF M ≤ R.frames ∧ mW M ≤ R.locals ∧ nnSC X scr s
def nnRT (M : mrec) (pc : Nat) (r : qv) : Prop := match mR M with
  | none => r = none ∧ decode (mB M) pc = .ok (.return_, 1)
  | some .int => (∃ x, r = qi x) ∧ decode (mB M) pc = .ok (.ireturn, 1)
  | some .boolean => (r = qi 0 ∨ r = qi 1) ∧ decode (mB M) pc = .ok (.ireturn, 1)
  | some .char => (∃ x, okI 1 x ∧ r = qi x) ∧ decode (mB M) pc = .ok (.ireturn, 1)
  | some (.object _) => (∃ ci o, r = qr ci o) ∧ decode (mB M) pc = .ok (.areturn, 1)
  | _ => False
def rl (r : qv) : List qv := match r with
  | none => []
  | some v => [some v]
def nnAC (M : mrec) (p : Program) (l : Launch) (e : Env) (R : Room) (s : State) (m : MethodId) (args : Array Value) (below : List Frame) (meth : Method) (c : Code) (dC : Nat → ClassId) (dI : Nat → Nat → Nat) (dA : Nat → ClassId) (scr : Cell) (b sz0 : Nat) (adr aad : Nat → Nat → Nat) (g : sg) (Q : State → Prop) (Z : qv → sg → Prop) : Prop :=
  ∀ (r : qv) (g1 : sg) (adr1 aad1 : Nat → Nat → Nat) (H1 : Heap) (locs1 : List Loc) (cells1 slots1 pc1 : Nat) (ls1 : Array Slot), Z r g1 → nnRP dC dI dA adr1 aad1 b scr sz0 g1 H1 → nnEX adr aad adr1 aad1 g g1 → nnAG (mS M) g g1 → vOK g1 r → (∀ q ∈ locs1, sz0 ≤ q.base) → cells1 ≤ R.cells → slots1 ≤ R.slots → nnRT M pc1 r →
    W p l e R s m args below meth c H1 locs1 cells1 slots1 Q (F0 m pc1 ls1 ((rl r).map (vM adr1 aad1 b)))
def nnWP (X : Nat × (Nat → Int32)) (M : mrec) (k pc : Nat) (ls st : List qv) (g : sg) (Z : qv → sg → Prop) : Prop :=
  ∀ (p : Program) (l : Launch) (e : Env) (R : Room) (s : State) (m : MethodId) (args : Array Value) (below : List Frame) (meth : Method) (c : Code) (dC : Nat → ClassId) (dI : Nat → Nat → Nat) (dA : Nat → ClassId) (scr : Cell) (b sz0 : Nat) (adr aad : Nat → Nat → Nat) (H : Heap) (locs : List Loc) (cells slots : Nat) (Q : State → Prop) (lsM : Array Slot),
    nnCX X M p R s m args meth c dC dI dA scr → nnRP dC dI dA adr aad b scr sz0 g H → nnLR adr aad b g (mL M) ls lsM → (∀ v ∈ st, vOK g v) → cells + k ≤ R.cells → slots + 16 * k ≤ R.slots → (∀ q ∈ locs, sz0 ≤ q.base) → nnAC M p l e R s m args below meth c dC dI dA scr b sz0 adr aad g Q Z →
    W p l e R s m args below meth c H locs cells slots Q (F0 m pc lsM (st.map (vM adr aad b)))
theorem nnAC.ex {M : mrec} {p : Program} {l : Launch} {e : Env} {R : Room} {s : State} {m : MethodId} {args : Array Value} {below : List Frame} {meth : Method} {c : Code} {dC : Nat → ClassId} {dI : Nat → Nat → Nat} {dA : Nat → ClassId} {scr : Cell} {b sz0 : Nat} {adr aad adr1 aad1 : Nat → Nat → Nat} {g g1 : sg} {Q : State → Prop} {Z : qv → sg → Prop}
    (h : nnAC M p l e R s m args below meth c dC dI dA scr b sz0 adr aad g Q Z) (hx : nnEX adr aad adr1 aad1 g g1) (hg : nnAG (mS M) g g1) : nnAC M p l e R s m args below meth c dC dI dA scr b sz0 adr1 aad1 g1 Q Z :=
  fun r g2 adr2 aad2 H2 locs2 cells2 slots2 pc2 ls2 hz hR hx2 hg2 => h r g2 adr2 aad2 H2 locs2 cells2 slots2 pc2 ls2 hz hR (hx.tr hx2) (hg.tr hg2)
/-- fewer places known, more room: what follows follows -/
theorem nnWP.sub {X : Nat × (Nat → Int32)} {M : mrec} {k k' pc : Nat} {ls ls' st : List qv} {g : sg} {Z : qv → sg → Prop} (h : nnWP X M k pc ls' st g Z) (hk : k ≤ k') (hl : ls'.length = ls.length) (hs : ∀ (i : Nat) (v : qv), ls'[i]? = some v → v ≠ none → ls[i]? = some v) : nnWP X M k' pc ls st g Z := by
  intro p l e R s m args below meth c dC dI dA scr b sz0 adr aad H locs cells slots Q lsM hC hR hL hV hc hsl hq hA
  exact h p l e R s m args below meth c dC dI dA scr b sz0 adr aad H locs cells slots Q lsM hC hR (hL.sub hl hs) hV (by omega) (by omega) hq hA
theorem nnWP.mono {X : Nat × (Nat → Int32)} {M : mrec} {k pc : Nat} {ls st : List qv} {g : sg} {Z Z' : qv → sg → Prop} (h : nnWP X M k pc ls st g Z) (hz : ∀ r g1, Z r g1 → Z' r g1) : nnWP X M k pc ls st g Z' := by
  intro p l e R s m args below meth c dC dI dA scr b sz0 adr aad H locs cells slots Q lsM hC hR hL hV hc hsl hq hA
  exact h p l e R s m args below meth c dC dI dA scr b sz0 adr aad H locs cells slots Q lsM hC hR hL hV hc hsl hq (fun r g1 adr1 aad1 H1 locs1 cells1 slots1 pc1 ls1 hZ => hA r g1 adr1 aad1 H1 locs1 cells1 slots1 pc1 ls1 (hz r g1 hZ))
