theorem fV_0 {adr aad : Nat → Nat → Nat} {g : sg} {f a : Nat} (h : (fkd f).1 = 0) : fV adr aad g f a = .int (gI g f a 0) := by unfold fV; rw [if_pos h]
theorem fV_1 {adr aad : Nat → Nat → Nat} {g : sg} {f a : Nat} (h : (fkd f).1 = 1) : fV adr aad g f a = va_rf ((gR g f a 0).map (adr (fkd f).2)) := by unfold fV; rw [if_neg (by omega), if_pos h]
theorem fV_2 {adr aad : Nat → Nat → Nat} {g : sg} {f a n : Nat} (h : 2 ≤ (fkd f).1) (hn : gA g f a = some n) : fV adr aad g f a = .ref (aad f a) := by unfold fV; rw [if_neg (by omega), if_neg (by omega), hn]
theorem fE_2 {adr : Nat → Nat → Nat} {g : sg} {f a j : Nat} (h : (fkd f).1 = 2) : fE adr g f a j = .int (gI g f a j) := by unfold fE; rw [if_neg (by omega)]
theorem fE_3 {adr : Nat → Nat → Nat} {g : sg} {f a j : Nat} (h : (fkd f).1 = 3) : fE adr g f a j = va_rf ((gR g f a j).map (adr (fkd f).2)) := by unfold fE; rw [if_pos h]
theorem fTy_0 {f : Nat} (h : (fkd f).1 = 0) : fTy f = tcT (fkd f).2 := by unfold fTy; rw [if_pos h]
theorem fTy_1 {f : Nat} (h : (fkd f).1 = 1) : fTy f = .object (nn_nm (fkd f).2) := by unfold fTy; rw [if_neg (by omega), if_pos h]
theorem fTy_a {f : Nat} (h : 2 ≤ (fkd f).1) : ∃ t, fTy f = .array t := by
  unfold fTy
  rw [if_neg (by omega), if_neg (by omega)]
  split
  · exact ⟨_, rfl⟩
  · exact ⟨_, rfl⟩
theorem vM_qr (adr aad : Nat → Nat → Nat) (b ci : Nat) (o : Option Nat) : vM adr aad b (qr ci o) = va_rf (o.map (adr ci)) := rfl
theorem vM_qi (adr aad : Nat → Nat → Nat) (b : Nat) (x : Int32) : vM adr aad b (qi x) = .int x := rfl
theorem vM_qa {adr aad : Nat → Nat → Nat} {b f a : Nat} (h : f ≠ 4095) : vM adr aad b (qa f a) = .ref (aad f a) := if_neg h
theorem va_rf_rf (r : Option Nat) : va_rf r = .null ∨ ∃ x, va_rf r = .ref x := by
  cases r with
  | none => exact Or.inl rfl
  | some x => exact Or.inr ⟨x, rfl⟩
theorem fit_rf (C : String) (r : Option Nat) : narrow (.object C) (va_rf r) = va_rf r ∧ fits (.object C) (va_rf r) = true := by
  cases r with
  | none => exact ⟨rfl, rfl⟩
  | some x => exact ⟨rfl, rfl⟩
theorem sum_cat (adr aad : Nat → Nat → Nat) (b : Nat) (st : List qv) : ((st.map (vM adr aad b)).map fun v => v.category).sum = st.length := by
  induction st with
  | nil => rfl
  | cons v st ih =>
    rw [List.map_cons, List.map_cons, List.sum_cons, ih, vM_cat, List.length_cons]
    omega
theorem rp_4095 {dC : Nat → ClassId} {dI : Nat → Nat → Nat} {dA : Nat → ClassId} {scr : Cell} {b sz0 : Nat} {adr aad : Nat → Nat → Nat} {H : Heap} {g : sg} (hR : nnRP dC dI dA adr aad b scr sz0 g H) {f a n : Nat} (hn : gA g f a = some n) : f ≠ 4095 := by
  intro hf
  have h1 := (hR.1 _ _ (hR.2.1 f a n hn).1).1
  have h2 := nn_Nle
  omega
theorem wp_getI {X : Nat × (Nat → Int32)} {M : mrec} {k pc : Nat} {ls st : List qv} {g : sg} {Z : qv → sg → Prop} {index f : Nat} {o : Option Nat} (a : Nat) (hd : decode (mB M) pc = .ok (.getfield index, 3)) (hl : lkF (mY M).cls index f) {t : Nat} (hkd2 : fkd f = (0, t)) {ci : Nat} (hci : f / 64 = ci) (ho : o = some a) (kk : nnWP X M k (pc + 3) ls (qi (gI g f a 0) :: st) g Z) : nnWP X M k pc ls (qr ci o :: st) g Z := by
  have hkd : (fkd f).1 = 0 := by rw [hkd2]
  subst ho hci
  intro p l e R s m args below meth c dC dI dA scr b sz0 adr aad H locs cells slots Q lsM hC hR hL hV hc hsl hq hA
  have hx := hC.1
  have hb := hC.2.1
  have h1 := List.forall_mem_cons.mp hV
  refine nn_getf (rest := st.map (vM adr aad b)) hC hR hl (h1.1 a rfl) hd ?_
  rw [fV_0 hkd]
  exact kk p l e R s m args below meth c dC dI dA scr b sz0 adr aad H locs cells slots Q lsM hC hR hL (List.forall_mem_cons.mpr ⟨trivial, h1.2⟩) hc hsl hq hA
theorem wp_getR {X : Nat × (Nat → Int32)} {M : mrec} {k pc : Nat} {ls st : List qv} {g : sg} {Z : qv → sg → Prop} {index f : Nat} {o : Option Nat} (a : Nat) (hd : decode (mB M) pc = .ok (.getfield index, 3)) (hl : lkF (mY M).cls index f) {ci cj : Nat} (hkd2 : fkd f = (1, cj)) (hci : f / 64 = ci) (ho : o = some a) (kk : nnWP X M k (pc + 3) ls (qr cj (gR g f a 0) :: st) g Z) : nnWP X M k pc ls (qr ci o :: st) g Z := by
  have hkd : (fkd f).1 = 1 := by rw [hkd2]
  have hcj : (fkd f).2 = cj := by rw [hkd2]
  subst ho hci hcj
  intro p l e R s m args below meth c dC dI dA scr b sz0 adr aad H locs cells slots Q lsM hC hR hL hV hc hsl hq hA
  have hx := hC.1
  have hb := hC.2.1
  have h1 := List.forall_mem_cons.mp hV
  refine nn_getf (rest := st.map (vM adr aad b)) hC hR hl (h1.1 a rfl) hd ?_
  rw [fV_1 hkd]
  exact kk p l e R s m args below meth c dC dI dA scr b sz0 adr aad H locs cells slots Q lsM hC hR hL (List.forall_mem_cons.mpr ⟨fun z hz => hR.2.2.2.1 _ _ _ _ hz, h1.2⟩) hc hsl hq hA
theorem wp_getA {X : Nat × (Nat → Int32)} {M : mrec} {k pc : Nat} {ls st : List qv} {g : sg} {Z : qv → sg → Prop} {index f : Nat} {o : Option Nat} (a n : Nat) (hd : decode (mB M) pc = .ok (.getfield index, 3)) (hl : lkF (mY M).cls index f) {q t : Nat} (hkd2 : fkd f = (q + 2, t)) {ci : Nat} (hci : f / 64 = ci) (ho : o = some a) (hn : gA g f a = some n) (kk : nnWP X M k (pc + 3) ls (qa f a :: st) g Z) : nnWP X M k pc ls (qr ci o :: st) g Z := by
  have hkd : 2 ≤ (fkd f).1 := by rw [hkd2]; exact Nat.le_add_left 2 q
  subst ho hci
  intro p l e R s m args below meth c dC dI dA scr b sz0 adr aad H locs cells slots Q lsM hC hR hL hV hc hsl hq hA
  have hx := hC.1
  have hb := hC.2.1
  have h1 := List.forall_mem_cons.mp hV
  refine nn_getf (rest := st.map (vM adr aad b)) hC hR hl (h1.1 a rfl) hd ?_
  rw [fV_2 hkd hn, ← vM_qa (adr := adr) (b := b) (rp_4095 hR hn)]
  exact kk p l e R s m args below meth c dC dI dA scr b sz0 adr aad H locs cells slots Q lsM hC hR hL (List.forall_mem_cons.mpr ⟨Or.inr ⟨n, hn⟩, h1.2⟩) hc hsl hq hA
theorem wp_putI {X : Nat × (Nat → Int32)} {M : mrec} {k pc : Nat} {ls st : List qv} {g : sg} {Z : qv → sg → Prop} {index f : Nat} {o : Option Nat} {x : Int32} (a : Nat) (hd : decode (mB M) pc = .ok (.putfield index, 3)) (hl : lkF (mY M).cls index f) {t : Nat} (hkd2 : fkd f = (0, t)) (hw : (vwT (f / 64) (f % 64)).2.2.2 = false) {ci : Nat} (hci : f / 64 = ci) (ho : o = some a) (hok2 : okI t x) (hsd : sdW (mS M) (f / 64) = true) (kk : nnWP X M k (pc + 3) ls st (pI g f a 0 x) Z) : nnWP X M k pc ls (qi x :: qr ci o :: st) g Z := by
  have hkd : (fkd f).1 = 0 := by rw [hkd2]
  have hok : okI (fkd f).2 x := by rw [hkd2]; exact hok2
  subst ho hci
  intro p l e R s m args below meth c dC dI dA scr b sz0 adr aad H locs cells slots Q lsM hC hR hL hV hc hsl hq hA
  have hx := hC.1
  have hb := hC.2.1
  have h1 := List.forall_mem_cons.mp hV
  have h2 := List.forall_mem_cons.mp h1.2
  have ha := h2.1 a rfl
  refine nn_putf (v := .int x) (rest := st.map (vM adr aad b)) hC hR hl ha hw (by rw [fTy_0 hkd]; exact hok.1) (by rw [fTy_0 hkd]; exact hok.2) hd fun H' cell q1 e1 e2 e3 => ?_
  have hag : nnAG (mS M) g (pI g f a 0 x) := nnAG_pI hsd
  have hx1 : nnEX adr aad adr aad g (pI g f a 0 x) := nnEX.same (fun _ => rfl) (fun _ _ => rfl)
  exact kk p l e R s m args below meth c dC dI dA scr b sz0 adr aad H' _ cells slots Q lsM hC (rp_putI hR (fun ci hN => nn_apart hC hN) hl.1 ha hkd q1 e1 e2 e3) (hL.ex hx1) (h2.2) hc hsl (t_lc hq (hR.1 _ _ ha).2.2) (hA.ex hx1 hag)
theorem wp_putIF {X : Nat × (Nat → Int32)} {M : mrec} {k pc : Nat} {ls st : List qv} {g : sg} {Z : qv → sg → Prop} {index f : Nat} {o : Option Nat} {x : Int32} (a : Nat) (hd : decode (mB M) pc = .ok (.putfield index, 3)) (hl : wrF M index f) {t : Nat} (hkd2 : fkd f = (0, t)) {ci : Nat} (hci : f / 64 = ci) (ho : o = some a) (hok2 : okI t x) (hsd : sdW (mS M) (f / 64) = true) (kk : nnWP X M k (pc + 3) ls st (pI g f a 0 x) Z) : nnWP X M k pc ls (qi x :: qr ci o :: st) g Z := by
  have hkd : (fkd f).1 = 0 := by rw [hkd2]
  have hok : okI (fkd f).2 x := by rw [hkd2]; exact hok2
  subst ho hci
  intro p l e R s m args below meth c dC dI dA scr b sz0 adr aad H locs cells slots Q lsM hC hR hL hV hc hsl hq hA
  have hx := hC.1
  have hb := hC.2.1
  have h1 := List.forall_mem_cons.mp hV
  have h2 := List.forall_mem_cons.mp h1.2
  have ha := h2.1 a rfl
  refine nn_putF (v := .int x) (rest := st.map (vM adr aad b)) hC hR hl ha (by rw [fTy_0 hkd]; exact hok.1) (by rw [fTy_0 hkd]; exact hok.2) hd fun H' cell q1 e1 e2 e3 => ?_
  have hag : nnAG (mS M) g (pI g f a 0 x) := nnAG_pI hsd
  have hx1 : nnEX adr aad adr aad g (pI g f a 0 x) := nnEX.same (fun _ => rfl) (fun _ _ => rfl)
  exact kk p l e R s m args below meth c dC dI dA scr b sz0 adr aad H' _ cells slots Q lsM hC (rp_putI hR (fun ci hN => nn_apart hC hN) hl.1 ha hkd q1 e1 e2 e3) (hL.ex hx1) (h2.2) hc hsl (t_lc hq (hR.1 _ _ ha).2.2) (hA.ex hx1 hag)
theorem wp_putR {X : Nat × (Nat → Int32)} {M : mrec} {k pc : Nat} {ls st : List qv} {g : sg} {Z : qv → sg → Prop} {index f cv : Nat} {o v : Option Nat} (a : Nat) (hd : decode (mB M) pc = .ok (.putfield index, 3)) (hl : lkF (mY M).cls index f) (hkd2 : fkd f = (1, cv)) (hw : (vwT (f / 64) (f % 64)).2.2.2 = false) {ci : Nat} (hci : f / 64 = ci) (ho : o = some a) (hsd : sdW (mS M) (f / 64) = true) (kk : nnWP X M k (pc + 3) ls st (pR g f a 0 v) Z) : nnWP X M k pc ls (qr cv v :: qr ci o :: st) g Z := by
  have hkd : (fkd f).1 = 1 := by rw [hkd2]
  have hcv : (fkd f).2 = cv := by rw [hkd2]
  subst ho hci hcv
  intro p l e R s m args below meth c dC dI dA scr b sz0 adr aad H locs cells slots Q lsM hC hR hL hV hc hsl hq hA
  have hx := hC.1
  have hb := hC.2.1
  have h1 := List.forall_mem_cons.mp hV
  have h2 := List.forall_mem_cons.mp h1.2
  have ha := h2.1 a rfl
  refine nn_putf (v := va_rf (v.map (adr (fkd f).2))) (rest := st.map (vM adr aad b)) hC hR hl ha hw (by rw [fTy_1 hkd]; exact (fit_rf _ _).1) (by rw [fTy_1 hkd]; exact (fit_rf _ _).2) hd fun H' cell q1 e1 e2 e3 => ?_
  have hag : nnAG (mS M) g (pR g f a 0 v) := nnAG_pR hsd
  have hx1 : nnEX adr aad adr aad g (pR g f a 0 v) := nnEX.same (fun _ => rfl) (fun _ _ => rfl)
  exact kk p l e R s m args below meth c dC dI dA scr b sz0 adr aad H' _ cells slots Q lsM hC (rp_putR hR (fun ci hN => nn_apart hC hN) hl.1 ha hkd h1.1 q1 e1 e2 e3) (hL.ex hx1) (h2.2) hc hsl (t_lc hq (hR.1 _ _ ha).2.2) (hA.ex hx1 hag)
theorem wp_putRF {X : Nat × (Nat → Int32)} {M : mrec} {k pc : Nat} {ls st : List qv} {g : sg} {Z : qv → sg → Prop} {index f cv : Nat} {o v : Option Nat} (a : Nat) (hd : decode (mB M) pc = .ok (.putfield index, 3)) (hl : wrF M index f) (hkd2 : fkd f = (1, cv)) {ci : Nat} (hci : f / 64 = ci) (ho : o = some a) (hsd : sdW (mS M) (f / 64) = true) (kk : nnWP X M k (pc + 3) ls st (pR g f a 0 v) Z) : nnWP X M k pc ls (qr cv v :: qr ci o :: st) g Z := by
  have hkd : (fkd f).1 = 1 := by rw [hkd2]
  have hcv : (fkd f).2 = cv := by rw [hkd2]
  subst ho hci hcv
  intro p l e R s m args below meth c dC dI dA scr b sz0 adr aad H locs cells slots Q lsM hC hR hL hV hc hsl hq hA
  have hx := hC.1
  have hb := hC.2.1
  have h1 := List.forall_mem_cons.mp hV
  have h2 := List.forall_mem_cons.mp h1.2
  have ha := h2.1 a rfl
  refine nn_putF (v := va_rf (v.map (adr (fkd f).2))) (rest := st.map (vM adr aad b)) hC hR hl ha (by rw [fTy_1 hkd]; exact (fit_rf _ _).1) (by rw [fTy_1 hkd]; exact (fit_rf _ _).2) hd fun H' cell q1 e1 e2 e3 => ?_
  have hag : nnAG (mS M) g (pR g f a 0 v) := nnAG_pR hsd
  have hx1 : nnEX adr aad adr aad g (pR g f a 0 v) := nnEX.same (fun _ => rfl) (fun _ _ => rfl)
  exact kk p l e R s m args below meth c dC dI dA scr b sz0 adr aad H' _ cells slots Q lsM hC (rp_putR hR (fun ci hN => nn_apart hC hN) hl.1 ha hkd h1.1 q1 e1 e2 e3) (hL.ex hx1) (h2.2) hc hsl (t_lc hq (hR.1 _ _ ha).2.2) (hA.ex hx1 hag)
theorem wp_iald {X : Nat × (Nat → Int32)} {M : mrec} {k pc : Nat} {ls st : List qv} {g : sg} {Z : qv → sg → Prop} {f a : Nat} {i : Int32} (n : Nat) (hd : decode (mB M) pc = .ok (.iaload, 1)) (hkd : fkd f = (2, 0)) (hn : gA g f a = some n) (hin : vp_in i n) (kk : nnWP X M k (pc + 1) ls (qi (gI g f a i.toNatClampNeg) :: st) g Z) : nnWP X M k pc ls (qi i :: qa f a :: st) g Z := by
  intro p l e R s m args below meth c dC dI dA scr b sz0 adr aad H locs cells slots Q lsM hC hR hL hV hc hsl hq hA
  have hx := hC.1
  have hb := hC.2.1
  have h1 := List.forall_mem_cons.mp hV
  have h2 := List.forall_mem_cons.mp h1.2
  obtain ⟨r1, r2, r3, r4, r5⟩ := hR.2.1 f a n hn
  have hlt : i.toNatClampNeg < n := Nat.not_le.mp fun q => hin (Or.inr q)
  have hk2 : (fkd f).1 = 2 := by rw [hkd]
  have htc : tcd f = 0 := by unfold tcd; rw [hkd]; rfl
  have harr := (hC.2.2.2.2.2.1.2.1 _ r3).1
  rw [htc] at harr r4
  have kw := kk p l e R s m args below meth c dC dI dA scr b sz0 adr aad H locs cells slots Q lsM hC hR hL (List.forall_mem_cons.mpr ⟨trivial, h2.2⟩) hc hsl hq hA
  show W p l e R s m args below meth c H locs cells slots Q (F0 m pc lsM (.int i :: vM adr aad b (qa f a) :: st.map (vM adr aad b)))
  rw [vM_qa (rp_4095 hR hn)]
  exact W.iald (v := .int (gI g f a i.toNatClampNeg)) hx hb r4 (harr n _) (fun q => by cases q) (by rw [arrV_size]; exact hin) (by rw [arrV_read _ _ hlt, fE_2 hk2]) rfl rfl hd kw
theorem wp_cald {X : Nat × (Nat → Int32)} {M : mrec} {k pc : Nat} {ls st : List qv} {g : sg} {Z : qv → sg → Prop} {f a : Nat} {i : Int32} (n : Nat) (hd : decode (mB M) pc = .ok (.caload, 1)) (hkd : fkd f = (2, 1)) (hn : gA g f a = some n) (hin : vp_in i n) (kk : nnWP X M k (pc + 1) ls (qi (gI g f a i.toNatClampNeg) :: st) g Z) : nnWP X M k pc ls (qi i :: qa f a :: st) g Z := by
  intro p l e R s m args below meth c dC dI dA scr b sz0 adr aad H locs cells slots Q lsM hC hR hL hV hc hsl hq hA
  have hx := hC.1
  have hb := hC.2.1
  have h1 := List.forall_mem_cons.mp hV
  have h2 := List.forall_mem_cons.mp h1.2
  obtain ⟨r1, r2, r3, r4, r5⟩ := hR.2.1 f a n hn
  have hlt : i.toNatClampNeg < n := Nat.not_le.mp fun q => hin (Or.inr q)
  have hk2 : (fkd f).1 = 2 := by rw [hkd]
  have htc : tcd f = 1 := by unfold tcd; rw [hkd]; rfl
  have harr := (hC.2.2.2.2.2.1.2.1 _ r3).1
  rw [htc] at harr r4
  have kw := kk p l e R s m args below meth c dC dI dA scr b sz0 adr aad H locs cells slots Q lsM hC hR hL (List.forall_mem_cons.mpr ⟨trivial, h2.2⟩) hc hsl hq hA
  show W p l e R s m args below meth c H locs cells slots Q (F0 m pc lsM (.int i :: vM adr aad b (qa f a) :: st.map (vM adr aad b)))
  rw [vM_qa (rp_4095 hR hn)]
  exact W.cald (v := .int (gI g f a i.toNatClampNeg)) hx hb r4 (harr n _) (fun q => by cases q) (by rw [arrV_size]; exact hin) (by rw [arrV_read _ _ hlt, fE_2 hk2]) rfl rfl hd kw
theorem wp_zald {X : Nat × (Nat → Int32)} {M : mrec} {k pc : Nat} {ls st : List qv} {g : sg} {Z : qv → sg → Prop} {f a : Nat} {i : Int32} (n : Nat) (hd : decode (mB M) pc = .ok (.baload, 1)) (hkd : fkd f = (2, 2)) (hn : gA g f a = some n) (hin : vp_in i n) (kk : nnWP X M k (pc + 1) ls (qi (gI g f a i.toNatClampNeg) :: st) g Z) : nnWP X M k pc ls (qi i :: qa f a :: st) g Z := by
  intro p l e R s m args below meth c dC dI dA scr b sz0 adr aad H locs cells slots Q lsM hC hR hL hV hc hsl hq hA
  have hx := hC.1
  have hb := hC.2.1
  have h1 := List.forall_mem_cons.mp hV
  have h2 := List.forall_mem_cons.mp h1.2
  obtain ⟨r1, r2, r3, r4, r5⟩ := hR.2.1 f a n hn
  have hlt : i.toNatClampNeg < n := Nat.not_le.mp fun q => hin (Or.inr q)
  have hk2 : (fkd f).1 = 2 := by rw [hkd]
  have htc : tcd f = 2 := by unfold tcd; rw [hkd]; rfl
  have harr := (hC.2.2.2.2.2.1.2.1 _ r3).1
  rw [htc] at harr r4
  have kw := kk p l e R s m args below meth c dC dI dA scr b sz0 adr aad H locs cells slots Q lsM hC hR hL (List.forall_mem_cons.mpr ⟨trivial, h2.2⟩) hc hsl hq hA
  show W p l e R s m args below meth c H locs cells slots Q (F0 m pc lsM (.int i :: vM adr aad b (qa f a) :: st.map (vM adr aad b)))
  rw [vM_qa (rp_4095 hR hn)]
  exact W.zald (v := .int (gI g f a i.toNatClampNeg)) hx hb r4 (harr n _) (fun q => by cases q) (by rw [arrV_size]; exact hin) (by rw [arrV_read _ _ hlt, fE_2 hk2]) rfl rfl hd kw
theorem wp_aald {X : Nat × (Nat → Int32)} {M : mrec} {k pc : Nat} {ls st : List qv} {g : sg} {Z : qv → sg → Prop} {f a : Nat} {i : Int32} (n : Nat) (hd : decode (mB M) pc = .ok (.aaload, 1)) {cj : Nat} (hkd2 : fkd f = (3, cj)) (hn : gA g f a = some n) (hin : vp_in i n) (kk : nnWP X M k (pc + 1) ls (qr cj (gR g f a i.toNatClampNeg) :: st) g Z) : nnWP X M k pc ls (qi i :: qa f a :: st) g Z := by
  have hkd : (fkd f).1 = 3 := by rw [hkd2]
  have hcj : (fkd f).2 = cj := by rw [hkd2]
  subst hcj
  intro p l e R s m args below meth c dC dI dA scr b sz0 adr aad H locs cells slots Q lsM hC hR hL hV hc hsl hq hA
  have hx := hC.1
  have hb := hC.2.1
  have h1 := List.forall_mem_cons.mp hV
  have h2 := List.forall_mem_cons.mp h1.2
  obtain ⟨r1, r2, r3, r4, r5⟩ := hR.2.1 f a n hn
  have hlt : i.toNatClampNeg < n := Nat.not_le.mp fun q => hin (Or.inr q)
  have htc : tcd f = (fkd f).2 + 3 := by unfold tcd; rw [if_pos hkd]
  have harr := (hC.2.2.2.2.2.1.2.1 _ r3).1
  have hty : (tcT (tcd f)).isReference = true := by rw [htc]; rfl
  have kw := kk p l e R s m args below meth c dC dI dA scr b sz0 adr aad H locs cells slots Q lsM hC hR hL (List.forall_mem_cons.mpr ⟨fun z hz => hR.2.2.2.1 _ _ _ _ hz, h2.2⟩) hc hsl hq hA
  show W p l e R s m args below meth c H locs cells slots Q (F0 m pc lsM (.int i :: vM adr aad b (qa f a) :: st.map (vM adr aad b)))
  rw [vM_qa (rp_4095 hR hn)]
  exact W.aald (v := va_rf ((gR g f a i.toNatClampNeg).map (adr (fkd f).2))) hx hb r4 (harr n _) hty (fun q => by cases q) (by rw [arrV_size]; exact hin) (by rw [arrV_read _ _ hlt, fE_3 hkd]) rfl rfl hd kw
theorem wp_alen {X : Nat × (Nat → Int32)} {M : mrec} {k pc : Nat} {ls st : List qv} {g : sg} {Z : qv → sg → Prop} {f a : Nat} (n : Nat) (hd : decode (mB M) pc = .ok (.arraylength, 1)) (hn : gA g f a = some n) (kk : nnWP X M k (pc + 1) ls (qi (nI n) :: st) g Z) : nnWP X M k pc ls (qa f a :: st) g Z := by
  intro p l e R s m args below meth c dC dI dA scr b sz0 adr aad H locs cells slots Q lsM hC hR hL hV hc hsl hq hA
  have hx := hC.1
  have hb := hC.2.1
  have h1 := List.forall_mem_cons.mp hV
  obtain ⟨r1, r2, r3, r4, r5⟩ := hR.2.1 f a n hn
  have harr := (hC.2.2.2.2.2.1.2.1 _ r3).1
  have kw := kk p l e R s m args below meth c dC dI dA scr b sz0 adr aad H locs cells slots Q lsM hC hR hL (List.forall_mem_cons.mpr ⟨trivial, h1.2⟩) hc hsl hq hA
  show W p l e R s m args below meth c H locs cells slots Q (F0 m pc lsM (vM adr aad b (qa f a) :: st.map (vM adr aad b)))
  rw [vM_qa (rp_4095 hR hn)]
  exact W.alen (n := nI n) hx hb r4 (harr n _) (by rw [arrV_size]; rfl) rfl rfl hd kw
theorem wp_sald {X : Nat × (Nat → Int32)} {M : mrec} {k pc : Nat} {ls st : List qv} {g : sg} {Z : qv → sg → Prop} {a : Nat} {i : Int32} (hd : decode (mB M) pc = .ok (.iaload, 1)) (hin : vp_in i X.1) (kk : nnWP X M k (pc + 1) ls (qi (X.2 i.toNatClampNeg) :: st) g Z) : nnWP X M k pc ls (qi i :: qa 4095 a :: st) g Z := by
  intro p l e R s m args below meth c dC dI dA scr b sz0 adr aad H locs cells slots Q lsM hC hR hL hV hc hsl hq hA
  have hx := hC.1
  have hb := hC.2.1
  have h1 := List.forall_mem_cons.mp hV
  have h2 := List.forall_mem_cons.mp h1.2
  obtain ⟨s1, s2, s3, s4⟩ := hC.2.2.2.2.2.2.2.2.2
  have hlt : i.toNatClampNeg < X.1 := Nat.not_le.mp fun q => hin (Or.inr q)
  have kw := kk p l e R s m args below meth c dC dI dA scr b sz0 adr aad H locs cells slots Q lsM hC hR hL (List.forall_mem_cons.mpr ⟨trivial, h2.2⟩) hc hsl hq hA
  exact W.iald (v := .int (X.2 i.toNatClampNeg)) (a := b) hx hb hR.2.2.2.2.1 s1 s2 (by rw [s3]; exact hin) (s4 _ hlt) rfl rfl hd kw
theorem wp_slen {X : Nat × (Nat → Int32)} {M : mrec} {k pc : Nat} {ls st : List qv} {g : sg} {Z : qv → sg → Prop} {a : Nat} (hd : decode (mB M) pc = .ok (.arraylength, 1)) (kk : nnWP X M k (pc + 1) ls (qi (nI X.1) :: st) g Z) : nnWP X M k pc ls (qa 4095 a :: st) g Z := by
  intro p l e R s m args below meth c dC dI dA scr b sz0 adr aad H locs cells slots Q lsM hC hR hL hV hc hsl hq hA
  have hx := hC.1
  have hb := hC.2.1
  have h1 := List.forall_mem_cons.mp hV
  obtain ⟨s1, s2, s3, s4⟩ := hC.2.2.2.2.2.2.2.2.2
  have kw := kk p l e R s m args below meth c dC dI dA scr b sz0 adr aad H locs cells slots Q lsM hC hR hL (List.forall_mem_cons.mpr ⟨trivial, h1.2⟩) hc hsl hq hA
  exact W.alen (n := nI X.1) (a := b) hx hb hR.2.2.2.2.1 s1 (by rw [s3]; rfl) rfl rfl hd kw
theorem wp_iast {X : Nat × (Nat → Int32)} {M : mrec} {k pc : Nat} {ls st : List qv} {g : sg} {Z : qv → sg → Prop} {f a : Nat} {i x : Int32} (n : Nat) (hd : decode (mB M) pc = .ok (.iastore, 1)) (hkd : fkd f = (2, 0)) (hn : gA g f a = some n) (hin : vp_in i n) (hsd : sdW (mS M) (f / 64) = true) (kk : nnWP X M k (pc + 1) ls st (pI g f a i.toNatClampNeg x) Z) : nnWP X M k pc ls (qi x :: qi i :: qa f a :: st) g Z := by
  intro p l e R s m args below meth c dC dI dA scr b sz0 adr aad H locs cells slots Q lsM hC hR hL hV hc hsl hq hA
  have hx := hC.1
  have hb := hC.2.1
  have h1 := List.forall_mem_cons.mp hV
  have h2 := List.forall_mem_cons.mp h1.2
  have h3 := List.forall_mem_cons.mp h2.2
  obtain ⟨r1, r2, r3, r4, r5⟩ := hR.2.1 f a n hn
  have hk2 : (fkd f).1 = 2 := by rw [hkd]
  have htc : tcd f = 0 := by unfold tcd; rw [hkd]; rfl
  have harr := (hC.2.2.2.2.2.1.2.1 _ r3).1
  have r6 := r4
  rw [htc] at harr r6
  show W p l e R s m args below meth c H locs cells slots Q (F0 m pc lsM (.int x :: .int i :: vM adr aad b (qa f a) :: st.map (vM adr aad b)))
  rw [vM_qa (rp_4095 hR hn)]
  refine W.iast hx hb r6 (harr n _) (fun q => by cases q) (by rw [arrV_size]; exact hin) rfl rfl hd fun H' e1 e2 e3 => ?_
  have e1 : H'[aad f a]? = some ((arrV (dA 0) n (fE adr g f a)).setSlot i.toNatClampNeg (.int x)) := e1
  rw [← htc] at e1
  have hag : nnAG (mS M) g (pI g f a i.toNatClampNeg x) := nnAG_pI hsd
  have hx1 : nnEX adr aad adr aad g (pI g f a i.toNatClampNeg x) := nnEX.same (fun _ => rfl) (fun _ _ => rfl)
  exact kk p l e R s m args below meth c dC dI dA scr b sz0 adr aad H' _ cells slots Q lsM hC (rp_astI hR hn hk2 e1 e2 e3) (hL.ex hx1) (h3.2) hc hsl (t_lc hq r5) (hA.ex hx1 hag)
theorem wp_cast {X : Nat × (Nat → Int32)} {M : mrec} {k pc : Nat} {ls st : List qv} {g : sg} {Z : qv → sg → Prop} {f a : Nat} {i x : Int32} (n : Nat) (hd : decode (mB M) pc = .ok (.castore, 1)) (hkd : fkd f = (2, 1)) (hn : gA g f a = some n) (hin : vp_in i n) (hok : okI 1 x) (hsd : sdW (mS M) (f / 64) = true) (kk : nnWP X M k (pc + 1) ls st (pI g f a i.toNatClampNeg x) Z) : nnWP X M k pc ls (qi x :: qi i :: qa f a :: st) g Z := by
  intro p l e R s m args below meth c dC dI dA scr b sz0 adr aad H locs cells slots Q lsM hC hR hL hV hc hsl hq hA
  have hx := hC.1
  have hb := hC.2.1
  have h1 := List.forall_mem_cons.mp hV
  have h2 := List.forall_mem_cons.mp h1.2
  have h3 := List.forall_mem_cons.mp h2.2
  obtain ⟨r1, r2, r3, r4, r5⟩ := hR.2.1 f a n hn
  have hk2 : (fkd f).1 = 2 := by rw [hkd]
  have htc : tcd f = 1 := by unfold tcd; rw [hkd]; rfl
  have harr := (hC.2.2.2.2.2.1.2.1 _ r3).1
  have r6 := r4
  rw [htc] at harr r6
  show W p l e R s m args below meth c H locs cells slots Q (F0 m pc lsM (.int x :: .int i :: vM adr aad b (qa f a) :: st.map (vM adr aad b)))
  rw [vM_qa (rp_4095 hR hn)]
  refine W.cast hx hb r6 (harr n _) (fun q => by cases q) (by rw [arrV_size]; exact hin) rfl rfl hd fun H' e1 e2 e3 => ?_
  have e1 : H'[aad f a]? = some ((arrV (dA 1) n (fE adr g f a)).setSlot i.toNatClampNeg (.int x)) := by rw [e1]; exact congrArg (fun z => some (Cell.setSlot _ _ z)) hok.1
  rw [← htc] at e1
  have hag : nnAG (mS M) g (pI g f a i.toNatClampNeg x) := nnAG_pI hsd
  have hx1 : nnEX adr aad adr aad g (pI g f a i.toNatClampNeg x) := nnEX.same (fun _ => rfl) (fun _ _ => rfl)
  exact kk p l e R s m args below meth c dC dI dA scr b sz0 adr aad H' _ cells slots Q lsM hC (rp_astI hR hn hk2 e1 e2 e3) (hL.ex hx1) (h3.2) hc hsl (t_lc hq r5) (hA.ex hx1 hag)
theorem wp_zast {X : Nat × (Nat → Int32)} {M : mrec} {k pc : Nat} {ls st : List qv} {g : sg} {Z : qv → sg → Prop} {f a : Nat} {i x : Int32} (n : Nat) (hd : decode (mB M) pc = .ok (.bastore, 1)) (hkd : fkd f = (2, 2)) (hn : gA g f a = some n) (hin : vp_in i n) (hok : okI 2 x) (hsd : sdW (mS M) (f / 64) = true) (kk : nnWP X M k (pc + 1) ls st (pI g f a i.toNatClampNeg x) Z) : nnWP X M k pc ls (qi x :: qi i :: qa f a :: st) g Z := by
  intro p l e R s m args below meth c dC dI dA scr b sz0 adr aad H locs cells slots Q lsM hC hR hL hV hc hsl hq hA
  have hx := hC.1
  have hb := hC.2.1
  have h1 := List.forall_mem_cons.mp hV
  have h2 := List.forall_mem_cons.mp h1.2
  have h3 := List.forall_mem_cons.mp h2.2
  obtain ⟨r1, r2, r3, r4, r5⟩ := hR.2.1 f a n hn
  have hk2 : (fkd f).1 = 2 := by rw [hkd]
  have htc : tcd f = 2 := by unfold tcd; rw [hkd]; rfl
  have harr := (hC.2.2.2.2.2.1.2.1 _ r3).1
  have r6 := r4
  rw [htc] at harr r6
  show W p l e R s m args below meth c H locs cells slots Q (F0 m pc lsM (.int x :: .int i :: vM adr aad b (qa f a) :: st.map (vM adr aad b)))
  rw [vM_qa (rp_4095 hR hn)]
  refine W.zast hx hb r6 (harr n _) (fun q => by cases q) (by rw [arrV_size]; exact hin) rfl rfl hd fun H' e1 e2 e3 => ?_
  have e1 : H'[aad f a]? = some ((arrV (dA 2) n (fE adr g f a)).setSlot i.toNatClampNeg (.int x)) := by rw [e1]; exact congrArg (fun z => some (Cell.setSlot _ _ z)) hok.1
  rw [← htc] at e1
  have hag : nnAG (mS M) g (pI g f a i.toNatClampNeg x) := nnAG_pI hsd
  have hx1 : nnEX adr aad adr aad g (pI g f a i.toNatClampNeg x) := nnEX.same (fun _ => rfl) (fun _ _ => rfl)
  exact kk p l e R s m args below meth c dC dI dA scr b sz0 adr aad H' _ cells slots Q lsM hC (rp_astI hR hn hk2 e1 e2 e3) (hL.ex hx1) (h3.2) hc hsl (t_lc hq r5) (hA.ex hx1 hag)
theorem wp_aast {X : Nat × (Nat → Int32)} {M : mrec} {k pc : Nat} {ls st : List qv} {g : sg} {Z : qv → sg → Prop} {f a : Nat} {i : Int32} {v : Option Nat} (n : Nat) (hd : decode (mB M) pc = .ok (.aastore, 1)) {cj : Nat} (hkd2 : fkd f = (3, cj)) (hkn0 : cj < nn_N) (hn : gA g f a = some n) (hin : vp_in i n) (hsd : sdW (mS M) (f / 64) = true) (kk : nnWP X M k (pc + 1) ls st (pR g f a i.toNatClampNeg v) Z) : nnWP X M k pc ls (qr cj v :: qi i :: qa f a :: st) g Z := by
  have hkd : (fkd f).1 = 3 := by rw [hkd2]
  have hcj : (fkd f).2 = cj := by rw [hkd2]
  subst hcj
  have hkn := hkn0
  intro p l e R s m args below meth c dC dI dA scr b sz0 adr aad H locs cells slots Q lsM hC hR hL hV hc hsl hq hA
  have hx := hC.1
  have hb := hC.2.1
  have h1 := List.forall_mem_cons.mp hV
  have h2 := List.forall_mem_cons.mp h1.2
  have h3 := List.forall_mem_cons.mp h2.2
  obtain ⟨r1, r2, r3, r4, r5⟩ := hR.2.1 f a n hn
  have hlt : i.toNatClampNeg < n := Nat.not_le.mp fun q => hin (Or.inr q)
  have hi0 : ¬ i < 0 := fun q => hin (Or.inl q)
  have htc : tcd f = (fkd f).2 + 3 := by unfold tcd; rw [if_pos hkd]
  have hK := hC.2.2.2.2.2.1
  have harr := hK.2.1 _ r3
  have hag : nnAG (mS M) g (pR g f a i.toNatClampNeg v) := nnAG_pR hsd
  have hx1 : nnEX adr aad adr aad g (pR g f a i.toNatClampNeg v) := nnEX.same (fun _ => rfl) (fun _ _ => rfl)
  have htt : tcT (tcd f) = .object (nn_nm (fkd f).2) := by rw [htc]; rfl
  rw [htt] at harr
  show W p l e R s m args below meth c H locs cells slots Q (F0 m pc lsM (vM adr aad b (qr (fkd f).2 v) :: .int i :: vM adr aad b (qa f a) :: st.map (vM adr aad b)))
  rw [vM_qa (rp_4095 hR hn)]
  cases v with
  | none =>
    refine va_WaastN (C := nn_nm (fkd f).2) hx hb r4 (harr.1 n _) (fun q => by cases q) (by rw [arrV_size]; exact hin) rfl rfl hd fun H' e1 e2 e3 => ?_
    exact kk p l e R s m args below meth c dC dI dA scr b sz0 adr aad H' _ cells slots Q lsM hC (rp_astR (o := none) hR hn hkd h1.1 e1 e2 e3) (hL.ex hx1) (h3.2) hc hsl (t_lc hq r5) (hA.ex hx1 hag)
  | some d =>
    obtain ⟨kA, comp, k1, k2, k3, -⟩ := harr.2
    obtain ⟨-, ⟨cellV, g1, g2, g3, -⟩, -⟩ := hR.1 _ _ (h1.1 d rfl)
    have hcls := (hK.1 _ hkn).2
    have hcomp : comp = dC (fkd f).2 := Option.some.inj (k3.symm.trans hcls.1)
    subst hcomp
    obtain ⟨kC, hkC, -⟩ := hcls.2
    refine W.aast (v := adr (fkd f).2 d) hx hb r4 (fun q h => by cases h) (fun h => by cases h) k1 k2 rfl hkC ⟨hi0, by rw [arrV_size]; exact hlt⟩ g1 (fun q h => by rw [g3] at h; cases h) (by rw [g2]; exact hkC) (by rw [g2]; exact va_assign hcls) rfl rfl hd fun H' e1 e2 e3 => ?_
    exact kk p l e R s m args below meth c dC dI dA scr b sz0 adr aad H' _ cells slots Q lsM hC (rp_astR (o := some d) hR hn hkd h1.1 e1 e2 e3) (hL.ex hx1) (h3.2) hc hsl (t_lc hq r5) (hA.ex hx1 hag)
theorem wp_new {X : Nat × (Nat → Int32)} {M : mrec} {k pc : Nat} {ls st : List qv} {g : sg} {Z : qv → sg → Prop} {index ci : Nat} (u : Nat) (hd : decode (mB M) pc = .ok (.new index, 3)) (hN : ci < nn_N) (hw1 : Cond.classLink (mY M).cls index (nn_nm ci) ∈ nn_ws) (hw2 : Cond.instantiable (nn_nm ci) (nn_n ci) ∈ nn_ws) (hw3 : Cond.initialized (nn_nm ci) ∈ nn_ws) (hu : 1 ≤ u ∧ nn_n ci ≤ 16 * u) (hsd : sdW (mS M) ci = true) (hk : u ≤ k) (kk : nnWP X M (k - u) (pc + 3) ls (qr ci (some (gC g ci)) :: st) (pN g ci) Z) : nnWP X M k pc ls st g Z := by
  intro p l e R s m args below meth c dC dI dA scr b sz0 adr aad H locs cells slots Q lsM hC hR hL hV hc hsl hq hA
  have hx := hC.1
  have hb := hC.2.1
  have hown := hC.2.2.2.1
  have hts := hC.2.2.2.2.1
  have hK := hC.2.2.2.2.2.1
  have hKn := hK.1 ci hN
  refine W.newcK hx hb hown (hts _ hw1) (hts _ hw2) (hts _ hw3) rfl hd (by omega) (by omega) hKn.2.1 rfl fun H1 kC hkC e1 z1 o1 => ?_
  have hob := u_born (fun k => fTy (64 * ci + k)) hts (nn_lay ci hN) hKn hkC e1 (nn_fty ci hN)
  obtain ⟨hR1, hx1⟩ := rp_new (adr' := fun c a => if c = ci ∧ a = gC g ci then H.size else adr c a) hR (if_pos ⟨rfl, rfl⟩) (fun _ _ z => if_neg z) hN hob z1 o1
  have hag : nnAG (mS M) g (pN g ci) := nnAG_pN hsd
  have hm : st.map (vM adr aad b) = st.map (vM (fun c a => if c = ci ∧ a = gC g ci then H.size else adr c a) aad b) := List.map_congr_left fun v hv => (vM_ex hx1 (hV v hv)).symm
  have kw := kk p l e R s m args below meth c dC dI dA scr b sz0 (fun c a => if c = ci ∧ a = gC g ci then H.size else adr c a) aad H1 locs (cells + 1) (slots + nn_n ci) Q lsM hC hR1 (hL.ex hx1) (List.forall_mem_cons.mpr ⟨fun z hz => by cases hz; rw [gC_pN, if_pos rfl]; exact Nat.lt_succ_self _, fun v hv => vOK_ex hx1 (hV v hv)⟩) (by omega) (by omega) hq (hA.ex hx1 hag)
  rw [List.map_cons, ← hm, vM_qr, Option.map_some, if_pos ⟨rfl, rfl⟩] at kw
  exact kw
theorem wp_newA {X : Nat × (Nat → Int32)} {M : mrec} {k pc : Nat} {ls st : List qv} {g : sg} {Z : qv → sg → Prop} {atype : ArrayType} {index f n : Nat} {x : Int32} {o : Option Nat} (a u : Nat) (hd : decode (mB M) pc = .ok (.newarray atype, 2)) (hd2 : decode (mB M) (pc + 2) = .ok (.putfield index, 3)) (hl : wrF M index f) {t : Nat} (hkd2 : fkd f = (2, t)) (hty0 : newarray.typeOf atype = tcT t) (hok0 : t ≤ 2) (htc0 : t ∈ nn_tc) (hw : Cond.arrayClass (newarray.typeOf atype) ∈ nn_ws) {ci : Nat} (hci : f / 64 = ci) (ho : o = some a) (hx0 : x = nI n) (hn : n ≤ 16 * u) (hn2 : n ≤ 2000) (hu : 1 ≤ u) (hk : u ≤ k) (hno : gA g f a = none) (hsd : sdW (mS M) (f / 64) = true) (kk : nnWP X M (k - u) (pc + 5) ls st (pA g f a n) Z) : nnWP X M k pc ls (qi x :: qr ci o :: st) g Z := by
  have hkd : (fkd f).1 = 2 := by rw [hkd2]
  have htcd : tcd f = t := by unfold tcd; rw [hkd2]; rfl
  have hty : newarray.typeOf atype = tcT (tcd f) := by rw [htcd]; exact hty0
  have hok : (fkd f).2 ≤ 2 := by rw [hkd2]; exact hok0
  have htc : tcd f ∈ nn_tc := by rw [htcd]; exact htc0
  subst ho hci hx0
  intro p l e R s m args below meth c dC dI dA scr b sz0 adr aad H locs cells slots Q lsM hC hR hL hV hc hsl hq hA
  have hx := hC.1
  have hb := hC.2.1
  have h1 := List.forall_mem_cons.mp hV
  have h2 := List.forall_mem_cons.mp h1.2
  have ha := h2.1 a rfl
  have hown := hC.2.2.2.1
  have hts := hC.2.2.2.2.1
  have hK := hC.2.2.2.2.2.1
  have hby : n * componentBytes (newarray.typeOf atype) ≤ 536870912 := by
    have : componentBytes (newarray.typeOf atype) ≤ 8 := by cases atype <;> decide
    calc n * componentBytes (newarray.typeOf atype) ≤ 2000 * 8 := Nat.mul_le_mul hn2 this
      _ ≤ 536870912 := by decide
  refine va_newaK (n := nI n) (N := n) hx hb (hts _ hw) rfl hd rfl (nI_pos (by omega)) (nI_clamp (by omega)) hby (by omega) (by omega) rfl fun H1 cA e1 z1 o1 hAr hNm => ?_
  have hcA : cA = dA (tcd f) := by
    have h3 := (hK.2.1 _ htc).2
    rw [hty] at hNm
    have h4 : tcd f = (fkd f).2 := by unfold tcd; rw [if_neg (by omega)]
    rw [h4] at h3 hNm ⊢
    rcases (show (fkd f).2 = 0 ∨ (fkd f).2 = 1 ∨ (fkd f).2 = 2 by omega) with hh | hh | hh <;> rw [hh] at h3 hNm ⊢ <;> exact Option.some.inj (hNm.symm.trans h3)
  subst hcA
  have e1' : H1[H.size]? = some (arrV (dA (tcd f)) n (fun _ => if (fkd f).1 = 3 then Value.null else .int 0)) := by
    rw [e1]
    refine congrArg some (arrV_congr fun j hj => ?_)
    rw [if_neg (by omega), hty]
    have h4 : tcd f = (fkd f).2 := by unfold tcd; rw [if_neg (by omega)]
    rw [h4]
    rcases (show (fkd f).2 = 0 ∨ (fkd f).2 = 1 ∨ (fkd f).2 = 2 by omega) with hh | hh | hh <;> rw [hh] <;> rfl
  have hR1 : nnRP dC dI dA adr aad b scr sz0 g H1 := by
    refine ⟨rqO_keep hR.1 (fun ci c hc => o1 _ (rp_lt hR hc)) (fun _ _ _ _ _ => rfl), rqA_keep hR.2.1 (fun f a n hn => o1 _ (rp_ltA hR hn)) (fun _ _ _ _ _ _ _ => rfl), hR.2.2.1, hR.2.2.2.1, ?_, hR.2.2.2.2.2.1, by have := hR.2.2.2.2.2.2; omega⟩
    rw [o1 b (by have := hR.2.2.2.2.2; omega)]
    exact hR.2.2.2.2.1
  obtain ⟨t, ht⟩ := fTy_a (show 2 ≤ (fkd f).1 by omega)
  refine nn_putF (v := .ref H.size) (rest := st.map (vM adr aad b)) hC hR1 hl ha (by rw [ht]; rfl) (by rw [ht]; rfl) hd2 fun H' cell q1 e4 e5 e6 => ?_
  obtain ⟨hR2, hx1⟩ := rp_att (aad' := fun f' a' => if f' = f ∧ a' = a then H.size else aad f' a') hR (fun ci hN => nn_apart hC hN) (if_pos ⟨rfl, rfl⟩) (fun _ _ z => if_neg z) hl.1 ha hno (by omega) htc e1' z1 o1 q1 e4 e5 e6
  have hag : nnAG (mS M) g (pA g f a n) := nnAG_pA hsd
  have hm : st.map (vM adr aad b) = st.map (vM adr (fun f' a' => if f' = f ∧ a' = a then H.size else aad f' a') b) := List.map_congr_left fun v hv => (vM_ex hx1 (h2.2 v hv)).symm
  rw [hm]
  exact kk p l e R s m args below meth c dC dI dA scr b sz0 adr (fun f' a' => if f' = f ∧ a' = a then H.size else aad f' a') H' _ (cells + 1) (slots + n) Q lsM hC hR2 (hL.ex hx1) (fun v hv => vOK_ex hx1 (h2.2 v hv)) (by omega) (by omega) (t_lc hq (hR.1 _ _ ha).2.2) (hA.ex hx1 hag)
theorem wp_newR {X : Nat × (Nat → Int32)} {M : mrec} {k pc : Nat} {ls st : List qv} {g : sg} {Z : qv → sg → Prop} {idx index f n : Nat} {x : Int32} {o : Option Nat} (a u : Nat) (hd : decode (mB M) pc = .ok (.anewarray idx, 3)) (hd2 : decode (mB M) (pc + 3) = .ok (.putfield index, 3)) (hl : wrF M index f) {cj : Nat} (hkd2 : fkd f = (3, cj)) (htc0 : cj + 3 ∈ nn_tc) (hw0 : Cond.classLink (mY M).cls idx (nn_nm cj) ∈ nn_ws) (hao0 : nn_nm cj ∈ nn_ao) {ci : Nat} (hci : f / 64 = ci) (ho : o = some a) (hx0 : x = nI n) (hn : n ≤ 16 * u) (hn2 : n ≤ 2000) (hu : 1 ≤ u) (hk : u ≤ k) (hno : gA g f a = none) (hsd : sdW (mS M) (f / 64) = true) (kk : nnWP X M (k - u) (pc + 6) ls st (pA g f a n) Z) : nnWP X M k pc ls (qi x :: qr ci o :: st) g Z := by
  have hkd : (fkd f).1 = 3 := by rw [hkd2]
  have htcd : tcd f = cj + 3 := by unfold tcd; rw [hkd2]; rfl
  have htc : tcd f ∈ nn_tc := by rw [htcd]; exact htc0
  have hw : Cond.classLink (mY M).cls idx (nn_nm (fkd f).2) ∈ nn_ws := by rw [hkd2]; exact hw0
  have hao : nn_nm (fkd f).2 ∈ nn_ao := by rw [hkd2]; exact hao0
  subst ho hci hx0
  intro p l e R s m args below meth c dC dI dA scr b sz0 adr aad H locs cells slots Q lsM hC hR hL hV hc hsl hq hA
  have hx := hC.1
  have hb := hC.2.1
  have h1 := List.forall_mem_cons.mp hV
  have h2 := List.forall_mem_cons.mp h1.2
  have ha := h2.1 a rfl
  have hown := hC.2.2.2.1
  have hts := hC.2.2.2.2.1
  have hK := hC.2.2.2.2.2.1
  have hcl : (nI n).toNatClampNeg = n := nI_clamp (by omega)
  refine W.anew (n := nI n) (rest := vM adr aad b (qr (f / 64) (some a)) :: st.map (vM adr aad b)) hx hb hown (hts _ hw) (va_AO.use (hK.2.2.1 _ hao)) rfl hd rfl (nI_pos (by omega)) (by rw [hcl]; omega) (by omega) (by rw [hcl]; omega) fun cA kA comp f1 f2 f3 f4 => ?_
  rw [hcl]
  generalize hH1 : H.push ({ cls := cA, slots := Array.replicate n .null, vm := .none } : Cell) = H1
  have z1 : H1.size = H.size + 1 := by rw [← hH1, Array.size_push]
  have e1 : H1[H.size]? = some (arrV cA n (fun _ => .null)) := by rw [← hH1, Array.getElem?_push_size, ← arrV_new]
  have o1 : ∀ q : Nat, q < H.size → H1[q]? = H[q]? := fun q hq => by rw [← hH1, Array.getElem?_push, if_neg (Nat.ne_of_lt hq)]
  have hcA : cA = dA (tcd f) := by
    have h3 := (hK.2.1 _ htc).2
    have h4 : tcT (tcd f) = .object (nn_nm (fkd f).2) := by unfold tcd; rw [if_pos hkd]; rfl
    rw [h4] at h3
    obtain ⟨_, _, -, -, -, h5⟩ := h3
    exact Option.some.inj (f1.symm.trans h5)
  subst hcA
  have e1' : H1[H.size]? = some (arrV (dA (tcd f)) n (fun _ => if (fkd f).1 = 3 then Value.null else .int 0)) := by
    rw [e1]
    refine congrArg some (arrV_congr fun j hj => ?_)
    rw [if_pos hkd]
  have hR1 : nnRP dC dI dA adr aad b scr sz0 g H1 := by
    refine ⟨rqO_keep hR.1 (fun ci c hc => o1 _ (rp_lt hR hc)) (fun _ _ _ _ _ => rfl), rqA_keep hR.2.1 (fun f a n hn => o1 _ (rp_ltA hR hn)) (fun _ _ _ _ _ _ _ => rfl), hR.2.2.1, hR.2.2.2.1, ?_, hR.2.2.2.2.2.1, by have := hR.2.2.2.2.2.2; omega⟩
    rw [o1 b (by have := hR.2.2.2.2.2; omega)]
    exact hR.2.2.2.2.1
  obtain ⟨t, ht⟩ := fTy_a (show 2 ≤ (fkd f).1 by omega)
  refine nn_putF (v := .ref H.size) (rest := st.map (vM adr aad b)) hC hR1 hl ha (by rw [ht]; rfl) (by rw [ht]; rfl) hd2 fun H' cell q1 e4 e5 e6 => ?_
  obtain ⟨hR2, hx1⟩ := rp_att (aad' := fun f' a' => if f' = f ∧ a' = a then H.size else aad f' a') hR (fun ci hN => nn_apart hC hN) (if_pos ⟨rfl, rfl⟩) (fun _ _ z => if_neg z) hl.1 ha hno (by omega) htc e1' z1 o1 q1 e4 e5 e6
  have hag : nnAG (mS M) g (pA g f a n) := nnAG_pA hsd
  have hm : st.map (vM adr aad b) = st.map (vM adr (fun f' a' => if f' = f ∧ a' = a then H.size else aad f' a') b) := List.map_congr_left fun v hv => (vM_ex hx1 (h2.2 v hv)).symm
  rw [hm]
  exact kk p l e R s m args below meth c dC dI dA scr b sz0 adr (fun f' a' => if f' = f ∧ a' = a then H.size else aad f' a') H' _ (cells + 1) (slots + n) Q lsM hC hR2 (hL.ex hx1) (fun v hv => vOK_ex hx1 (h2.2 v hv)) (by omega) (by omega) (t_lc hq (hR.1 _ _ ha).2.2) (hA.ex hx1 hag)
theorem wp_objInit {X : Nat × (Nat → Int32)} {M : mrec} {k pc : Nat} {ls st : List qv} {g : sg} {Z : qv → sg → Prop} {idx ci : Nat} {o : Option Nat} (a : Nat) (hd : decode (mB M) pc = .ok (.invokespecial idx, 3)) (hw1 : Cond.methodLink (mY M).cls idx Lib.objectInit ∈ nn_ws) (hw2 : Cond.instanceMethod Lib.objectInit ∈ nn_ws) (hw3 : Cond.code Lib.objectInit ⟨#[0xb1]⟩ 1 none ∈ nn_ws) (hf : 1 ≤ mF M) (hwd : 20 ≤ mW M) (hst : st.length ≤ 8) (ho : o = some a) (kk : nnWP X M k (pc + 3) ls st g Z) : nnWP X M k pc ls (qr ci o :: st) g Z := by
  subst ho
  intro p l e R s m args below meth c dC dI dA scr b sz0 adr aad H locs cells slots Q lsM hC hR hL hV hc hsl hq hA
  have hx := hC.1
  have hb := hC.2.1
  have h1 := List.forall_mem_cons.mp hV
  have hml := hC.2.2.1
  have hown := hC.2.2.2.1
  have hts := hC.2.2.2.2.1
  have hfr := hC.2.2.2.2.2.2.2.1
  have hlo := hC.2.2.2.2.2.2.2.2.1
  have hrm : 2 * (F0 m pc lsM (.ref (adr ci a) :: st.map (vM adr aad b))).monitorRoom + ((st.map (vM adr aad b)).map fun v => v.category).sum ≤ 8 := lv_room (by rw [sum_cat]; exact hst)
  exact W.objInit (a := adr ci a) (rest := st.map (vM adr aad b)) hx hb hown (hts _ hw1) (hts _ hw2) (hts _ hw3) rfl (by rw [hml]; exact hL.1) rfl hd (by omega) (Nat.le_trans (Nat.add_le_add_right hrm 12) (by omega)) (kk p l e R s m args below meth c dC dI dA scr b sz0 adr aad H locs cells slots Q lsM hC hR hL (h1.2) hc hsl hq hA)
theorem wp_mmax {X : Nat × (Nat → Int32)} {M : mrec} {k pc : Nat} {ls st : List qv} {g : sg} {Z : qv → sg → Prop} {x y : Int32} {index : Nat} (hd : decode (mB M) pc = .ok (.invokestatic index, 3)) (hw1 : Cond.methodLink (mY M).cls index Lib.Math.max.name ∈ nn_ws) (hw2 : Cond.static Lib.Math.max.name ∈ nn_ws) (hw3 : Cond.initialized "java/lang/Math" ∈ nn_ws) (hw4 : Cond.code Lib.Math.max.name Lib.Math.max.code 2 (some .int) ∈ nn_ws) (hf : 1 ≤ mF M) (hwd : 21 ≤ mW M) (hst : st.length ≤ 8) (kk : nnWP X M k (pc + 3) ls (qi (if x < y then y else x) :: st) g Z) : nnWP X M k pc ls (qi y :: qi x :: st) g Z := by
  intro p l e R s m args below meth c dC dI dA scr b sz0 adr aad H locs cells slots Q lsM hC hR hL hV hc hsl hq hA
  have hx := hC.1
  have hb := hC.2.1
  have h1 := List.forall_mem_cons.mp (List.forall_mem_cons.mp hV).2
  have hml := hC.2.2.1
  have hts := hC.2.2.2.2.1
  have hfr := hC.2.2.2.2.2.2.2.1
  have hlo := hC.2.2.2.2.2.2.2.2.1
  exact va_mmax (x := x) (y := y) (rest := st.map (vM adr aad b)) hx hb (by rw [hml]; exact hL.1.symm) hC.2.2.2.1 (hts _ hw1) (hts _ hw2) (hts _ hw3) (hts _ hw4) (by omega) (by rw [sum_cat]; omega) (by omega) (by omega) hd (kk p l e R s m args below meth c dC dI dA scr b sz0 adr aad H locs cells slots Q lsM hC hR hL (List.forall_mem_cons.mpr ⟨trivial, h1.2⟩) hc hsl hq hA)
theorem wp_mmin {X : Nat × (Nat → Int32)} {M : mrec} {k pc : Nat} {ls st : List qv} {g : sg} {Z : qv → sg → Prop} {x y : Int32} {index : Nat} (hd : decode (mB M) pc = .ok (.invokestatic index, 3)) (hw1 : Cond.methodLink (mY M).cls index Lib.Math.min.name ∈ nn_ws) (hw2 : Cond.static Lib.Math.min.name ∈ nn_ws) (hw3 : Cond.initialized "java/lang/Math" ∈ nn_ws) (hw4 : Cond.code Lib.Math.min.name Lib.Math.min.code 2 (some .int) ∈ nn_ws) (hf : 1 ≤ mF M) (hwd : 21 ≤ mW M) (hst : st.length ≤ 8) (kk : nnWP X M k (pc + 3) ls (qi (if y < x then y else x) :: st) g Z) : nnWP X M k pc ls (qi y :: qi x :: st) g Z := by
  intro p l e R s m args below meth c dC dI dA scr b sz0 adr aad H locs cells slots Q lsM hC hR hL hV hc hsl hq hA
  have hx := hC.1
  have hb := hC.2.1
  have h1 := List.forall_mem_cons.mp (List.forall_mem_cons.mp hV).2
  have hml := hC.2.2.1
  have hts := hC.2.2.2.2.1
  have hfr := hC.2.2.2.2.2.2.2.1
  have hlo := hC.2.2.2.2.2.2.2.2.1
  exact va_mmin (x := x) (y := y) (rest := st.map (vM adr aad b)) hx hb (by rw [hml]; exact hL.1.symm) hC.2.2.2.1 (hts _ hw1) (hts _ hw2) (hts _ hw3) (hts _ hw4) (by omega) (by rw [sum_cat]; omega) (by omega) (by omega) hd (kk p l e R s m args below meth c dC dI dA scr b sz0 adr aad H locs cells slots Q lsM hC hR hL (List.forall_mem_cons.mpr ⟨trivial, h1.2⟩) hc hsl hq hA)
theorem wp_ret {X : Nat × (Nat → Int32)} {M : mrec} {k pc : Nat} {ls st : List qv} {g : sg} {Z : qv → sg → Prop} (r : qv) (hrt : nnRT M pc r) (hz : Z r g) : nnWP X M k pc ls (rl r) g Z := by
  intro p l e R s m args below meth c dC dI dA scr b sz0 adr aad H locs cells slots Q lsM hC hR hL hV hc hsl hq hA
  have hx := hC.1
  have hb := hC.2.1
  refine hA r g adr aad H locs cells slots pc lsM hz hR nnEX.rf nnAG.rf ?_ hq (by omega) (by omega) hrt
  cases r with
  | none => exact trivial
  | some v => exact hV _ List.mem_cons_self
