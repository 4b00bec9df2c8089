/-! what of the heap the pure state stands for -/
def vM (adr aad : Nat → Nat → Nat) (b : Nat) (v : qv) : Value := match v with
  | none => .null
  | some (.inl x) => .int x
  | some (.inr (.inl (ci, o))) => va_rf (o.map (adr ci))
  | some (.inr (.inr (f, a))) => if f = 4095 then .ref b else .ref (aad f a)
def vOK (g : sg) (v : qv) : Prop := match v with
  | none => True
  | some (.inl _) => True
  | some (.inr (.inl (ci, o))) => ∀ a, o = some a → a < gC g ci
  | some (.inr (.inr (f, a))) => f = 4095 ∨ ∃ n, gA g f a = some n
def fV (adr aad : Nat → Nat → Nat) (g : sg) (f a : Nat) : Value :=
  if (fkd f).1 = 0 then .int (gI g f a 0) else if (fkd f).1 = 1 then va_rf ((gR g f a 0).map (adr (fkd f).2)) else match gA g f a with
    | some _ => .ref (aad f a)
    | none => .null
def fE (adr : Nat → Nat → Nat) (g : sg) (f a j : Nat) : Value := if (fkd f).1 = 3 then va_rf ((gR g f a j).map (adr (fkd f).2)) else .int (gI g f a j)
def rqO (dC : Nat → ClassId) (dI : Nat → Nat → Nat) (adr : Nat → Nat → Nat) (sz0 : Nat) (cnt : Nat → Nat) (VO : Nat → Nat → Value) (H : Heap) : Prop :=
  ∀ ci a, a < cnt ci → ci < nn_N ∧ t_OB (adr ci a) (dC ci) (nn_n ci) (dI ci) H (fun k => VO (64 * ci + k) a) ∧ sz0 ≤ adr ci a
def rqA (dA : Nat → ClassId) (aad : Nat → Nat → Nat) (sz0 : Nat) (cnt : Nat → Nat) (len : Nat → Nat → Option Nat) (VE : Nat → Nat → Nat → Value) (H : Heap) : Prop :=
  ∀ f a n, len f a = some n → a < cnt (f / 64) ∧ 2 ≤ (fkd f).1 ∧ tcd f ∈ nn_tc ∧ H[aad f a]? = some (arrV (dA (tcd f)) n (VE f a)) ∧ sz0 ≤ aad f a
def rqD (adr aad : Nat → Nat → Nat) (cnt : Nat → Nat) (len : Nat → Nat → Option Nat) : Prop :=
  (∀ ci a cj c, a < cnt ci → c < cnt cj → adr ci a = adr cj c → ci = cj ∧ a = c) ∧ (∀ f a n f' a' n', len f a = some n → len f' a' = some n' → aad f a = aad f' a' → f = f' ∧ a = a') ∧ ∀ ci a f c n, a < cnt ci → len f c = some n → adr ci a ≠ aad f c
theorem arrV_congr {cI : ClassId} {N : Nat} {f h : Nat → Value} (e : ∀ j, j < N → f j = h j) : arrV cI N f = arrV cI N h := by
  have : (Array.ofFn (n := N) fun j => f j.val) = (Array.ofFn (n := N) fun j => h j.val) := by
    congr 1
    funext j
    exact e j.val j.isLt
  unfold arrV
  rw [this]
theorem fkey {ci cj k j : Nat} (hk : k < 64) (hj : j < 64) (h : 64 * cj + j = 64 * ci + k) : cj = ci ∧ j = k := by omega
theorem fdiv {ci k : Nat} (hk : k < 64) : (64 * ci + k) / 64 = ci := by omega
theorem rqO_put {dC : Nat → ClassId} {dI adr : Nat → Nat → Nat} {sz0 : Nat} {cnt : Nat → Nat} {VO VO' : Nat → Nat → Value} {H H' : Heap} {ci a k : Nat} {v : Value} {cell : Cell}
    (h : rqO dC dI adr sz0 cnt VO H) (hinj : ∀ ci a cj c, a < cnt ci → c < cnt cj → adr ci a = adr cj c → ci = cj ∧ a = c) (ha : a < cnt ci) (hk : k < nn_n ci)
    (hap : ∀ x y, x < nn_n ci → y < nn_n ci → x ≠ y → dI ci x ≠ dI ci y) (hc : H[adr ci a]? = some cell) (e1 : H'[adr ci a]? = some (cell.setSlot (dI ci k) v)) (e3 : ∀ q, q ≠ adr ci a → H'[q]? = H[q]?)
    (hV : ∀ f' a', VO' f' a' = if f' = 64 * ci + k ∧ a' = a then v else VO f' a') : rqO dC dI adr sz0 cnt VO' H' := by
  intro cj c hcj
  obtain ⟨hN, hob, hsz⟩ := h cj c hcj
  refine ⟨hN, ?_, hsz⟩
  by_cases hq : adr cj c = adr ci a
  · obtain ⟨rfl, rfl⟩ := hinj _ _ _ _ hcj ha hq
    obtain ⟨cell', g1, g2, g3, g4⟩ := hob
    rw [hc] at g1
    cases g1
    refine t_OB.to (V := updV (fun k => VO (64 * cj + k) c) k v) ⟨_, e1, g2, g3, t_set g4 hap hk v⟩ ?_
    intro j hj
    have h64 := nn_n64 cj hN
    show updV _ k v j = VO' (64 * cj + j) c
    rw [hV]
    unfold updV
    by_cases hjk : j = k
    · subst hjk; simp
    · have : ¬ (64 * cj + j = 64 * cj + k ∧ c = c) := fun z => hjk (by omega)
      rw [if_neg hjk, if_neg this]
  · refine (hob.kept (e3 _ hq)).to ?_
    intro j hj
    have h64 := nn_n64 cj hN
    have h64' := nn_n64 ci (h ci a ha).1
    show VO (64 * cj + j) c = VO' (64 * cj + j) c
    rw [hV, if_neg]
    rintro ⟨z1, z2⟩
    obtain ⟨r1, r2⟩ := fkey (Nat.lt_of_lt_of_le hk h64') (Nat.lt_of_lt_of_le hj h64) z1
    exact hq (by rw [r1, z2])
theorem rqO_keep {dC : Nat → ClassId} {dI adr : Nat → Nat → Nat} {sz0 : Nat} {cnt : Nat → Nat} {VO VO' : Nat → Nat → Value} {H H' : Heap}
    (h : rqO dC dI adr sz0 cnt VO H) (e3 : ∀ ci a, a < cnt ci → H'[adr ci a]? = H[adr ci a]?) (hV : ∀ ci a k, a < cnt ci → k < nn_n ci → VO' (64 * ci + k) a = VO (64 * ci + k) a) : rqO dC dI adr sz0 cnt VO' H' := by
  intro cj c hcj
  obtain ⟨hN, hob, hsz⟩ := h cj c hcj
  exact ⟨hN, (hob.kept (e3 cj c hcj)).to fun j hj => (hV cj c j hcj hj).symm, hsz⟩
theorem rqA_keep {dA : Nat → ClassId} {aad : Nat → Nat → Nat} {sz0 : Nat} {cnt : Nat → Nat} {len : Nat → Nat → Option Nat} {VE VE' : Nat → Nat → Nat → Value} {H H' : Heap}
    (h : rqA dA aad sz0 cnt len VE H) (e3 : ∀ f a n, len f a = some n → H'[aad f a]? = H[aad f a]?) (hV : ∀ f a n j, len f a = some n → 2 ≤ (fkd f).1 → j < n → VE' f a j = VE f a j) : rqA dA aad sz0 cnt len VE' H' := by
  intro f a n hn
  obtain ⟨h1, h2, h3, h4, h5⟩ := h f a n hn
  refine ⟨h1, h2, h3, ?_, h5⟩
  rw [e3 f a n hn, h4]
  exact congrArg some (arrV_congr fun j hj => (hV f a n j hn h2 hj).symm)
theorem rqA_put {dA : Nat → ClassId} {aad : Nat → Nat → Nat} {sz0 : Nat} {cnt : Nat → Nat} {len : Nat → Nat → Option Nat} {VE VE' : Nat → Nat → Nat → Value} {H H' : Heap} {f0 a0 n0 i : Nat} {v : Value}
    (h : rqA dA aad sz0 cnt len VE H) (hinj : ∀ f a n f' a' n', len f a = some n → len f' a' = some n' → aad f a = aad f' a' → f = f' ∧ a = a') (hn0 : len f0 a0 = some n0)
    (e1 : H'[aad f0 a0]? = some ((arrV (dA (tcd f0)) n0 (VE f0 a0)).setSlot i v)) (e3 : ∀ q, q ≠ aad f0 a0 → H'[q]? = H[q]?)
    (hV : ∀ f' a' j, VE' f' a' j = if f' = f0 ∧ a' = a0 ∧ j = i then v else VE f' a' j) : rqA dA aad sz0 cnt len VE' H' := by
  intro f a n hn
  obtain ⟨h1, h2, h3, h4, h5⟩ := h f a n hn
  refine ⟨h1, h2, h3, ?_, h5⟩
  by_cases hq : aad f a = aad f0 a0
  · obtain ⟨rfl, rfl⟩ := hinj _ _ _ _ _ _ hn hn0 hq
    cases hn.symm.trans hn0
    rw [e1, arrV_store]
    refine congrArg some (arrV_congr fun j hj => ?_)
    rw [hV]
    unfold updV
    by_cases hj : j = i
    · subst hj; simp
    · simp [hj]
  · rw [e3 _ hq, h4]
    refine congrArg some (arrV_congr fun j hj => ?_)
    rw [hV, if_neg]
    rintro ⟨rfl, rfl, -⟩
    exact hq rfl
def nnRP (dC : Nat → ClassId) (dI : Nat → Nat → Nat) (dA : Nat → ClassId) (adr aad : Nat → Nat → Nat) (b : Nat) (scr : Cell) (sz0 : Nat) (g : sg) (H : Heap) : Prop :=
  rqO dC dI adr sz0 (gC g) (fV adr aad g) H ∧ rqA dA aad sz0 (gC g) (gA g) (fE adr g) H ∧ rqD adr aad (gC g) (gA g) ∧ (∀ f a j c, gR g f a j = some c → c < gC g (fkd f).2) ∧ H[b]? = some scr ∧ b < sz0 ∧ sz0 ≤ H.size
def nnEX (adr aad adr' aad' : Nat → Nat → Nat) (g g' : sg) : Prop := (∀ ci, gC g ci ≤ gC g' ci) ∧ (∀ ci a, a < gC g ci → adr' ci a = adr ci a) ∧ ∀ f a n, gA g f a = some n → gA g' f a = some n ∧ aad' f a = aad f a
theorem nnEX.rf {adr aad : Nat → Nat → Nat} {g : sg} : nnEX adr aad adr aad g g := ⟨fun _ => Nat.le_refl _, fun _ _ _ => rfl, fun _ _ _ h => ⟨h, rfl⟩⟩
theorem nnEX.tr {adr aad adr1 aad1 adr2 aad2 : Nat → Nat → Nat} {g g1 g2 : sg} (h : nnEX adr aad adr1 aad1 g g1) (k : nnEX adr1 aad1 adr2 aad2 g1 g2) : nnEX adr aad adr2 aad2 g g2 :=
  ⟨fun ci => Nat.le_trans (h.1 ci) (k.1 ci), fun ci a ha => (k.2.1 ci a (Nat.lt_of_lt_of_le ha (h.1 ci))).trans (h.2.1 ci a ha), fun f a n hn => by
    obtain ⟨h1, h2⟩ := h.2.2 f a n hn
    obtain ⟨k1, k2⟩ := k.2.2 f a n h1
    exact ⟨k1, k2.trans h2⟩⟩
theorem nnEX.same {adr aad : Nat → Nat → Nat} {g g' : sg} (h1 : ∀ ci, gC g' ci = gC g ci) (h2 : ∀ f a, gA g' f a = gA g f a) : nnEX adr aad adr aad g g' := ⟨fun ci => Nat.le_of_eq (h1 ci).symm, fun _ _ _ => rfl, fun f a n h => ⟨by rw [h2]; exact h, rfl⟩⟩
theorem vOK_ex {adr aad adr' aad' : Nat → Nat → Nat} {g g' : sg} (h : nnEX adr aad adr' aad' g g') {v : qv} (hv : vOK g v) : vOK g' v := by
  match v, hv with
  | none, _ => exact trivial
  | some (.inl _), _ => exact trivial
  | some (.inr (.inl (ci, o))), hv => exact fun a ha => Nat.lt_of_lt_of_le (hv a ha) (h.1 ci)
  | some (.inr (.inr (f, a))), hv =>
    rcases hv with hv | ⟨n, hv⟩
    · exact Or.inl hv
    · exact Or.inr ⟨n, (h.2.2 f a n hv).1⟩
theorem vM_ex {adr aad adr' aad' : Nat → Nat → Nat} {g g' : sg} (h : nnEX adr aad adr' aad' g g') {b : Nat} {v : qv} (hv : vOK g v) : vM adr' aad' b v = vM adr aad b v := by
  match v, hv with
  | none, _ => rfl
  | some (.inl _), _ => rfl
  | some (.inr (.inl (ci, none))), hv => rfl
  | some (.inr (.inl (ci, some a))), hv =>
    show va_rf (some (adr' ci a)) = va_rf (some (adr ci a))
    rw [h.2.1 ci a (hv a rfl)]
  | some (.inr (.inr (f, a))), hv =>
    show (if f = 4095 then Value.ref b else .ref (aad' f a)) = if f = 4095 then Value.ref b else .ref (aad f a)
    by_cases hf : f = 4095
    · rw [if_pos hf, if_pos hf]
    · rcases hv with hv | ⟨n, hv⟩
      · exact absurd hv hf
      · rw [(h.2.2 f a n hv).2]
theorem vM_cat (adr aad : Nat → Nat → Nat) (b : Nat) (v : qv) : (vM adr aad b v).category = 1 := by
  match v with
  | none => rfl
  | some (.inl _) => rfl
  | some (.inr (.inl (ci, none))) => rfl
  | some (.inr (.inl (ci, some a))) => rfl
  | some (.inr (.inr (f, a))) =>
    show (if f = 4095 then Value.ref b else .ref (aad f a)).category = 1
    by_cases hf : f = 4095
    · rw [if_pos hf]; rfl
    · rw [if_neg hf]; rfl
def nnLR (adr aad : Nat → Nat → Nat) (b : Nat) (g : sg) (nL : Nat) (ls : List qv) (lsM : Array Slot) : Prop :=
  lsM.size = nL ∧ lv_wf lsM ∧ ls.length = nL ∧ ∀ (i : Nat) (v : qv), ls[i]? = some v → v ≠ none → vOK g v ∧ lsM[i]? = some (.val (vM adr aad b v))
theorem nnLR.ex {adr aad adr' aad' : Nat → Nat → Nat} {b nL : Nat} {g g' : sg} {ls : List qv} {lsM : Array Slot} (h : nnLR adr aad b g nL ls lsM) (hx : nnEX adr aad adr' aad' g g') : nnLR adr' aad' b g' nL ls lsM := by
  refine ⟨h.1, h.2.1, h.2.2.1, fun i v hi hn => ?_⟩
  obtain ⟨h1, h2⟩ := h.2.2.2 i v hi hn
  exact ⟨vOK_ex hx h1, by rw [vM_ex hx h1]; exact h2⟩
theorem nnLR.sub {adr aad : Nat → Nat → Nat} {b nL : Nat} {g : sg} {ls ls' : List qv} {lsM : Array Slot} (h : nnLR adr aad b g nL ls lsM) (hl : ls'.length = ls.length) (hs : ∀ (i : Nat) (v : qv), ls'[i]? = some v → v ≠ none → ls[i]? = some v) : nnLR adr aad b g nL ls' lsM :=
  ⟨h.1, h.2.1, hl.trans h.2.2.1, fun i v hi hn => h.2.2.2 i v (hs i v hi hn) hn⟩
/-- all that a frame's places hold, as the kit's rows want it -/
def lvAll (lsM : Array Slot) : List (Nat × Value) := (List.range lsM.size).filterMap fun (i : Nat) => match lsM[i]? with
  | some (.val v) => some (i, v)
  | _ => none
theorem lvAll_mem {lsM : Array Slot} {q : Nat × Value} : q ∈ lvAll lsM ↔ lsM[q.1]? = some (.val q.2) := by
  unfold lvAll
  rw [List.mem_filterMap]
  constructor
  · rintro ⟨i, -, hi⟩
    split at hi
    · rename_i v hv
      cases hi
      exact hv
    · cases hi
  · intro h
    refine ⟨q.1, List.mem_range.mpr (Array.getElem?_eq_some_iff.mp h).1, ?_⟩
    rw [h]
theorem lvAll_has {lsM : Array Slot} (h : lv_wf lsM) : lv_has lsM lsM.size (lvAll lsM) := ⟨rfl, h, fun _ hq => lvAll_mem.mp hq⟩
theorem nnLR.put {adr aad : Nat → Nat → Nat} {b nL : Nat} {g : sg} {ls : List qv} {lsM ls' : Array Slot} {i : Nat} {v : qv} (h : nnLR adr aad b g nL ls lsM) (hv : vOK g v)
    (h' : lv_has ls' nL ((i, vM adr aad b v) :: (lvAll lsM).filter (fun q => !(q.1 == i) && !(q.1 + 1 == i && q.2.category == 2)))) : nnLR adr aad b g nL (ls.set i v) ls' := by
  refine ⟨h'.1, h'.2.1, by rw [List.length_set]; exact h.2.2.1, fun j w hj hn => ?_⟩
  by_cases hij : i = j
  · subst hij
    have hlt : i < ls.length := by
      have := (List.getElem?_eq_some_iff.mp hj).1
      rwa [List.length_set] at this
    rw [List.getElem?_set_self hlt] at hj
    cases hj
    exact ⟨hv, h'.2.2 _ List.mem_cons_self⟩
  · rw [List.getElem?_set_ne hij] at hj
    obtain ⟨h1, h2⟩ := h.2.2.2 j w hj hn
    refine ⟨h1, h'.2.2 (j, vM adr aad b w) (List.mem_cons_of_mem _ (List.mem_filter.mpr ⟨lvAll_mem.mpr h2, ?_⟩))⟩
    have hc : (vM adr aad b w).category = 1 := vM_cat adr aad b w
    have hji : (j == i) = false := by rw [beq_eq_false_iff_ne]; exact Ne.symm hij
    simp [hji, hc]
