def fOK (f : Nat) : Prop := f / 64 < nn_N ∧ f % 64 < nn_n (f / 64)
def fLw (own : String) (index f : Nat) : Cond := .fieldLink own index (nn_nm (f / 64)) (vwT (f / 64) (f % 64)).2.1 (vwT (f / 64) (f % 64)).2.2.1
def lkF (own : String) (index f : Nat) : Prop := fOK f ∧ (fLw own index f ∈ nn_ws ∨ ∃ h : String, (own, index, nn_nm (f / 64), (vwT (f / 64) (f % 64)).2.1, (vwT (f / 64) (f % 64)).2.2.1, h) ∈ nn_nf)
theorem okI_0 (x : Int32) : okI 0 x := ⟨rfl, rfl⟩
theorem okI_2 {x : Int32} (h : x = 0 ∨ x = 1) : okI 2 x := by
  rcases h with rfl | rfl
  · exact ⟨rfl, rfl⟩
  · exact ⟨rfl, rfl⟩
theorem okI_1 {q : Nat} (h : q < 65536) : okI 1 (nI q) := pk_charN h
theorem okI_c (x : Int32) : okI 1 ((x.toUInt32 % 65536).toInt32) := ⟨pk_nc x, pk_fc x⟩
section HP
variable {X : Nat × (Nat → Int32)} {M : mrec} {p : Program} {l : Launch} {e : Env} {R : Room} {s : State} {m : MethodId} {args : Array Value} {below : List Frame} {meth : Method} {c : Code} {dC : Nat → ClassId} {dI : Nat → Nat → Nat} {dA : Nat → ClassId} {scr : Cell} {b sz0 : Nat} {adr aad : Nat → Nat → Nat} {H : Heap} {locs : List Loc} {cells slots : Nat} {Q : State → Prop} {lsM : Array Slot} {g : sg} {pc : Nat} {rest : List Value}
theorem nn_apart (hC : nnCX X M p R s m args meth c dC dI dA scr) {ci : Nat} (hN : ci < nn_N) : ∀ x y, x < nn_n ci → y < nn_n ci → x ≠ y → dI ci x ≠ dI ci y := by
  obtain ⟨hx, hb, hml, hown, hts, hK, -⟩ := hC
  intro x y hx hy hne
  obtain ⟨hS, -⟩ := hK.1 ci hN
  obtain ⟨_, _, _, fa, hia, ea⟩ := hS x hx
  obtain ⟨_, _, _, fb, hib, eb⟩ := hS y hy
  rw [← ea, ← eb]
  refine u_apart (u_lays hts (nn_lay ci hN) hx) (u_lays hts (nn_lay ci hN) hy) hia hib ?_
  rw [(State.fieldFound?_type hia (nn_fty ci hN x hx)).1, (State.fieldFound?_type hib (nn_fty ci hN y hy)).1]
  exact nn_dis ci hN x hx y hy hne
theorem nn_getf (hC : nnCX X M p R s m args meth c dC dI dA scr) (hR : nnRP dC dI dA adr aad b scr sz0 g H) {index f a : Nat} (hl : lkF (mY M).cls index f) (ha : a < gC g (f / 64)) (hd : decode (mB M) pc = .ok (.getfield index, 3))
    (kk : W p l e R s m args below meth c H locs cells slots Q (F0 m (pc + 3) lsM (fV adr aad g f a :: rest))) : W p l e R s m args below meth c H locs cells slots Q (F0 m pc lsM (.ref (adr (f / 64) a) :: rest)) := by
  obtain ⟨hx, hb, hml, hown, hts, hK, -⟩ := hC
  obtain ⟨⟨hN, hk⟩, hlk⟩ := hl
  obtain ⟨-, ⟨cell, q1, q2, q3, q4⟩, -⟩ := hR.1 _ _ ha
  obtain ⟨hS, hfc, kC, hkC, hkind⟩ := hK.1 _ hN
  obtain ⟨cf, kf, fi, fd, hi, hsl⟩ := hS _ hk
  have hst := (u_facts hfc hkC (u_lays hts (nn_lay _ hN) hk) hi).1
  have hv : cell.slots[fd.slot]? = some (fV adr aad g f a) := by
    rw [hsl, q4 _ hk]
    show some (fV adr aad g (64 * (f / 64) + f % 64) a) = _
    rw [Nat.div_add_mod]
  rcases hlk with hlk | ⟨h, hlk⟩
  · exact W.getf hx hb hown (hts _ hlk) hi hst q1 (by rw [q3]; exact fun z => by cases z) hv rfl rfl hd kk
  · exact va_Wgetf hx hb hown (va_Nw.use rfl (hK.2.2.2.1 _ hlk)) hi hst q1 (by rw [q3]; exact fun z => by cases z) hv rfl rfl hd kk
theorem nn_putf (hC : nnCX X M p R s m args meth c dC dI dA scr) (hR : nnRP dC dI dA adr aad b scr sz0 g H) {index f a : Nat} {v : Value} (hl : lkF (mY M).cls index f) (ha : a < gC g (f / 64)) (hw : (vwT (f / 64) (f % 64)).2.2.2 = false) (hn : narrow (fTy f) v = v) (hfit : fits (fTy f) v = true) (hd : decode (mB M) pc = .ok (.putfield index, 3))
    (kk : ∀ (H' : Heap) (cell : Cell), H[adr (f / 64) a]? = some cell → H'[adr (f / 64) a]? = some (cell.setSlot (dI (f / 64) (f % 64)) v) → H'.size = H.size → (∀ q, q ≠ adr (f / 64) a → H'[q]? = H[q]?) → W p l e R s m args below meth c H' (locs ++ [⟨adr (f / 64) a, dI (f / 64) (f % 64)⟩]) cells slots Q (F0 m (pc + 3) lsM rest)) :
    W p l e R s m args below meth c H locs cells slots Q (F0 m pc lsM (v :: .ref (adr (f / 64) a) :: rest)) := by
  obtain ⟨hx, hb, hml, hown, hts, hK, -⟩ := hC
  obtain ⟨⟨hN, hk⟩, hlk⟩ := hl
  obtain ⟨-, ⟨cell, q1, q2, q3, q4⟩, -⟩ := hR.1 _ _ ha
  obtain ⟨hS, hfc, kC, hkC, hkind⟩ := hK.1 _ hN
  obtain ⟨cf, kf, fi, fd, hi, hsl⟩ := hS _ hk
  have hst := (u_facts hfc hkC (u_lays hts (nn_lay _ hN) hk) hi).1
  have hlay := hts _ (nn_lay _ hN _ (u_in_lay hk))
  unfold u_lay at hlay
  rw [if_neg (by rw [hw]; decide)] at hlay
  have hty := nn_fty _ hN _ hk
  rw [Nat.div_add_mod] at hty
  have h6 := u_store hfc hkC hkind hlay hi hty hn hfit
  have hlt : fd.slot < cell.slots.size := by rw [hsl]; exact k2_hasslot (q4 _ hk)
  rcases hlk with hlk | ⟨h, hlk⟩
  · refine W.putK hx hb (f := fd) ⟨hown, hts _ hlk, ⟨_, _, _, hi⟩, hst⟩ (by rw [q2]; exact h6) q1 q3 hlt rfl rfl hd fun H' e1 e2 e3 => ?_
    rw [hsl] at e1 ⊢
    exact kk H' cell q1 e1 e2 e3
  · refine va_WputK hx hb (f := fd) hown (va_Nw.use rfl (hK.2.2.2.1 _ hlk)) hi hst (by rw [q2]; exact h6) q1 q3 hlt rfl rfl hd fun H' e1 e2 e3 => ?_
    rw [hsl] at e1 ⊢
    exact kk H' cell q1 e1 e2 e3
def wrF (M : mrec) (index f : Nat) : Prop := fOK f ∧ fLw (mY M).cls index f ∈ nn_ws ∧ (vwT (f / 64) (f % 64)).2.2.2 = true ∧ (mY M).name = "<init>" ∧ (mY M).cls = nn_nm (f / 64)
theorem nn_putF (hC : nnCX X M p R s m args meth c dC dI dA scr) (hR : nnRP dC dI dA adr aad b scr sz0 g H) {index f a : Nat} {v : Value} (hl : wrF M index f) (ha : a < gC g (f / 64)) (hn : narrow (fTy f) v = v) (hfit : fits (fTy f) v = true) (hd : decode (mB M) pc = .ok (.putfield index, 3))
    (kk : ∀ (H' : Heap) (cell : Cell), H[adr (f / 64) a]? = some cell → H'[adr (f / 64) a]? = some (cell.setSlot (dI (f / 64) (f % 64)) v) → H'.size = H.size → (∀ q, q ≠ adr (f / 64) a → H'[q]? = H[q]?) → W p l e R s m args below meth c H' (locs ++ [⟨adr (f / 64) a, dI (f / 64) (f % 64)⟩]) cells slots Q (F0 m (pc + 3) lsM rest)) :
    W p l e R s m args below meth c H locs cells slots Q (F0 m pc lsM (v :: .ref (adr (f / 64) a) :: rest)) := by
  obtain ⟨hx, hb, hml, hown, hts, hK, hnm, -⟩ := hC
  obtain ⟨⟨hN, hk⟩, hlk, hw, hini, hcl⟩ := hl
  obtain ⟨-, ⟨cell, q1, q2, q3, q4⟩, -⟩ := hR.1 _ _ ha
  obtain ⟨hS, hfc, kC, hkC, hkind⟩ := hK.1 _ hN
  obtain ⟨cf, kf, fi, fd, hi, hsl⟩ := hS _ hk
  have hst := (u_facts hfc hkC (u_lays hts (nn_lay _ hN) hk) hi).1
  have hlay := hts _ (nn_lay _ hN _ (u_in_lay hk))
  unfold u_lay at hlay
  rw [if_pos hw] at hlay
  have hcf : m.cls = cf := by
    obtain ⟨_, _, c', _, _, _, -, -, hf', -, -, -, hown2, -⟩ := Cond.laysFinal_spec hlay
    have e1 : c' = cf := by have := hi.symm.trans hf'; simp at this; exact this.1.symm
    have hown3 : s.vm.findClass (mY M).cls = some c' := by rw [hcl]; exact hown2
    rw [← e1]; exact Option.some.inj (hown.symm.trans hown3)
  have hty := nn_fty _ hN _ hk
  rw [Nat.div_add_mod] at hty
  have h6 := u_fits hfc hkC hkind (Or.inr hlay) hi hty hn hfit
  refine W.putFinK hx hb hown (hts _ hlk) hi hst hcf (hnm hini) (by rw [q2]; exact h6) q1 q3 (by rw [hsl]; exact k2_hasslot (q4 _ hk)) rfl rfl hd fun H' e1 e2 e3 => ?_
  rw [hsl] at e1 ⊢
  exact kk H' cell q1 e1 e2 e3
end HP
section RPU
variable {dC : Nat → ClassId} {dI : Nat → Nat → Nat} {dA : Nat → ClassId} {scr : Cell} {b sz0 : Nat} {adr aad : Nat → Nat → Nat} {H H' : Heap} {g : sg}
theorem rp_b (hR : nnRP dC dI dA adr aad b scr sz0 g H) {q : Nat} (hz : H'.size = H.size) (hq : sz0 ≤ q) (e3 : ∀ q', q' ≠ q → H'[q']? = H[q']?) : H'[b]? = some scr ∧ b < sz0 ∧ sz0 ≤ H'.size := by
  refine ⟨?_, hR.2.2.2.2.2.1, by rw [hz]; exact hR.2.2.2.2.2.2⟩
  rw [e3 b (fun z => by have := hR.2.2.2.2.2.1; omega)]
  exact hR.2.2.2.2.1
theorem rp_putI (hR : nnRP dC dI dA adr aad b scr sz0 g H) (hap : ∀ ci, ci < nn_N → ∀ x y, x < nn_n ci → y < nn_n ci → x ≠ y → dI ci x ≠ dI ci y) {f a : Nat} {x : Int32} {cell : Cell} (hf : fOK f) (ha : a < gC g (f / 64)) (hkd : (fkd f).1 = 0)
    (hc : H[adr (f / 64) a]? = some cell) (e1 : H'[adr (f / 64) a]? = some (cell.setSlot (dI (f / 64) (f % 64)) (.int x))) (hz : H'.size = H.size) (e3 : ∀ q, q ≠ adr (f / 64) a → H'[q]? = H[q]?) : nnRP dC dI dA adr aad b scr sz0 (pI g f a 0 x) H' := by
  have hff : 64 * (f / 64) + f % 64 = f := Nat.div_add_mod f 64
  refine ⟨rqO_put hR.1 hR.2.2.1.1 ha hf.2 (hap _ hf.1) hc e1 e3 ?_, rqA_keep hR.2.1 ?_ ?_, hR.2.2.1, hR.2.2.2.1, rp_b hR hz (hR.1 _ _ ha).2.2 e3⟩
  · intro f' a'
    rw [hff]
    by_cases h1 : f' = f ∧ a' = a
    · obtain ⟨rfl, rfl⟩ := h1
      simp [fV, hkd, gI_pI]
    · have e0 : gI (pI g f a 0 x) f' a' 0 = gI g f' a' 0 := by
        rw [gI_pI, if_neg (show ¬ (f' = f ∧ a' = a ∧ 0 = 0) from fun z => h1 ⟨z.1, z.2.1⟩)]
      rw [if_neg h1]
      unfold fV
      rw [e0]
      rfl
  · intro f' a' n hn
    exact e3 _ (fun z => hR.2.2.1.2.2 _ _ _ _ _ ha hn z.symm)
  · intro f' a' n j hn h2 hj
    have e0 : gI (pI g f a 0 x) f' a' j = gI g f' a' j := by
      rw [gI_pI, if_neg (show ¬ (f' = f ∧ a' = a ∧ j = 0) from ?_)]
      rintro ⟨rfl, -⟩
      omega
    unfold fE
    rw [e0]
    rfl
theorem rp_putR (hR : nnRP dC dI dA adr aad b scr sz0 g H) (hap : ∀ ci, ci < nn_N → ∀ x y, x < nn_n ci → y < nn_n ci → x ≠ y → dI ci x ≠ dI ci y) {f a : Nat} {o : Option Nat} {cell : Cell} (hf : fOK f) (ha : a < gC g (f / 64)) (hkd : (fkd f).1 = 1) (ho : ∀ c, o = some c → c < gC g (fkd f).2)
    (hc : H[adr (f / 64) a]? = some cell) (e1 : H'[adr (f / 64) a]? = some (cell.setSlot (dI (f / 64) (f % 64)) (va_rf (o.map (adr (fkd f).2))))) (hz : H'.size = H.size) (e3 : ∀ q, q ≠ adr (f / 64) a → H'[q]? = H[q]?) : nnRP dC dI dA adr aad b scr sz0 (pR g f a 0 o) H' := by
  have hff : 64 * (f / 64) + f % 64 = f := Nat.div_add_mod f 64
  refine ⟨rqO_put hR.1 hR.2.2.1.1 ha hf.2 (hap _ hf.1) hc e1 e3 ?_, rqA_keep hR.2.1 ?_ ?_, hR.2.2.1, ?_, rp_b hR hz (hR.1 _ _ ha).2.2 e3⟩
  · intro f' a'
    rw [hff]
    by_cases h1 : f' = f ∧ a' = a
    · obtain ⟨rfl, rfl⟩ := h1
      simp [fV, hkd, gR_pR]
    · have e0 : gR (pR g f a 0 o) f' a' 0 = gR g f' a' 0 := by
        rw [gR_pR, if_neg (show ¬ (f' = f ∧ a' = a ∧ 0 = 0) from fun z => h1 ⟨z.1, z.2.1⟩)]
      rw [if_neg h1]
      unfold fV
      rw [e0]
      rfl
  · intro f' a' n hn
    exact e3 _ (fun z => hR.2.2.1.2.2 _ _ _ _ _ ha hn z.symm)
  · intro f' a' n j hn h2 hj
    have e0 : gR (pR g f a 0 o) f' a' j = gR g f' a' j := by
      rw [gR_pR, if_neg (show ¬ (f' = f ∧ a' = a ∧ j = 0) from ?_)]
      rintro ⟨rfl, -⟩
      omega
    unfold fE
    rw [e0]
    rfl
  · intro f' a' j c hh
    rw [gR_pR] at hh
    rw [gC_pR]
    split at hh
    · rename_i hz
      rw [hz.1]
      exact ho c hh
    · exact hR.2.2.2.1 f' a' j c hh
theorem rp_astI (hR : nnRP dC dI dA adr aad b scr sz0 g H) {f a n i : Nat} {x : Int32} (hn : gA g f a = some n) (hkd : (fkd f).1 = 2)
    (e1 : H'[aad f a]? = some ((arrV (dA (tcd f)) n (fE adr g f a)).setSlot i (.int x))) (hz : H'.size = H.size) (e3 : ∀ q, q ≠ aad f a → H'[q]? = H[q]?) : nnRP dC dI dA adr aad b scr sz0 (pI g f a i x) H' := by
  obtain ⟨h1, h2, h3, h4, h5⟩ := hR.2.1 f a n hn
  refine ⟨rqO_keep hR.1 ?_ ?_, rqA_put hR.2.1 hR.2.2.1.2.1 hn e1 e3 ?_, hR.2.2.1, hR.2.2.2.1, rp_b hR hz h5 e3⟩
  · intro ci c hc
    exact e3 _ (hR.2.2.1.2.2 _ _ _ _ _ hc hn)
  · intro ci c k hc hk
    unfold fV
    rw [gI_pI, gR_pI, gA_pI]
    by_cases hz : 64 * ci + k = f ∧ c = a ∧ 0 = i
    · rw [hz.1, hkd]
      simp
    · rw [if_neg hz]
  · intro f' a' j
    unfold fE
    rw [gI_pI, gR_pI]
    by_cases hz : f' = f ∧ a' = a ∧ j = i
    · rw [if_pos hz, if_pos hz, hz.1, hkd]
      simp
    · rw [if_neg hz, if_neg hz]
theorem rp_astR (hR : nnRP dC dI dA adr aad b scr sz0 g H) {f a n i : Nat} {o : Option Nat} (hn : gA g f a = some n) (hkd : (fkd f).1 = 3) (ho : ∀ c, o = some c → c < gC g (fkd f).2)
    (e1 : H'[aad f a]? = some ((arrV (dA (tcd f)) n (fE adr g f a)).setSlot i (va_rf (o.map (adr (fkd f).2))))) (hz : H'.size = H.size) (e3 : ∀ q, q ≠ aad f a → H'[q]? = H[q]?) : nnRP dC dI dA adr aad b scr sz0 (pR g f a i o) H' := by
  obtain ⟨h1, h2, h3, h4, h5⟩ := hR.2.1 f a n hn
  refine ⟨rqO_keep hR.1 ?_ ?_, rqA_put hR.2.1 hR.2.2.1.2.1 hn e1 e3 ?_, hR.2.2.1, ?_, rp_b hR hz h5 e3⟩
  · intro ci c hc
    exact e3 _ (hR.2.2.1.2.2 _ _ _ _ _ hc hn)
  · intro ci c k hc hk
    unfold fV
    rw [gI_pR, gR_pR, gA_pR]
    by_cases hz : 64 * ci + k = f ∧ c = a ∧ 0 = i
    · rw [hz.1, hkd]
      simp
    · rw [if_neg hz]
  · intro f' a' j
    unfold fE
    rw [gI_pR, gR_pR]
    by_cases hz : f' = f ∧ a' = a ∧ j = i
    · rw [if_pos hz, if_pos hz, hz.1, hkd]
      simp
    · rw [if_neg hz, if_neg hz]
  · intro f' a' j c hh
    rw [gR_pR] at hh
    rw [gC_pR]
    split at hh
    · rename_i hz
      rw [hz.1]
      exact ho c hh
    · exact hR.2.2.2.1 f' a' j c hh
theorem rp_lt (hR : nnRP dC dI dA adr aad b scr sz0 g H) {ci a : Nat} (ha : a < gC g ci) : adr ci a < H.size := by
  obtain ⟨-, ⟨cell, q1, -⟩, -⟩ := hR.1 ci a ha
  exact (Array.getElem?_eq_some_iff.mp q1).1
theorem rp_ltA (hR : nnRP dC dI dA adr aad b scr sz0 g H) {f a n : Nat} (hn : gA g f a = some n) : aad f a < H.size := (Array.getElem?_eq_some_iff.mp (hR.2.1 f a n hn).2.2.2.1).1
theorem rp_new (hR : nnRP dC dI dA adr aad b scr sz0 g H) {ci : Nat} {adr' : Nat → Nat → Nat} (hnw : adr' ci (gC g ci) = H.size) (hod : ∀ c a, ¬ (c = ci ∧ a = gC g ci) → adr' c a = adr c a) (hN : ci < nn_N) (hob : t_OB H.size (dC ci) (nn_n ci) (dI ci) H' (fun k => defaultValue (fTy (64 * ci + k)))) (hz : H'.size = H.size + 1) (e3 : ∀ q, q < H.size → H'[q]? = H[q]?) :
    nnRP dC dI dA adr' aad b scr sz0 (pN g ci) H' ∧ nnEX adr aad adr' aad g (pN g ci) := by
  have hsz := hR.2.2.2.2.2.2
  have hold : ∀ c a, a < gC g c → adr' c a = adr c a := fun c a ha => hod c a fun z => by
    obtain ⟨rfl, rfl⟩ := z
    exact Nat.lt_irrefl _ ha
  have hcnt : ∀ c a, a < gC (pN g ci) c → (c = ci ∧ a = gC g ci) ∨ a < gC g c := by
    intro c a ha
    rw [gC_pN] at ha
    split at ha
    · rename_i hc
      subst hc
      omega
    · exact Or.inr ha
  have hlen : ∀ f a n, gA (pN g ci) f a = some n → gA g f a = some n := by
    intro f a n hn
    rw [gA_pN] at hn
    split at hn
    · cases hn
    · exact hn
  have hmap : ∀ f a j, (gR (pN g ci) f a j).map (adr' (fkd f).2) = (gR (pN g ci) f a j).map (adr (fkd f).2) := by
    intro f a j
    rw [gR_pN]
    split
    · rfl
    · cases hr : gR g f a j with
      | none => rfl
      | some d => exact congrArg some (hold _ d (hR.2.2.2.1 f a j d hr))
  have hcle : ∀ c, gC g c ≤ gC (pN g ci) c := fun c => by rw [gC_pN]; split <;> omega
  refine ⟨⟨?_, ?_, ⟨?_, ?_, ?_⟩, ?_, ?_, hR.2.2.2.2.2.1, by omega⟩, hcle, hold, ?_⟩
  · intro c a ha
    rcases hcnt c a ha with ⟨rfl, rfl⟩ | ha'
    · refine ⟨hN, ?_, by rw [hnw]; exact hsz⟩
      rw [hnw]
      refine hob.to fun k hk => ?_
      have hd : (64 * c + k) / 64 = c := fdiv (Nat.lt_of_lt_of_le hk (nn_n64 c hN))
      have hm : (64 * c + k) % 64 = k := by have := nn_n64 c hN; omega
      show defaultValue (fTy (64 * c + k)) = fV adr' aad (pN g c) (64 * c + k) (gC g c)
      have i0 : gI (pN g c) (64 * c + k) (gC g c) 0 = 0 := by rw [gI_pN, if_pos ⟨hd, rfl⟩]
      have r0 : gR (pN g c) (64 * c + k) (gC g c) 0 = none := by rw [gR_pN, if_pos ⟨hd, rfl⟩]
      have a0 : gA (pN g c) (64 * c + k) (gC g c) = none := by rw [gA_pN, if_pos ⟨hd, rfl⟩]
      unfold fV fTy
      rw [i0, r0, a0]
      have hk0 := nn_k0 c hN k hk
      generalize fkd (64 * c + k) = q at hk0 ⊢
      obtain ⟨q1, q2⟩ := q
      dsimp only at hk0 ⊢
      by_cases h0 : q1 = 0
      · rw [if_pos h0, if_pos h0]
        have := hk0 h0
        rcases (show q2 = 0 ∨ q2 = 1 ∨ q2 = 2 by omega) with rfl | rfl | rfl <;> rfl
      · rw [if_neg h0, if_neg h0]
        by_cases h1 : q1 = 1
        · rw [if_pos h1, if_pos h1]; rfl
        · rw [if_neg h1, if_neg h1]
          by_cases h2 : q1 = 2
          · rw [if_pos h2]; rfl
          · rw [if_neg h2]; rfl
    · obtain ⟨h1, h2, h3⟩ := hR.1 c a ha'
      refine ⟨h1, ?_, by rw [hold c a ha']; exact h3⟩
      rw [hold c a ha']
      refine (h2.kept (e3 _ (rp_lt hR ha'))).to fun k hk => ?_
      have hd : (64 * c + k) / 64 = c := fdiv (Nat.lt_of_lt_of_le hk (nn_n64 c h1))
      have hne : ¬ ((64 * c + k) / 64 = ci ∧ a = gC g ci) := fun z => by
        obtain ⟨z1, z2⟩ := z
        rw [hd] at z1
        subst z1 z2
        exact Nat.lt_irrefl _ ha'
      show fV adr aad g (64 * c + k) a = fV adr' aad (pN g ci) (64 * c + k) a
      unfold fV
      rw [hmap, gI_pN, gR_pN, gA_pN, if_neg hne, if_neg hne, if_neg hne]
  · intro f a n hn
    have hn' := hlen f a n hn
    obtain ⟨h1, h2, h3, h4, h5⟩ := hR.2.1 f a n hn'
    refine ⟨Nat.lt_of_lt_of_le h1 (hcle _), h2, h3, ?_, h5⟩
    rw [e3 _ (rp_ltA hR hn'), h4]
    refine congrArg some (arrV_congr fun j hj => ?_)
    have hne : ¬ (f / 64 = ci ∧ a = gC g ci) := fun z => by
      rw [gA_pN, if_pos z] at hn
      cases hn
    unfold fE
    rw [hmap, gI_pN, gR_pN, if_neg hne, if_neg hne]
  · intro c a c' a' ha ha' hq
    rcases hcnt c a ha with ⟨rfl, rfl⟩ | h1 <;> rcases hcnt c' a' ha' with ⟨rfl, rfl⟩ | h2
    · exact ⟨rfl, rfl⟩
    · rw [hnw, hold c' a' h2] at hq
      have := rp_lt hR h2
      omega
    · rw [hold c a h1, hnw] at hq
      have := rp_lt hR h1
      omega
    · rw [hold c a h1, hold c' a' h2] at hq
      exact hR.2.2.1.1 c a c' a' h1 h2 hq
  · intro f a n f' a' n' hn hn' hq
    exact hR.2.2.1.2.1 f a n f' a' n' (hlen _ _ _ hn) (hlen _ _ _ hn') hq
  · intro c a f a' n ha hn
    have hn' := hlen _ _ _ hn
    rcases hcnt c a ha with ⟨rfl, rfl⟩ | h1
    · rw [hnw]
      have := rp_ltA hR hn'
      omega
    · rw [hold c a h1]
      exact hR.2.2.1.2.2 c a f a' n h1 hn'
  · intro f a j d hd
    rw [gR_pN] at hd
    split at hd
    · cases hd
    · exact Nat.lt_of_lt_of_le (hR.2.2.2.1 f a j d hd) (hcle _)
  · rw [e3 b (by have := hR.2.2.2.2.2.1; omega)]
    exact hR.2.2.2.2.1
  · intro f a n hn
    refine ⟨?_, rfl⟩
    rw [gA_pN, if_neg]
    · exact hn
    · rintro ⟨z1, z2⟩
      have := (hR.2.1 f a n hn).1
      rw [z1, z2] at this
      exact Nat.lt_irrefl _ this
theorem rp_att (hR : nnRP dC dI dA adr aad b scr sz0 g H) (hap : ∀ ci, ci < nn_N → ∀ x y, x < nn_n ci → y < nn_n ci → x ≠ y → dI ci x ≠ dI ci y) {f a n : Nat} {cell : Cell} {aad' : Nat → Nat → Nat} (hnw : aad' f a = H.size) (hod : ∀ f' a', ¬ (f' = f ∧ a' = a) → aad' f' a' = aad f' a') (hf : fOK f) (ha : a < gC g (f / 64)) (hno : gA g f a = none) (hkd : 2 ≤ (fkd f).1) (htc : tcd f ∈ nn_tc)
    {H1 : Heap} (hnew : H1[H.size]? = some (arrV (dA (tcd f)) n (fun _ => if (fkd f).1 = 3 then Value.null else .int 0))) (hz1 : H1.size = H.size + 1) (e2 : ∀ q, q < H.size → H1[q]? = H[q]?)
    (hc : H1[adr (f / 64) a]? = some cell) (e1 : H'[adr (f / 64) a]? = some (cell.setSlot (dI (f / 64) (f % 64)) (.ref H.size))) (hz2 : H'.size = H1.size) (e3 : ∀ q, q ≠ adr (f / 64) a → H'[q]? = H1[q]?) :
    nnRP dC dI dA adr aad' b scr sz0 (pA g f a n) H' ∧ nnEX adr aad adr aad' g (pA g f a n) := by
  have hsz := hR.2.2.2.2.2.2
  have hff : 64 * (f / 64) + f % 64 = f := Nat.div_add_mod f 64
  have hlen : ∀ f' a' n', gA (pA g f a n) f' a' = some n' → (f' = f ∧ a' = a ∧ n' = n) ∨ (¬ (f' = f ∧ a' = a) ∧ gA g f' a' = some n') := by
    intro f' a' n' hn
    rw [gA_pA] at hn
    split at hn
    · rename_i hz
      cases hn
      exact Or.inl ⟨hz.1, hz.2, rfl⟩
    · rename_i hz
      exact Or.inr ⟨hz, hn⟩
  have hO1 : rqO dC dI adr sz0 (gC g) (fV adr aad g) H1 := rqO_keep hR.1 (fun ci c hc => e2 _ (rp_lt hR hc)) (fun _ _ _ _ _ => rfl)
  have hne : adr (f / 64) a ≠ H.size := Nat.ne_of_lt (rp_lt hR ha)
  refine ⟨⟨rqO_put hO1 hR.2.2.1.1 ha hf.2 (hap _ hf.1) hc e1 e3 ?_, ?_, ⟨hR.2.2.1.1, ?_, ?_⟩, ?_, ?_, hR.2.2.2.2.2.1, by omega⟩, fun _ => Nat.le_refl _, fun _ _ _ => rfl, ?_⟩
  · intro f' a'
    rw [hff]
    by_cases h1 : f' = f ∧ a' = a
    · obtain ⟨rfl, rfl⟩ := h1
      have k0 : ¬ (fkd f').1 = 0 := by omega
      have k1 : ¬ (fkd f').1 = 1 := by omega
      simp [fV, k0, k1, gA_pA, hnw]
    · rw [if_neg h1]
      unfold fV
      rw [gI_pA, gR_pA, gA_pA, if_neg h1, if_neg h1, if_neg h1, hod _ _ h1]
  · intro f' a' n' hn
    rcases hlen f' a' n' hn with ⟨rfl, rfl, rfl⟩ | ⟨hz, hn'⟩
    · refine ⟨ha, hkd, htc, ?_, by rw [hnw]; exact hsz⟩
      rw [hnw, e3 _ (Ne.symm hne), hnew]
      refine congrArg some (arrV_congr fun j hj => ?_)
      simp [fE, gI_pA, gR_pA, va_rf]
    · obtain ⟨h1, h2, h3, h4, h5⟩ := hR.2.1 f' a' n' hn'
      refine ⟨h1, h2, h3, ?_, by rw [hod _ _ hz]; exact h5⟩
      rw [hod _ _ hz, e3 _ (fun z => hR.2.2.1.2.2 _ _ _ _ _ ha hn' z.symm), e2 _ (rp_ltA hR hn'), h4]
      refine congrArg some (arrV_congr fun j hj => ?_)
      unfold fE
      rw [gI_pA, gR_pA, if_neg hz, if_neg hz]
  · intro f1 a1 n1 f2 a2 n2 h1 h2 hq
    rcases hlen _ _ _ h1 with ⟨rfl, rfl, rfl⟩ | ⟨hz1, h1'⟩ <;> rcases hlen _ _ _ h2 with ⟨rfl, rfl, rfl⟩ | ⟨hz2, h2'⟩
    · exact ⟨rfl, rfl⟩
    · rw [hnw, hod _ _ hz2] at hq
      have := rp_ltA hR h2'
      omega
    · rw [hod _ _ hz1, hnw] at hq
      have := rp_ltA hR h1'
      omega
    · rw [hod _ _ hz1, hod _ _ hz2] at hq
      exact hR.2.2.1.2.1 _ _ _ _ _ _ h1' h2' hq
  · intro ci c f' a' n' hc' hn
    rcases hlen _ _ _ hn with ⟨rfl, rfl, rfl⟩ | ⟨hz, hn'⟩
    · rw [hnw]
      exact Nat.ne_of_lt (rp_lt hR hc')
    · rw [hod _ _ hz]
      exact hR.2.2.1.2.2 _ _ _ _ _ hc' hn'
  · intro f' a' j d hd
    rw [gR_pA] at hd
    split at hd
    · cases hd
    · exact hR.2.2.2.1 f' a' j d hd
  · have hb := hR.2.2.2.2.2.1
    rw [e3 b (fun z => by have := (hR.1 _ _ ha).2.2; omega), e2 b (by omega)]
    exact hR.2.2.2.2.1
  · intro f' a' n' hn
    have hz : ¬ (f' = f ∧ a' = a) := by
      rintro ⟨rfl, rfl⟩
      rw [hno] at hn
      cases hn
    exact ⟨by rw [gA_pA, if_neg hz]; exact hn, hod _ _ hz⟩
end RPU
