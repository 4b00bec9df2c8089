/-- what leaves the entries alone -/
def ePr (g g' : sg) (u v : MS) : Prop := (∀ k, 92 ≤ k → k ≤ 100 → v k = u k) ∧ (∀ f, f / 64 = 2 ∨ f / 64 = 8 → gI g' f = gI g f ∧ gR g' f = gR g f) ∧ pkS g g' ∧ v 67 = u 67
theorem ePr.rf {g : sg} {u : MS} : ePr g g u u := ⟨fun _ _ _ => rfl, fun _ _ => ⟨rfl, rfl⟩, pkS.rf, rfl⟩
theorem ePr.tr {g g1 g2 : sg} {u u1 u2 : MS} (h : ePr g g1 u u1) (k : ePr g1 g2 u1 u2) : ePr g g2 u u2 := ⟨fun f a b => (k.1 f a b).trans (h.1 f a b), fun f hf => ⟨(k.2.1 f hf).1.trans (h.2.1 f hf).1, (k.2.1 f hf).2.trans (h.2.1 f hf).2⟩, h.2.2.1.tr k.2.2.1, k.2.2.2.trans h.2.2.2⟩
theorem ePr.en {N P i c : Nat} {ε : Nat → Nat} {g g' : sg} {u v : MS} (h : ePr g g' u v) (he : rEn N P i c ε g u) : rEn N P i c ε g' v := by
  obtain ⟨a, b, -, -⟩ := h
  unfold rEn enf at he ⊢
  rw [(b 513 (by omega)).1, a 92 (by omega) (by omega)]
  simp only [(b 512 (by omega)).2, (b 128 (by omega)).1, (b 129 (by omega)).1, (b 130 (by omega)).1, (b 131 (by omega)).1, (b 132 (by omega)).1, (b 133 (by omega)).1, (b 134 (by omega)).1, a 93 (by omega) (by omega), a 94 (by omega) (by omega), a 95 (by omega) (by omega), a 96 (by omega) (by omega), a 97 (by omega) (by omega), a 98 (by omega) (by omega), a 99 (by omega) (by omega), a 100 (by omega) (by omega)]
  exact he
theorem ePr_sh {g : sg} {u : MS} {i c x : Nat} : ePr g (shG g i c x c) u (shU u i c x c) := by
  refine ⟨fun k h1 h2 => ?_, fun f hf => ⟨?_, ?_⟩, ⟨Nat.le_refl _, fun f p k hf _ => ?_⟩, rfl⟩
  · funext y
    unfold shU
    rw [if_neg (by omega), if_neg (by omega)]
  · funext a k
    show (if f = 770 ∧ a = i ∧ k = 0 then nI c else if f = 769 ∧ a = i ∧ x ≤ k ∧ k < c then g.2.1 f a (k + 1) else g.2.1 f a k) = _
    rw [if_neg (by omega), if_neg (by omega)]; rfl
  · funext a k
    show (if f = 768 ∧ a = i ∧ x ≤ k ∧ k < c then g.2.2.1 f a (k + 1) else g.2.2.1 f a k) = _
    rw [if_neg (by omega)]; rfl
  · show (if f = 770 ∧ p = i ∧ k = 0 then nI c else if f = 769 ∧ p = i ∧ x ≤ k ∧ k < c then g.2.1 f p (k + 1) else g.2.1 f p k) = _
    rw [if_neg (by omega), if_neg (by omega)]; rfl
theorem ePr_en {g : sg} {u : MS} {i c p : Nat} {x y w t : Int32} : ePr g (plG g i c p t) u (enU u i c x y w t) := by
  refine ⟨fun k h1 h2 => ?_, fun f hf => ⟨?_, ?_⟩, ⟨Nat.le_refl _, fun f p k hf _ => ?_⟩, rfl⟩
  · funext y
    rw [enU_at, if_neg (by omega), if_neg (by omega), if_neg (by omega), if_neg (by omega), if_neg (by omega)]
  · funext a k
    unfold plG
    rw [gI_pI, if_neg (by omega), gI_pI, if_neg (by omega), gI_pR]
  · funext a k
    unfold plG
    rw [gR_pI, gR_pI, gR_pR, if_neg (by omega)]
  · unfold plG
    rw [gI_pI, if_neg (by omega), gI_pI, if_neg (by omega), gI_pR]
theorem rSn.pl {N S i c : Nat} {g : sg} {u : MS} (h : rSn N S i c g u) : ∀ j, j < c → ∃ p, gR g 768 i j = some p ∧ gI g 449 p 0 = u 85 (6 * i + j) := by
  intro j hj
  obtain ⟨⟨p, p1, p2⟩, -⟩ := h.2.2.2.1 j hj
  exact ⟨p, p1, p2.2.2.1⟩
def keepU (u : MS) (i : Nat) (x y w : Int32) : MS := if u 64 0 = 0 then u else if plF u i (u 84 i).toNatClampNeg x = -1 then (if u 84 i = u 64 0 then enU (shU u i ((u 84 i).toNatClampNeg - 1) 0 ((u 84 i).toNatClampNeg - 1)) i ((u 84 i).toNatClampNeg - 1) x y w (u 67 0 + w) else enU u i (u 84 i).toNatClampNeg x y w (u 67 0 + w)) else enU (shU u i ((u 84 i).toNatClampNeg - 1) (plF u i (u 84 i).toNatClampNeg x).toNatClampNeg ((u 84 i).toNatClampNeg - 1)) i ((u 84 i).toNatClampNeg - 1) x y w (u 67 0 + w)
theorem keep_p {S P N R Q i p : Nat} {g : sg} {u : MS} {x y w : Int32} (h : rl9 S P N R Q g u) (hi : i < 5) (hp : dtv N g p x y w) :
    (∃ g0, rl9 S P N R Q g0 (keepU u i x y w) ∧ ePr g g0 u (keepU u i x y w)) ∧ (∀ Z : MS → Prop, Z (keepU u i x y w) → mMT M_Mod_keep [qr 1 (some 0), qi (nI i), qi x, qi y, qi w] u (mV Z)) ∧ ∀ (X : Nat × (Nat → Int32)) (Z : sg → Prop), (∀ g', rl9 S P N R Q g' (keepU u i x y w) → ePr g g' u (keepU u i x y w) → Z g') → nnMT X M_Store_keep 0 [qr 12 (some i), qr 7 (some p), qi (u 67 0 + w)] g (zV Z) := by
  have hSS := h.2.2.2.2.2.2.1
  obtain ⟨hS6, h64, hst⟩ := hSS
  obtain ⟨c, hc⟩ := hst i hi
  have hsn : rSn N S i c g u := hc
  obtain ⟨hcS, h770, h84, hc4, hc5⟩ := hc
  have hA := (h.1.2.2.1 i hi).2.2.1
  have hA2 := (h.1.2.2.1 i hi).2.2.2.1
  have hnm : gI g 449 p 0 = x := hp.2.2.1
  by_cases hS0 : S = 0
  · subst hS0
    have c0 : c = 0 := by omega
    have eK : keepU u i x y w = u := if_pos h64
    rw [eK]
    refine ⟨⟨g, h, ePr.rf⟩, fun Z hZ => mt_Mod_keep ⟨fun q => absurd h64 q, fun _ => hZ⟩, fun X Z hZ => t_Store_keep ⟨p, rfl, ?_⟩⟩
    rw [hnm]
    refine c_Store_placeOf (N := N) hi hcS hS6 hA h770 hsn.pl fun _ => ⟨fun _ => ⟨fun _ => ?_, fun q => ?_⟩, fun q => ?_⟩
    · refine t_Store_putLast ⟨0, hA, fun _ _ => hZ g h ePr.rf, fun q => ?_⟩
      rw [h770, c0] at q
      exact absurd (by decide) q
    · rw [h770, c0] at q
      exact absurd (by decide) q
    · subst c0
      exact absurd rfl q
  have h64n : ¬ u 64 0 = 0 := by rw [h64, nl_0, nI_eq (by omega) (by omega)]; exact hS0
  rcases fst_cases (fun j => decide (u 85 (6 * i + j) = x)) c 0 with ⟨e, hno⟩ | ⟨j, -, hj, hjx, -, e⟩
  · have hno' : ∀ j, j < c → u 85 (6 * i + j) ≠ x := by
      intro j hj
      have := hno j (Nat.zero_le _) (by omega)
      simpa using this
    have e1 : plF u i c x = -1 := e
    by_cases hcs : c = S
    · obtain ⟨c', rfl⟩ : ∃ c', c = c' + 1 := ⟨c - 1, by omega⟩
      have hl1 := rl_sh h hi hsn (Nat.zero_le c')
      have hs1 := rSn_sh hsn (Nat.zero_le c')
      have hno2 : ∀ j, j < c' → shU u i c' 0 c' 85 (6 * i + j) ≠ x := by
        intro j hj
        rw [shU_in (by omega) (by omega) hj]
        exact hno' _ (by split <;> omega)
      have hl2 := rl_en (t := u 67 0 + w) hl1 hi hs1.1 (by omega) hp hno2
      have eK : keepU u i x y w = enU (shU u i c' 0 c') i c' x y w (u 67 0 + w) := by
        unfold keepU
        rw [if_neg h64n, h84, h64, nI_clamp (by omega), if_pos e1, if_pos (by rw [hcs])]
        rfl
      rw [eK]
      refine ⟨⟨_, hl2, ePr_sh.tr ePr_en⟩, fun Z hZ => mt_Mod_keep ⟨fun _ => c_Mod_inStore hi (by omega) h84 ?_, fun q => absurd q h64n⟩, fun X Z hZ => t_Store_keep ⟨p, rfl, ?_⟩⟩
      · rw [e1, show stA (-1) i = -1 from if_pos rfl, nI_clamp (show i < 2 ^ 31 by omega), h84, h64]
        refine ⟨fun _ => ⟨(vpi (by omega)).mpr hi, fun q => absurd (by rw [hcs]) q, fun _ => ?_⟩, fun q => absurd (by decide) q⟩
        rw [show (6 : Int32) * nI i = nI (6 * i + 0) by rw [nl_6, pk_mul]; rfl]
        exact c_Mod_shiftStore hi (by omega) (Nat.zero_le _) h84 (c_Mod_enterStore hi (by omega) (if_pos ⟨rfl, rfl⟩) hZ)
      · rw [hnm]
        refine c_Store_placeOf (N := N) hi hcS hS6 hA h770 hsn.pl fun _ => ?_
        rw [e1, h770]
        refine ⟨fun _ => ⟨fun q => absurd q (nI_nle (by omega) (by omega)), fun _ => ⟨S, hA, fun q => absurd (by rw [hcs]) q, fun _ => ?_⟩⟩, fun q => absurd rfl q⟩
        exact c_Store_takeOut (x := 0) hS6 (by omega) (Nat.zero_le _) hA hA2 h770 fun _ => c_Store_putLast hS6 (by omega) hA hA2 (if_pos ⟨rfl, rfl, rfl⟩) fun _ => hZ _ hl2 (ePr_sh.tr ePr_en)
    · have hl2 := rl_en (t := u 67 0 + w) h hi hsn (by omega) hp hno'
      have eK : keepU u i x y w = enU u i c x y w (u 67 0 + w) := by
        unfold keepU
        rw [if_neg h64n, h84, h64, nI_clamp (by omega), if_pos e1, if_neg (by rw [nI_eq (by omega) (by omega)]; exact hcs)]
      rw [eK]
      refine ⟨⟨_, hl2, ePr_en⟩, fun Z hZ => mt_Mod_keep ⟨fun _ => c_Mod_inStore hi (by omega) h84 ?_, fun q => absurd q h64n⟩, fun X Z hZ => t_Store_keep ⟨p, rfl, ?_⟩⟩
      · rw [e1, show stA (-1) i = -1 from if_pos rfl, nI_clamp (show i < 2 ^ 31 by omega), h84, h64]
        refine ⟨fun _ => ⟨(vpi (by omega)).mpr hi, fun _ => c_Mod_enterStore hi (by omega) h84 hZ, fun q => ?_⟩, fun q => absurd (by decide) q⟩
        rw [nI_eq (by omega) (by omega)] at q
        exact absurd q hcs
      · rw [hnm]
        refine c_Store_placeOf (N := N) hi hcS hS6 hA h770 hsn.pl fun _ => ?_
        rw [e1, h770]
        have hput : nnMT X M_Store_putLast 0 [qr 12 (some i), qr 7 (some p), qi (u 67 0 + w)] g (zV fun g2 => gExt g g2 → Z g2) := c_Store_putLast hS6 (by omega) hA hA2 h770 fun _ => hZ _ hl2 ePr_en
        refine ⟨fun _ => ⟨fun _ => hput, fun _ => ⟨S, hA, fun _ => hput, fun q => ?_⟩⟩, fun q => absurd rfl q⟩
        rw [nI_eq (by omega) (by omega)] at q
        exact absurd q hcs
  · have hjc : j < c := by omega
    simp only [decide_eq_true_eq] at hjx
    obtain ⟨c', rfl⟩ : ∃ c', c = c' + 1 := ⟨c - 1, by omega⟩
    have e1 : plF u i (c' + 1) x = nI j := e
    have hl1 := rl_sh h hi hsn (show j ≤ c' by omega)
    have hs1 := rSn_sh hsn (show j ≤ c' by omega)
    rw [hjx] at hs1
    have hl2 := rl_en (t := u 67 0 + w) hl1 hi hs1.1 (by omega) hp hs1.2
    have eK : keepU u i x y w = enU (shU u i c' j c') i c' x y w (u 67 0 + w) := by
      unfold keepU
      rw [if_neg h64n, h84, h64, nI_clamp (by omega), e1, if_neg (nI_m1 (by omega)), nI_clamp (by omega)]
      rfl
    rw [eK]
    refine ⟨⟨_, hl2, ePr_sh.tr ePr_en⟩, fun Z hZ => mt_Mod_keep ⟨fun _ => c_Mod_inStore hi (by omega) h84 ?_, fun q => absurd q h64n⟩, fun X Z hZ => t_Store_keep ⟨p, rfl, ?_⟩⟩
    · rw [e1, show stA (nI j) i = nI (6 * i + j) by unfold stA; rw [if_neg (nI_m1 (by omega)), nI_add, Nat.add_comm]]
      exact ⟨fun q => absurd q (nI_pos (by omega)), fun _ => c_Mod_shiftStore hi (by omega) (by omega) h84 (c_Mod_enterStore hi (by omega) (if_pos ⟨rfl, rfl⟩) hZ)⟩
    · rw [hnm]
      refine c_Store_placeOf (N := N) hi hcS hS6 hA h770 hsn.pl fun _ => ?_
      rw [e1]
      refine ⟨fun q => absurd q (nI_m1 (by omega)), fun _ => c_Store_takeOut hS6 (by omega) (by omega) hA hA2 h770 fun _ => ?_⟩
      have e770 : gI (shG g i c' j c') 770 i 0 = nI c' := if_pos ⟨rfl, rfl, rfl⟩
      have hput : nnMT X M_Store_putLast 0 [qr 12 (some i), qr 7 (some p), qi (u 67 0 + w)] (shG g i c' j c') (zV fun g2 => gExt (shG g i c' j c') g2 → Z g2) := c_Store_putLast hS6 (by omega) hA hA2 e770 fun _ => hZ _ hl2 (ePr_sh.tr ePr_en)
      rw [e770]
      refine ⟨fun _ => hput, fun _ => ⟨S, hA, fun _ => hput, fun q => ?_⟩⟩
      rw [nI_eq (by omega) (by omega)] at q
      omega
/-- what a store serves -/
def fit (u : MS) (i n f j : Nat) : Bool := anF u (u 85 (6 * i + j)).toNatClampNeg n f && (decide (f < 2) || !decide (u 88 (6 * i + j) ≤ u 67 0))
def svF (u : MS) (i n f : Nat) : Nat → Option Nat
  | 0 => none
  | j + 1 => match svF u i n f j with
    | none => if fit u i n f j = true then some j else none
    | some b => if fit u i n f j = true ∧ ¬ u 85 (6 * i + b) ≤ u 85 (6 * i + j) then some j else some b
theorem svF_b {u : MS} {i n f : Nat} : ∀ j b, svF u i n f j = some b → b < j
  | 0, b, h => by cases h
  | j + 1, b, h => by
    unfold svF at h
    cases hb : svF u i n f j with
    | none =>
      rw [hb] at h
      dsimp only at h
      split at h
      · cases h; omega
      · cases h
    | some b' =>
      rw [hb] at h
      dsimp only at h
      have := svF_b j b' hb
      split at h
      · cases h; omega
      · cases h; omega
def sevU (u : MS) (i b : Nat) : MS := enU (shU u i ((u 84 i).toNatClampNeg - 1) b ((u 84 i).toNatClampNeg - 1)) i ((u 84 i).toNatClampNeg - 1) (u 85 (6 * i + b)) (u 86 (6 * i + b)) (u 87 (6 * i + b)) (u 88 (6 * i + b))
def sevE (u : MS) (i : Nat) : Nat := 6 * i + ((u 84 i).toNatClampNeg - 1)
theorem serve_p {S P N R Q i n f a : Nat} {g : sg} {u : MS} (h : rl9 S P N R Q g u) (hi : i < 5) (hn : n < N) (hf : f < 4) (ha1 : gI g 449 a 0 = nI n) (ha2 : gI g 450 a 0 = nI f) :
    (svF u i n f (u 84 i).toNatClampNeg = none → (∀ Z : Int32 → MS → Prop, Z (-1) u → mMT M_Mod_served [qr 1 (some 0), qi (nI i), qi (nI n), qi (nI f)] u (mI Z)) ∧ ∀ (X : Nat × (Nat → Int32)) (Z : Option Nat → sg → Prop), Z none g → nnMT X M_Store_serve 0 [qr 12 (some i), qr 7 (some a), qr 5 (some 0), qi (u 67 0)] g (zR 7 Z)) ∧
    ∀ b, svF u i n f (u 84 i).toNatClampNeg = some b → ∃ p, sevE u i < 30 ∧ (∀ k, ¬ (84 ≤ k ∧ k ≤ 88) → sevU u i b k = u k) ∧ (∃ g0, rl9 S P N R Q g0 (sevU u i b) ∧ ePr g g0 u (sevU u i b) ∧ dtv N g0 p (sevU u i b 85 (sevE u i)) (sevU u i b 86 (sevE u i)) (sevU u i b 87 (sevE u i))) ∧ (∀ Z : Int32 → MS → Prop, Z (nI (sevE u i)) (sevU u i b) → mMT M_Mod_served [qr 1 (some 0), qi (nI i), qi (nI n), qi (nI f)] u (mI Z)) ∧ ∀ (X : Nat × (Nat → Int32)) (Z : Option Nat → sg → Prop), (∀ g', rl9 S P N R Q g' (sevU u i b) → ePr g g' u (sevU u i b) → dtv N g' p (sevU u i b 85 (sevE u i)) (sevU u i b 86 (sevE u i)) (sevU u i b 87 (sevE u i)) → Z (some p) g') → nnMT X M_Store_serve 0 [qr 12 (some i), qr 7 (some a), qr 5 (some 0), qi (u 67 0)] g (zR 7 Z) := by
  have hSS := h.2.2.2.2.2.2.1
  obtain ⟨hS6, h64, hst⟩ := hSS
  obtain ⟨c, hc⟩ := hst i hi
  have hsn : rSn N S i c g u := hc
  obtain ⟨hcS, h770, h84, hc4, hc5⟩ := hc
  have hA := (h.1.2.2.1 i hi).2.2.1
  have hA2 := (h.1.2.2.1 i hi).2.2.2.1
  have hrN := h.2.2.1
  have hN := hrN.2.1
  have hm := hrN.nm
  obtain ⟨f1, f2, f3⟩ := fl1 f hf
  have e6 : (6 : Int32) * nI i = nI (6 * i) := by rw [nl_6, pk_mul]
  have e6c : (6 : Int32) * nI i + nI c = nI (6 * i + c) := by rw [nl_6, pk_mul, nI_add]
  have ci : (nI i).toNatClampNeg = i := nI_clamp (by omega)
  have hpn : ∀ j, j < c → ∃ x, x < N ∧ u 85 (6 * i + j) = nI x := by
    intro j hj
    obtain ⟨⟨p, -, p2⟩, -⟩ := hc4 j hj
    exact p2.2.2.2.2.2
  let ix : Option Nat → Int32 := fun o => match o with | none => -1 | some b => nI (6 * i + b)
  have hmod : ∀ Z : Int32 → MS → Prop, mWP M_Mod_served 9 [qr 1 (some 0), qi (nI i), qi (nI n), qi (nI f), qi (ix (svF u i n f c)), qi (nI (6 * i + c)), none, none, none] [] u (mI Z) → mMT M_Mod_served [qr 1 (some 0), qi (nI i), qi (nI n), qi (nI f)] u (mI Z) := by
    intro Z hz
    refine mt_Mod_served ?_
    rw [e6]
    have key : ∀ j, j ≤ c → mWP M_Mod_served 9 [qr 1 (some 0), qi (nI i), qi (nI n), qi (nI f), qi (ix (svF u i n f j)), qi (nI (6 * i + j)), none, none, none] [] u (mI Z) := by
      refine dn c hz ?_
      intro j hj ih
      obtain ⟨x, hx, ex⟩ := hpn j hj
      have es : svF u i n f (j + 1) = match svF u i n f j with
        | none => if fit u i n f j = true then some j else none
        | some b => if fit u i n f j = true ∧ ¬ u 85 (6 * i + b) ≤ u 85 (6 * i + j) then some j else some b := rfl
      rw [es] at ih
      have hbb := svF_b (u := u) (i := i) (n := n) (f := f) j
      refine mb_Mod_served_9 ?_
      rw [ci, h84, e6c, nI_clamp (show 6 * i + j < 2 ^ 31 by omega), ex]
      refine ⟨(vpi (by omega)).mpr hi, fun q => absurd q (nI_ge (by omega) (by omega)), fun _ => ⟨(vpi (by omega)).mpr (by omega), c_Mod_answers hm hN hx hn hf ?_⟩⟩
      have efit : fit u i n f j = (anF u x n f && (decide (f < 2) || !decide (u 88 (6 * i + j) ≤ u 67 0))) := by unfold fit; rw [ex, nI_clamp (by omega)]
      rw [nI_1, ex]
      have hnofit : fit u i n f j = false → mWP M_Mod_served 9 [qr 1 (some 0), qi (nI i), qi (nI n), qi (nI f), qi (ix (svF u i n f j)), qi (nI (6 * i + j + 1)), none, none, none] [] u (mI Z) := by
        intro hff
        rw [hff] at ih
        cases hb : svF u i n f j with
        | none => rw [hb] at ih; exact ih
        | some b => rw [hb] at ih; exact ih
      have hfit : fit u i n f j = true → (ix (svF u i n f j) < 0 → mWP M_Mod_served 9 [qr 1 (some 0), qi (nI i), qi (nI n), qi (nI f), qi (nI (6 * i + j)), qi (nI (6 * i + j + 1)), none, none, none] [] u (mI Z)) ∧ (¬ ix (svF u i n f j) < 0 → vp_in (ix (svF u i n f j)) 30 ∧ (u 85 (ix (svF u i n f j)).toNatClampNeg ≤ nI x → mWP M_Mod_served 9 [qr 1 (some 0), qi (nI i), qi (nI n), qi (nI f), qi (ix (svF u i n f j)), qi (nI (6 * i + j + 1)), none, none, none] [] u (mI Z)) ∧ (¬ u 85 (ix (svF u i n f j)).toNatClampNeg ≤ nI x → mWP M_Mod_served 9 [qr 1 (some 0), qi (nI i), qi (nI n), qi (nI f), qi (nI (6 * i + j)), qi (nI (6 * i + j + 1)), none, none, none] [] u (mI Z))) := by
        intro hff
        rw [hff] at ih
        cases hb : svF u i n f j with
        | none =>
          rw [hb] at ih
          exact ⟨fun _ => ih, fun q => absurd (show (-1 : Int32) < 0 by decide) q⟩
        | some b =>
          rw [hb] at ih
          have := hbb b hb
          dsimp only at ih
          have eix : ix (some b) = nI (6 * i + b) := rfl
          rw [eix, nI_clamp (show 6 * i + b < 2 ^ 31 by omega)]
          refine ⟨fun q => absurd q (nI_pos (by omega)), fun _ => ⟨(vpi (by omega)).mpr (by omega), fun q => ?_, fun q => ?_⟩⟩
          · rw [if_neg (fun z => z.2 (by rw [ex]; exact q))] at ih; exact ih
          · rw [if_pos ⟨rfl, by rw [ex]; exact q⟩] at ih; exact ih
      cases han : anF u x n f with
      | false =>
        have hff : fit u i n f j = false := by rw [efit, han]; rfl
        exact ⟨fun _ => ⟨fun _ => hnofit hff, fun q => absurd rfl q⟩, fun q => absurd rfl q⟩
      | true =>
        refine ⟨fun q => absurd q (by decide), fun _ => ⟨fun q => ⟨fun q2 => absurd q2 (by decide), fun _ => hfit ?_⟩, fun q => ⟨fun q2 => ⟨fun _ => hnofit ?_, fun q3 => absurd rfl q3⟩, fun q2 => ⟨fun q3 => absurd q3 (by decide), fun _ => hfit ?_⟩⟩⟩⟩
        · rw [f3] at q
          rw [efit, han]; simp [q]
        · rw [f3] at q
          rw [efit, han]; simp [q, q2]
        · rw [f3] at q
          rw [efit, han]; simp [q2]
    exact key 0 (Nat.zero_le _)
  let jx : Option Nat → Int32 := fun o => match o with | none => -1 | some b => nI b
  let fx : Int32 := if f < 2 then 0 else 1
  have hcls : ∀ (X : Nat × (Nat → Int32)) (Z : Option Nat → sg → Prop), nnWP X M_Store_serve 0 22 [qr 12 (some i), qr 7 (some a), qr 5 (some 0), qi (u 67 0), qi fx, qi (jx (svF u i n f c)), qi (nI c), none] [] g (zR 7 Z) → nnMT X M_Store_serve 0 [qr 12 (some i), qr 7 (some a), qr 5 (some 0), qi (u 67 0)] g (zR 7 Z) := by
    intro X Z hz
    have key : ∀ j, j ≤ c → nnWP X M_Store_serve 0 22 [qr 12 (some i), qr 7 (some a), qr 5 (some 0), qi (u 67 0), qi fx, qi (jx (svF u i n f j)), qi (nI j), none] [] g (zR 7 Z) := by
      refine dn c hz ?_
      intro j hj ih
      obtain ⟨x, hx, ex⟩ := hpn j hj
      obtain ⟨⟨p, p1, p2⟩, p3⟩ := hc4 j hj
      have p4 : gI g 449 p 0 = nI x := p2.2.2.1.trans ex
      have es : svF u i n f (j + 1) = match svF u i n f j with
        | none => if fit u i n f j = true then some j else none
        | some b => if fit u i n f j = true ∧ ¬ u 85 (6 * i + b) ≤ u 85 (6 * i + j) then some j else some b := rfl
      rw [es] at ih
      have hbb := svF_b (u := u) (i := i) (n := n) (f := f) j
      refine b_Store_serve_22 ?_
      rw [h770, nI_clamp (show j < 2 ^ 31 by omega), nI_1, p1]
      refine ⟨fun q => absurd q (nI_ge (by omega) (by omega)), fun _ => ⟨S, hA, (vpi (by omega)).mpr (by omega), p, rfl, a, rfl, 0, rfl, ?_⟩⟩
      rw [p4, ha1, ha2]
      refine c_Names_answers hrN h.1 hx hn hf fun _ => ?_
      rw [p1, p3]
      have efit : fit u i n f j = (anF u x n f && (decide (f < 2) || !decide (u 88 (6 * i + j) ≤ u 67 0))) := by unfold fit; rw [ex, nI_clamp (by omega)]
      have hnofit : fit u i n f j = false → nnWP X M_Store_serve 0 22 [qr 12 (some i), qr 7 (some a), qr 5 (some 0), qi (u 67 0), qi fx, qi (jx (svF u i n f j)), qi (nI (j + 1)), none] [] g (zR 7 Z) := by
        intro hff
        rw [hff] at ih
        cases hb : svF u i n f j with
        | none => rw [hb] at ih; exact ih
        | some b => rw [hb] at ih; exact ih
      have hfit : fit u i n f j = true → (jx (svF u i n f j) = -1 → nnWP X M_Store_serve 0 22 [qr 12 (some i), qr 7 (some a), qr 5 (some 0), qi (u 67 0), qi fx, qi (nI j), qi (nI (j + 1)), none] [] g (zR 7 Z)) ∧ (¬ jx (svF u i n f j) = -1 → ∃ a6, some p = some a6 ∧ vp_in (jx (svF u i n f j)) S ∧ ∃ a7, gR g 768 i (jx (svF u i n f j)).toNatClampNeg = some a7 ∧ (gI g 449 a7 0 ≤ gI g 449 a6 0 → nnWP X M_Store_serve 0 22 [qr 12 (some i), qr 7 (some a), qr 5 (some 0), qi (u 67 0), qi fx, qi (jx (svF u i n f j)), qi (nI (j + 1)), none] [] g (zR 7 Z)) ∧ (¬ gI g 449 a7 0 ≤ gI g 449 a6 0 → nnWP X M_Store_serve 0 22 [qr 12 (some i), qr 7 (some a), qr 5 (some 0), qi (u 67 0), qi fx, qi (nI j), qi (nI (j + 1)), none] [] g (zR 7 Z))) := by
        intro hff
        rw [hff] at ih
        cases hb : svF u i n f j with
        | none =>
          rw [hb] at ih
          exact ⟨fun _ => ih, fun q => absurd rfl q⟩
        | some b =>
          rw [hb] at ih
          have hbj := hbb b hb
          dsimp only at ih
          obtain ⟨pb, pb1, pb2⟩ := hsn.pl b (by omega)
          have ejx : jx (some b) = nI b := rfl
          rw [ejx, nI_clamp (show b < 2 ^ 31 by omega)]
          refine ⟨fun q => absurd q (nI_m1 (by omega)), fun _ => ⟨p, rfl, (vpi (by omega)).mpr (by omega), pb, pb1, fun q => ?_, fun q => ?_⟩⟩
          · rw [pb2, p4] at q
            rw [if_neg (fun z => z.2 (by rw [ex]; exact q))] at ih; exact ih
          · rw [pb2, p4] at q
            rw [if_pos ⟨rfl, by rw [ex]; exact q⟩] at ih; exact ih
      cases han : anF u x n f with
      | false =>
        have hff : fit u i n f j = false := by rw [efit, han]; rfl
        exact ⟨fun _ => ⟨fun _ => hnofit hff, fun q => absurd rfl q⟩, fun q => absurd rfl q⟩
      | true =>
        have hfx : fx = 0 ↔ f < 2 := by
          show (if f < 2 then (0 : Int32) else 1) = 0 ↔ f < 2
          by_cases q : f < 2
          · rw [if_pos q]; exact ⟨fun _ => q, fun _ => rfl⟩
          · rw [if_neg q]; exact ⟨fun z => absurd z (by decide), fun z => absurd z q⟩
        refine ⟨fun q => absurd q (by decide), fun _ => ⟨fun q => ⟨fun q2 => absurd q2 (by decide), fun _ => hfit ?_⟩, fun q => ⟨S, hA2, (vpi (by omega)).mpr (by omega), fun q2 => ⟨fun _ => hnofit ?_, fun q3 => absurd rfl q3⟩, fun q2 => ⟨fun q3 => absurd q3 (by decide), fun _ => hfit ?_⟩⟩⟩⟩
        · rw [hfx] at q
          rw [efit, han]; simp [q]
        · rw [hfx] at q
          rw [efit, han]; simp [q, q2]
        · rw [hfx] at q
          rw [efit, han]; simp [q2]
    refine t_Store_serve ⟨a, rfl, ?_⟩
    rw [ha2, f3]
    have k0 := key 0 (Nat.zero_le _)
    refine ⟨fun q => ?_, fun q => ?_⟩
    · have e : fx = 0 := if_pos q
      rw [e] at k0; exact k0
    · have e : fx = 1 := if_neg q
      rw [e] at k0; exact k0
  have ec : (u 84 i).toNatClampNeg = c := by rw [h84, nI_clamp (by omega)]
  rw [ec]
  refine ⟨fun hsv => ?_, fun b hsv => ?_⟩
  · rw [hsv] at hmod hcls
    refine ⟨fun Z hZ => hmod Z (mb_Mod_served_9 ?_), fun X Z hZ => hcls X Z (b_Store_serve_22 ?_)⟩
    · rw [ci, h84, e6c]
      exact ⟨(vpi (by omega)).mpr hi, fun _ => ⟨fun q => absurd q (show ¬ (0 : Int32) ≤ -1 by decide), fun _ => hZ⟩, fun q => absurd (nI_le (Nat.le_refl _) (by omega)) q⟩
    · rw [h770]
      exact ⟨fun _ => ⟨fun q => absurd rfl q, fun _ => hZ⟩, fun q => absurd (nI_le (Nat.le_refl _) (by omega)) q⟩
  · rw [hsv] at hmod hcls
    have hbc := svF_b c b hsv
    obtain ⟨c', rfl⟩ : ∃ c', c = c' + 1 := ⟨c - 1, by omega⟩
    obtain ⟨⟨p, p1, p2⟩, p3⟩ := hc4 b hbc
    have hl1 := rl_sh h hi hsn (show b ≤ c' by omega)
    have hs1 := rSn_sh hsn (show b ≤ c' by omega)
    have hl2 := rl_en (t := u 88 (6 * i + b)) hl1 hi hs1.1 (by omega) p2 hs1.2
    have eV : sevU u i b = enU (shU u i c' b c') i c' (u 85 (6 * i + b)) (u 86 (6 * i + b)) (u 87 (6 * i + b)) (u 88 (6 * i + b)) := by
      unfold sevU
      rw [ec]
      rfl
    have eE : sevE u i = 6 * i + c' := by
      unfold sevE
      rw [ec]
      rfl
    have hdt : ∀ g0 : sg, pkS g g0 → dtv N g0 p (enU (shU u i c' b c') i c' (u 85 (6 * i + b)) (u 86 (6 * i + b)) (u 87 (6 * i + b)) (u 88 (6 * i + b)) 85 (6 * i + c')) (enU (shU u i c' b c') i c' (u 85 (6 * i + b)) (u 86 (6 * i + b)) (u 87 (6 * i + b)) (u 88 (6 * i + b)) 86 (6 * i + c')) (enU (shU u i c' b c') i c' (u 85 (6 * i + b)) (u 86 (6 * i + b)) (u 87 (6 * i + b)) (u 88 (6 * i + b)) 87 (6 * i + c')) := by
      intro g0 hs
      rw [enU_at, enU_at, enU_at]
      simp
      obtain ⟨h1, h2, h3, h4, h5, h6⟩ := p2
      refine ⟨Nat.lt_of_lt_of_le h1 hs.1, ?_, ?_, ?_, ?_, h6⟩
      · rw [hs.2 448 p 0 rfl h1]; exact h2
      · rw [hs.2 449 p 0 rfl h1]; exact h3
      · rw [hs.2 453 p 0 rfl h1]; exact h4
      · rw [hs.2 454 p 0 rfl h1]; exact h5
    rw [eV, eE]
    have hep := (ePr_sh (g := g) (u := u) (i := i) (c := c') (x := b)).tr (ePr_en (i := i) (c := c') (p := p) (x := u 85 (6 * i + b)) (y := u 86 (6 * i + b)) (w := u 87 (6 * i + b)) (t := u 88 (6 * i + b)))
    refine ⟨p, by omega, fun k hk => ?_, ⟨_, hl2, hep, hdt _ hep.2.2.1⟩, fun Z hZ => hmod Z (mb_Mod_served_9 ?_), fun X Z hZ => hcls X Z (b_Store_serve_22 ?_)⟩
    · funext y
      rw [enU_at, if_neg (by omega), if_neg (by omega), if_neg (by omega), if_neg (by omega), if_neg (by omega)]
      unfold shU
      rw [if_neg (by omega), if_neg (by omega)]
    · have eix : ix (some b) = nI (6 * i + b) := rfl
      rw [ci, h84, e6c, eix, nI_clamp (show 6 * i + b < 2 ^ 31 by omega)]
      refine ⟨(vpi (by omega)).mpr hi, fun _ => ⟨fun _ => ⟨(vpi (by omega)).mpr (by omega), c_Mod_shiftStore hi (by omega) (by omega) h84 (c_Mod_enterStore hi (by omega) (if_pos ⟨rfl, rfl⟩) ?_)⟩, fun q => absurd (nI_pos' (by omega)) q⟩, fun q => absurd (nI_le (Nat.le_refl _) (by omega)) q⟩
      have e84 : enU (shU u i c' b c') i c' (u 85 (6 * i + b)) (u 86 (6 * i + b)) (u 87 (6 * i + b)) (u 88 (6 * i + b)) 84 i = nI (c' + 1) := if_pos ⟨rfl, rfl⟩
      rw [e84, nl_6, pk_mul, nI_add, show 6 * i + (c' + 1) = 6 * i + c' + 1 by omega, nI_sub1]
      exact hZ
    · have ejx : jx (some b) = nI b := rfl
      rw [h770, ejx, nI_clamp (show b < 2 ^ 31 by omega), p1, p3]
      exact ⟨fun _ => ⟨fun _ => ⟨S, hA, (vpi (by omega)).mpr (by omega), S, hA2, (vpi (by omega)).mpr (by omega), c_Store_takeOut hS6 (by omega) (by omega) hA hA2 h770 fun _ => c_Store_putLast hS6 (by omega) hA hA2 (if_pos ⟨rfl, rfl, rfl⟩) fun _ => hZ _ hl2 hep (hdt _ hep.2.2.1)⟩, fun q => absurd q (nI_m1 (by omega))⟩, fun q => absurd (nI_le (Nat.le_refl _) (by omega)) q⟩
