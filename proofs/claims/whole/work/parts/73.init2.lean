def nd8 (g : sg) (num : Int32) : sg := pI (pR (pA (pA (pA (pA (pN (pR (pA (pN (pA (pN g 6) 385 (gC g 6) 4) 11) 704 (gC g 11) 50) 386 (gC g 6) 0 (some (gC g 11))) 4) 259 (gC g 4) 10) 260 (gC g 4) 10) 261 (gC g 4) 10) 262 (gC g 4) 10) 389 (gC g 6) 0 (some (gC g 4))) 384 (gC g 6) 0 num
theorem nd8_o (g : sg) (num : Int32) : odn 6 (gC g 6) g (nd8 g num) := by
  unfold nd8
  refine odn.I (odn.R (odn.A (odn.A (odn.A (odn.A (odn.N (odn.R (odn.A (odn.N (odn.A (odn.N odn.rf) ?_)) ?_) ?_)) ?_) ?_) ?_) ?_) ?_) ?_
  · exact Or.inr ⟨rfl, rfl⟩
  · exact Or.inl (Nat.le_refl _)
  · exact Or.inr ⟨rfl, rfl⟩
  · exact Or.inl (Nat.le_refl _)
  · exact Or.inl (Nat.le_refl _)
  · exact Or.inl (Nat.le_refl _)
  · exact Or.inl (Nat.le_refl _)
  · exact Or.inr ⟨rfl, rfl⟩
  · exact Or.inr ⟨rfl, rfl⟩
theorem nd8_C (g : sg) (num : Int32) (c : Nat) : gC (nd8 g num) c = if c = 4 then gC g 4 + 1 else if c = 11 then gC g 11 + 1 else if c = 6 then gC g 6 + 1 else gC g c := by
  show gC (pN (pN (pN g 6) 11) 4) c = _
  rw [gC_pN, gC_pN, gC_pN]
  by_cases h4 : c = 4
  · subst h4; rfl
  · rw [if_neg h4, if_neg h4]
    by_cases h11 : c = 11
    · subst h11; rfl
    · rw [if_neg h11, if_neg h11]
      by_cases h6 : c = 6
      · subst h6; rfl
      · rw [if_neg h6, if_neg h6]
theorem nd8_f (g : sg) (num : Int32) : gR (nd8 g num) 386 (gC g 6) 0 = some (gC g 11) ∧ gR (nd8 g num) 389 (gC g 6) 0 = some (gC g 4) ∧ gI (nd8 g num) 384 (gC g 6) 0 = num ∧ gA (nd8 g num) 385 (gC g 6) = some 4 ∧ gA (nd8 g num) 704 (gC g 11) = some 50 ∧ gI (nd8 g num) 705 (gC g 11) 0 = 0 ∧ (gA (nd8 g num) 259 (gC g 4) = some 10 ∧ gA (nd8 g num) 260 (gC g 4) = some 10 ∧ gA (nd8 g num) 261 (gC g 4) = some 10 ∧ gA (nd8 g num) 262 (gC g 4) = some 10) ∧ gI (nd8 g num) 256 (gC g 4) 0 = 0 ∧ gI (nd8 g num) 257 (gC g 4) 0 = 0 ∧ gI (nd8 g num) 258 (gC g 4) 0 = 0 := by
  unfold nd8
  simp [gI_pA, gI_pI, gI_pN, gI_pR, gA_pA, gA_pI, gA_pN, gA_pR, gR_pA, gR_pI, gR_pN, gR_pR, gC_pN, gC_pA, gC_pR, gC_pI]
/-- a node as it is made -/
def ndOK (S P : Nat) (num : Int32) (a r s p t e0 n0 : Nat) (g : sg) : Prop := (∀ f, f < 4 → gR g 385 a f = some (e0 + f) ∧ faOK g (e0 + f)) ∧ (gR g 386 a 0 = some r ∧ gR g 387 a 0 = some s ∧ gR g 388 a 0 = some p ∧ gR g 389 a 0 = some t ∧ gI g 384 a 0 = num ∧ gA g 385 a = some 4) ∧ (gA g 704 r = some 50 ∧ gI g 705 r 0 = 0) ∧ (gA g 768 s = some S ∧ gA g 769 s = some S ∧ gI g 770 s 0 = 0) ∧ (gA g 512 p = some P ∧ gI g 513 p 0 = 0) ∧ (gA g 259 t = some 10 ∧ gA g 260 t = some 10 ∧ gA g 261 t = some 10 ∧ gA g 262 t = some 10) ∧ (gI g 256 t 0 = 0 ∧ gI g 257 t 0 = 0 ∧ gI g 258 t 0 = 0) ∧ ∀ j, j < P → gR g 512 p j = some (n0 + j) ∧ enA g (n0 + j)
theorem ndOK.tr {S P a r s p t e0 n0 : Nat} {num : Int32} {g g' : sg} (h : ndOK S P num a r s p t e0 n0 g) (k : ∀ f x, x < gC g (f / 64) → f ≠ 6 → sm g g' f x) (ha : a < gC g 6) (hr : r < gC g 11) (hs : s < gC g 12) (hp : p < gC g 8) (ht : t < gC g 4) (he : e0 + 4 ≤ gC g 3) (hn : n0 + P ≤ gC g 2) : ndOK S P num a r s p t e0 n0 g' := by
  obtain ⟨h1, ⟨h21, h22, h23, h24, h25, h26⟩, ⟨h31, h32⟩, ⟨h41, h42, h43⟩, ⟨h51, h52⟩, ⟨h61, h62, h63, h64⟩, ⟨h71, h72, h73⟩, h8⟩ := h
  have k3 : ∀ f x, f / 64 = 3 → x < gC g 3 → sm g g' f x := fun f x hf hx => k f x (by rw [hf]; exact hx) (by omega)
  have k2 : ∀ f x, f / 64 = 2 → x < gC g 2 → sm g g' f x := fun f x hf hx => k f x (by rw [hf]; exact hx) (by omega)
  refine ⟨fun f hf => ?_, ⟨?_, ?_, ?_, ?_, ?_, ?_⟩, ⟨?_, ?_⟩, ⟨?_, ?_, ?_⟩, ⟨?_, ?_⟩, ⟨?_, ?_, ?_, ?_⟩, ⟨?_, ?_, ?_⟩, fun j hj => ?_⟩
  · obtain ⟨q1, q2, q3, q4, q5, q6⟩ := h1 f hf
    refine ⟨by rw [(k 385 a ha (by decide)).2.1]; exact q1, ?_⟩
    unfold faOK
    rw [(k3 192 (e0 + f) rfl (by omega)).1, (k3 193 (e0 + f) rfl (by omega)).1, (k3 194 (e0 + f) rfl (by omega)).1, (k3 196 (e0 + f) rfl (by omega)).1, (k3 195 (e0 + f) rfl (by omega)).2.2]
    exact ⟨q2, q3, q4, q5, q6⟩
  · rw [(k 386 a ha (by decide)).2.1]; exact h21
  · rw [(k 387 a ha (by decide)).2.1]; exact h22
  · rw [(k 388 a ha (by decide)).2.1]; exact h23
  · rw [(k 389 a ha (by decide)).2.1]; exact h24
  · rw [(k 384 a ha (by decide)).1]; exact h25
  · rw [(k 385 a ha (by decide)).2.2]; exact h26
  · rw [(k 704 r hr (by decide)).2.2]; exact h31
  · rw [(k 705 r hr (by decide)).1]; exact h32
  · rw [(k 768 s hs (by decide)).2.2]; exact h41
  · rw [(k 769 s hs (by decide)).2.2]; exact h42
  · rw [(k 770 s hs (by decide)).1]; exact h43
  · rw [(k 512 p hp (by decide)).2.2]; exact h51
  · rw [(k 513 p hp (by decide)).1]; exact h52
  · rw [(k 259 t ht (by decide)).2.2]; exact h61
  · rw [(k 260 t ht (by decide)).2.2]; exact h62
  · rw [(k 261 t ht (by decide)).2.2]; exact h63
  · rw [(k 262 t ht (by decide)).2.2]; exact h64
  · rw [(k 256 t ht (by decide)).1]; exact h71
  · rw [(k 257 t ht (by decide)).1]; exact h72
  · rw [(k 258 t ht (by decide)).1]; exact h73
  · obtain ⟨q1, q2, q3, q4, q5⟩ := h8 j hj
    refine ⟨by rw [(k 512 p hp (by decide)).2.1]; exact q1, ?_⟩
    unfold enA
    rw [(k2 131 (n0 + j) rfl (by omega)).2.2, (k2 132 (n0 + j) rfl (by omega)).2.2, (k2 133 (n0 + j) rfl (by omega)).2.2, (k2 134 (n0 + j) rfl (by omega)).2.2]
    exact ⟨q2, q3, q4, q5⟩
theorem node_c {X : Nat × (Nat → Int32)} {S P : Nat} {g : sg} {num : Int32} {Z : sg → Prop} (hS : S ≤ 6) (hP1 : 1 ≤ P) (hP : P ≤ 6) (hZ : ∀ g', odn 6 (gC g 6) g g' → (∀ c, c ≠ 2 → c ≠ 3 → c ≠ 4 → c ≠ 6 → c ≠ 8 → c ≠ 11 → c ≠ 12 → gC g' c = gC g c) → gC g' 2 = gC g 2 + P → gC g' 3 = gC g 3 + 4 → gC g' 4 = gC g 4 + 1 → gC g' 6 = gC g 6 + 1 → gC g' 8 = gC g 8 + 1 → gC g' 11 = gC g 11 + 1 → gC g' 12 = gC g 12 + 1 → ndOK S P num (gC g 6) (gC g 11) (gC g 12) (gC g 8) (gC g 4) (gC g 3) (gC g 2) g' → Z g') : nnMT X M_Node_init 54 [qr 6 (some (gC g 6)), qi num, qi (nI S), qi (nI P)] (pN g 6) (zV Z) := by
  refine t_Node_init ⟨by omega, by rw [gA_pN, if_pos ⟨rfl, rfl⟩], fun g1 y1 => ⟨by omega, fun g2 y2 => ⟨by omega, t_Routes_init ⟨by omega, by rw [y2, gA_pN, if_pos ⟨rfl, rfl⟩], fun g3 y3 _ g4 y4 => ⟨by omega, fun g5 y5 => ⟨by omega, t_Fetch_init ⟨by omega, by rw [y5, gA_pN, if_pos ⟨rfl, rfl⟩], fun x1 z1 => ⟨by omega, by rw [z1, gA_pA, if_neg (by omega), y5, gA_pN, if_pos ⟨rfl, rfl⟩], fun x2 z2 => ⟨by omega, by rw [z2, gA_pA, if_neg (by omega), z1, gA_pA, if_neg (by omega), y5, gA_pN, if_pos ⟨rfl, rfl⟩], fun x3 z3 => ⟨by omega, by rw [z3, gA_pA, if_neg (by omega), z2, gA_pA, if_neg (by omega), z1, gA_pA, if_neg (by omega), y5, gA_pN, if_pos ⟨rfl, rfl⟩], fun x4 z4 _ g7 y7 g8 y8 => ?_⟩⟩⟩⟩⟩⟩⟩⟩⟩⟩
  have e8 : g8 = nd8 g num := by
    subst y8 y7 z4 z3 z2 z1 y5 y4 y3 y2 y1
    rfl
  subst e8
  have o8 := nd8_o g num
  have C8 := nd8_C g num
  obtain ⟨v1, v2, v3, v4, v5, v6, ⟨v7, v8, v9, v10⟩, v11, v12, v13⟩ := nd8_f g num
  have a8 : gC g 6 < gC (nd8 g num) 6 := by rw [C8]; simp
  have c83 : gC (nd8 g num) 3 = gC g 3 + 0 := by rw [C8]; rfl
  refine faces_loop (e0 := gC g 3) 4 0 _ (nd8 g num) (by omega) (by omega) a8 v4 c83 fun gf of cf cf3 ff rf => ?_
  have cF : ∀ c, c ≠ 3 → gC gf c = if c = 4 then gC g 4 + 1 else if c = 11 then gC g 11 + 1 else if c = 6 then gC g 6 + 1 else gC g c := fun c h => (cf c h).trans (C8 c)
  have F12 : gC gf 12 = gC g 12 := by rw [cF 12 (by decide)]; rfl
  have F8 : gC gf 8 = gC g 8 := by rw [cF 8 (by decide)]; rfl
  have F2 : gC gf 2 = gC g 2 := by rw [cF 2 (by decide)]; rfl
  have F4 : gC gf 4 = gC g 4 + 1 := by rw [cF 4 (by decide)]; rfl
  have F11 : gC gf 11 = gC g 11 + 1 := by rw [cF 11 (by decide)]; rfl
  have F6 : gC gf 6 = gC g 6 + 1 := by rw [cF 6 (by decide)]; rfl
  refine b_Node_init_42 ⟨fun _ => ⟨by omega, fun g1' w1 => ⟨by omega, t_Store_init ⟨S, rfl, by omega, by omega, by rw [w1, gA_pN, if_pos ⟨rfl, rfl⟩], fun g2' w2 => ⟨S, rfl, by omega, by omega, by rw [w2, gA_pA, if_neg (by omega), w1, gA_pN, if_pos ⟨rfl, rfl⟩], fun g3' w3 _ gs ws => ⟨by omega, fun g4' w4 => ⟨by omega, ?_⟩⟩⟩⟩⟩⟩, fun q => absurd (by decide) q⟩
  have es : gs = pR (pA (pA (pN gf 12) 768 (gC gf 12) S) 769 (gC gf 12) S) 387 (gC g 6) 0 (some (gC gf 12)) := by
    subst ws w3 w2 w1
    rfl
  have os : odn 6 (gC g 6) gf gs := by
    rw [es]
    exact odn.R (odn.A (odn.A (odn.N odn.rf) (Or.inl (Nat.le_refl _))) (Or.inl (Nat.le_refl _))) (Or.inr ⟨rfl, rfl⟩)
  have Cs : ∀ c, c ≠ 12 → gC gs c = gC gf c := fun c h => by
    rw [es]
    show gC (pN gf 12) c = _
    rw [gC_pN, if_neg h]
  have Cs12 : gC gs 12 = gC g 12 + 1 := by
    rw [es, ← F12]
    show gC (pN gf 12) 12 = _
    rw [gC_pN, if_pos rfl]
  subst w4
  have S8 : gC gs 8 = gC g 8 := (Cs 8 (by decide)).trans F8
  have S2 : gC gs 2 = gC g 2 := (Cs 2 (by decide)).trans F2
  refine pend_c (g := gs) hP1 hP fun gp op cp cp2 cp8 q1 q2 q3 _ gz wz => ?_
  rw [S8] at op cp8 q1 q2 q3 wz
  rw [S2] at cp2 q3
  have op6 : odn 6 (gC g 6) gs gp := op.ch (by rw [S8]; exact Nat.le_refl _)
  have oz : odn 6 (gC g 6) g gz := by
    rw [wz]
    exact odn.R (((o8.tr of).tr os).tr op6) (Or.inr ⟨rfl, rfl⟩)
  have Cz : ∀ c, gC gz c = gC gp c := fun c => by rw [wz]; rfl
  have tz : ∀ f x, ¬ (f = 388 ∧ x = gC g 6) → sm gp gz f x := fun f x h => by
    rw [wz]
    exact ⟨fun _ => rfl, fun y => by rw [gR_pR, if_neg (fun z => h ⟨z.1, z.2.1⟩)], rfl⟩
  have tp : ∀ f x, x < gC gs (f / 64) → sm gs gp f x := fun f x h => op.2 f x h (fun z => by rw [z.1, S8] at h; omega)
  have ts : ∀ f x, x < gC gf (f / 64) → ¬ (f / 64 = 6 ∧ x = gC g 6) → sm gf gs f x := os.2
  have tf : ∀ f x, x < gC (nd8 g num) (f / 64) → ¬ (f / 64 = 6 ∧ x = gC g 6) → sm (nd8 g num) gf f x := of.2
  -- from the eighth state, and from the faces, to the end
  have fz : ∀ f x, x < gC gf (f / 64) → ¬ (f / 64 = 6 ∧ x = gC g 6) → sm gf gz f x := fun f x h1 h2 => ((ts f x h1 h2).tr (tp f x (Nat.lt_of_lt_of_le h1 (os.1 _)))).tr (tz f x (fun z => h2 ⟨by omega, z.2⟩))
  have ez : ∀ f x, x < gC (nd8 g num) (f / 64) → ¬ (f / 64 = 6 ∧ x = gC g 6) → sm (nd8 g num) gz f x := fun f x h1 h2 => (tf f x h1 h2).tr (fz f x (Nat.lt_of_lt_of_le h1 (of.1 _)) h2)
  have n6s : gC g 6 < gC gs 6 := by rw [Cs 6 (by decide), F6]; omega
  -- the node's own cells
  have own : ∀ f y, f / 64 = 6 → f ≠ 387 → f ≠ 388 → gR gz f (gC g 6) y = gR gf f (gC g 6) y := by
    intro f y hf h1 h2
    rw [(tz f _ (by omega)).2.1, (tp f _ (by rw [hf]; exact n6s)).2.1, es, gR_pR, if_neg (by omega), gR_pA, if_neg (by omega), gR_pA, if_neg (by omega), gR_pN, if_neg (by omega)]
  have ownI : gI gz 384 (gC g 6) 0 = num := by
    rw [(tz 384 _ (by omega)).1, (tp 384 _ n6s).1, es, gI_pR, gI_pA, if_neg (by omega), gI_pA, if_neg (by omega), gI_pN, if_neg (by omega), (ff 384 rfl).1]
    exact v3
  have ownA : gA gz 385 (gC g 6) = some 4 := by
    rw [(tz 385 _ (by omega)).2.2, (tp 385 _ n6s).2.2, es, gA_pR, gA_pA, if_neg (by omega), gA_pA, if_neg (by omega), gA_pN, if_neg (by omega), (ff 385 rfl).2.1]
    exact v4
  have z11 : ∀ f, f / 64 = 11 → sm (nd8 g num) gz f (gC g 11) := fun f hf => ez f _ (by rw [hf, C8]; simp) (by omega)
  have z4 : ∀ f, f / 64 = 4 → sm (nd8 g num) gz f (gC g 4) := fun f hf => ez f _ (by rw [hf, C8]; simp) (by omega)
  have z12 : ∀ f, f / 64 = 12 → sm gs gz f (gC g 12) := fun f hf => (tp f _ (by rw [hf, Cs12]; omega)).tr (tz f _ (by omega))
  have z8 : ∀ f, f / 64 = 8 → sm gp gz f (gC g 8) := fun f hf => tz f _ (by omega)
  refine hZ gz oz (fun c h2 h3 h4 h6 h8 h11 h12 => ?_) ?_ ?_ ?_ ?_ ?_ ?_ ?_ ⟨fun f hf => ?_, ⟨?_, ?_, ?_, ?_, ownI, ownA⟩, ⟨?_, ?_⟩, ⟨?_, ?_, ?_⟩, ⟨?_, ?_⟩, ⟨?_, ?_, ?_, ?_⟩, ⟨?_, ?_, ?_⟩, fun j hj => ?_⟩
  · rw [Cz, cp c h2 h8, Cs c h12, cF c h3, if_neg h4, if_neg h11, if_neg h6]
  · rw [Cz, cp2]
  · rw [Cz, cp 3 (by decide) (by decide), Cs 3 (by decide), cf3]
  · rw [Cz, cp 4 (by decide) (by decide), Cs 4 (by decide), F4]
  · rw [Cz, cp 6 (by decide) (by decide), Cs 6 (by decide), F6]
  · rw [Cz, cp8]
  · rw [Cz, cp 11 (by decide) (by decide), Cs 11 (by decide), F11]
  · rw [Cz, cp 12 (by decide) (by decide), Cs12]
  · obtain ⟨w1, w2, w3, w4, w5, w6⟩ := rf f (by omega) hf
    have q : ∀ k, k / 64 = 3 → sm gf gz k (gC g 3 + f) := fun k hk => fz k _ (by rw [hk, cf3]; omega) (by omega)
    refine ⟨by rw [own 385 f rfl (by decide) (by decide)]; exact w1, ?_⟩
    unfold faOK
    rw [(q 192 rfl).1, (q 193 rfl).1, (q 194 rfl).1, (q 196 rfl).1, (q 195 rfl).2.2]
    exact ⟨w2, w3, w4, w5, w6⟩
  · rw [own 386 0 rfl (by decide) (by decide), (ff 386 rfl).2.2 0 (Or.inl (by decide))]; exact v1
  · rw [(tz 387 _ (by omega)).2.1, (tp 387 _ n6s).2.1, es, gR_pR, if_pos ⟨rfl, rfl, rfl⟩, F12]
  · rw [wz, gR_pR, if_pos ⟨rfl, rfl, rfl⟩]
  · rw [own 389 0 rfl (by decide) (by decide), (ff 389 rfl).2.2 0 (Or.inl (by decide))]; exact v2
  · rw [(z11 704 rfl).2.2]; exact v5
  · rw [(z11 705 rfl).1]; exact v6
  · rw [(z12 768 rfl).2.2, es, gA_pR, gA_pA, if_neg (by omega), gA_pA, if_pos ⟨rfl, F12.symm⟩]
  · rw [(z12 769 rfl).2.2, es, gA_pR, gA_pA, if_pos ⟨rfl, F12.symm⟩]
  · rw [(z12 770 rfl).1, es, gI_pR, gI_pA, if_neg (by omega), gI_pA, if_neg (by omega), gI_pN, if_pos ⟨rfl, F12.symm⟩]
  · rw [(z8 512 rfl).2.2]; exact q1
  · rw [(z8 513 rfl).1]; exact q2
  · rw [(z4 259 rfl).2.2]; exact v7
  · rw [(z4 260 rfl).2.2]; exact v8
  · rw [(z4 261 rfl).2.2]; exact v9
  · rw [(z4 262 rfl).2.2]; exact v10
  · rw [(z4 256 rfl).1]; exact v11
  · rw [(z4 257 rfl).1]; exact v12
  · rw [(z4 258 rfl).1]; exact v13
  · obtain ⟨w1, w2, w3, w4, w5⟩ := q3 j hj
    refine ⟨by rw [(z8 512 rfl).2.1]; exact w1, ?_⟩
    unfold enA
    rw [(tz 131 _ (by omega)).2.2, (tz 132 _ (by omega)).2.2, (tz 133 _ (by omega)).2.2, (tz 134 _ (by omega)).2.2]
    exact ⟨w2, w3, w4, w5⟩
