def tlU (u : MS) (i b : Nat) (x y s c : Int32) : Nat → MS
  | 0 => u
  | f + 1 => if f = b then tlU u i b x y s c f else putU (tlU u i b x y s c f) (4 * i + f) 3 x y s c
def spG (g : sg) (i b p : Nat) : Nat → sg
  | 0 => g
  | f + 1 => if f = b then spG g i b p f else putG (spG g i b p f) (4 * i + f) p
theorem tlU_at {u : MS} {i b : Nat} {x y s c : Int32} {k : Nat} (h6 : k ≠ 76) (h7 : k ≠ 77) : ∀ f, tlU u i b x y s c f k = u k
  | 0 => rfl
  | f + 1 => by
    show (if f = b then tlU u i b x y s c f else putU (tlU u i b x y s c f) (4 * i + f) 3 x y s c) k = u k
    split
    · exact tlU_at h6 h7 f
    · rw [putU_at h6 h7]; exact tlU_at h6 h7 f
theorem spG_I {g : sg} {i b p k : Nat} (h : k ≠ 196) : ∀ f, gI (spG g i b p f) k = gI g k
  | 0 => rfl
  | f + 1 => by
    show gI (if f = b then spG g i b p f else putG (spG g i b p f) (4 * i + f) p) k = gI g k
    split
    · exact spG_I h f
    · rw [putG_I h]; exact spG_I h f
theorem spG_R {g : sg} {i b p k : Nat} (h : k ≠ 195) : ∀ f, gR (spG g i b p f) k = gR g k
  | 0 => rfl
  | f + 1 => by
    show gR (if f = b then spG g i b p f else putG (spG g i b p f) (4 * i + f) p) k = gR g k
    split
    · exact spG_R h f
    · rw [putG_R h]; exact spG_R h f
theorem spG_A {g : sg} {i b p k a : Nat} : ∀ f, gA (spG g i b p f) k a = gA g k a
  | 0 => rfl
  | f + 1 => by
    show gA (if f = b then spG g i b p f else putG (spG g i b p f) (4 * i + f) p) k a = gA g k a
    split
    · exact spG_A f
    · rw [putG_A]; exact spG_A f
theorem pkv_put {N R e p q : Nat} {g : sg} {u : MS} {k a b c d k' a' b' c' d' : Int32} (h : pkv N R g u p k a b c d) : pkv N R (putG g e q) (putU u e k' a' b' c' d') p k a b c d := by
  unfold pkv at h ⊢
  rw [putG_C, putG_I (by decide), putG_I (by decide), putG_I (by decide), putG_I (by decide), putG_I (by decide), putG_I (by decide), putG_I (by decide), putG_I (by decide), putG_I (by decide), putG_I (by decide), putU_at (by decide) (by decide), putU_at (by decide) (by decide)]
  exact h
theorem rl_tell {S P N R Q i b p : Nat} {g : sg} {u : MS} {x y s c : Int32} (h : rl9 S P N R Q g u) (hi : i < 5) (hp : pkv N R g u p 3 x y s c) : ∀ n, n ≤ 4 → rl9 S P N R Q (spG g i b p n) (tlU u i b x y s c n) ∧ pkv N R (spG g i b p n) (tlU u i b x y s c n) p 3 x y s c
  | 0, _ => ⟨h, hp⟩
  | f + 1, hf => by
    obtain ⟨a1, a2⟩ := rl_tell (b := b) h hi hp f (by omega)
    show rl9 S P N R Q (if f = b then spG g i b p f else putG (spG g i b p f) (4 * i + f) p) (if f = b then tlU u i b x y s c f else putU (tlU u i b x y s c f) (4 * i + f) 3 x y s c) ∧ pkv N R (if f = b then spG g i b p f else putG (spG g i b p f) (4 * i + f) p) (if f = b then tlU u i b x y s c f else putU (tlU u i b x y s c f) (4 * i + f) 3 x y s c) p 3 x y s c
    by_cases hb : f = b
    · rw [if_pos hb, if_pos hb]; exact ⟨a1, a2⟩
    · rw [if_neg hb, if_neg hb]; exact ⟨rl_put a1 (by omega) a2, pkv_put a2⟩
theorem rl9.w {S P N R Q e : Nat} {g : sg} {u : MS} (h : rl9 S P N R Q g u) (he : e < 20) : ∃ w, w ≤ 8 ∧ gI g 196 e 0 = nI w ∧ u 76 e = nI w := by
  obtain ⟨-, -, -, w, w1, w2, w3, -⟩ := h.2.2.2.1 e he
  exact ⟨w, w1, w2, w3⟩
theorem c_Mod_tell {S P N R Q i b r p : Nat} {g : sg} {u : MS} {c : Int32} {Z : MS → Prop} (hl : rl9 S P N R Q g u) (hi : i < 5) (hb : b ≤ 4) (hr : r < 50) (hp : pkv N R g u p 3 (u 80 r) (u 81 r) (u 82 (50 * i + r)) c) (h : Z (tlU u i b (u 80 r) (u 81 r) (u 82 (50 * i + r)) c 4)) : mMT M_Mod_tell [qr 1 (some 0), qi (nI i), qi (nI b), qi (nI r), qi c] u (mV Z) := by
  have e50 : (50 : Int32) * nI i + nI r = nI (50 * i + r) := by rw [nl_50, pk_mul, nI_add]
  refine mt_Mod_tell ?_
  have key : ∀ f, f ≤ 4 → mWP M_Mod_tell 3 [qr 1 (some 0), qi (nI i), qi (nI b), qi (nI r), qi c, qi (nI f)] [] (tlU u i b (u 80 r) (u 81 r) (u 82 (50 * i + r)) c f) (mV Z) := by
    refine dn 4 ?_ ?_
    · exact mb_Mod_tell_3 ⟨fun _ => h, fun q => absurd (by decide) q⟩
    · intro f hf ih
      have es : tlU u i b (u 80 r) (u 81 r) (u 82 (50 * i + r)) c (f + 1) = if f = b then tlU u i b (u 80 r) (u 81 r) (u 82 (50 * i + r)) c f else putU (tlU u i b (u 80 r) (u 81 r) (u 82 (50 * i + r)) c f) (4 * i + f) 3 (u 80 r) (u 81 r) (u 82 (50 * i + r)) c := rfl
      rw [es] at ih
      refine mb_Mod_tell_3 ⟨fun q => ?_, fun _ => ⟨fun q => ?_, fun q => ?_⟩⟩
      · rw [nl_4, nI_leI (by omega) (by omega)] at q
        omega
      · rw [nI_eq (by omega) (by omega)] at q
        rw [if_pos q] at ih
        rw [nI_1]; exact ih
      · rw [nI_eq (by omega) (by omega)] at q
        rw [if_neg q] at ih
        rw [e50, e4, nI_clamp (show 50 * i + r < 2 ^ 31 by omega), nI_clamp (show r < 2 ^ 31 by omega), nI_1, tlU_at (by decide) (by decide), tlU_at (by decide) (by decide), tlU_at (by decide) (by decide)]
        obtain ⟨w, w1, w2, w3⟩ := (rl_tell (b := b) hl hi hp f (by omega)).1.w (e := 4 * i + f) (by omega)
        exact ⟨(vpi (by omega)).mpr (by omega), (vpi (by omega)).mpr (by omega), c_Mod_put (by omega) w1 w3 ih⟩
  exact key 0 (Nat.zero_le _)
theorem c_Node_spread {X : Nat × (Nat → Int32)} {kk S P N R Q i b p : Nat} {g : sg} {u : MS} {x y s c xb : Int32} {Z : sg → Prop} (hl : rl9 S P N R Q g u) (hi : i < 5) (hb : ∀ f, f < 4 → (nI f = xb ↔ f = b)) (hp : pkv N R g u p 3 x y s c) (h : Z (spG g i b p 4)) : nnMT X M_Node_spread kk [qr 6 (some i), qr 7 (some p), qi xb] g (zV Z) := by
  refine t_Node_spread ?_
  have key : ∀ f, f ≤ 4 → nnWP X M_Node_spread kk 2 [qr 6 (some i), qr 7 (some p), qi xb, qi (nI f)] [] (spG g i b p f) (zV Z) := by
    refine dn 4 ?_ ?_
    · exact b_Node_spread_2 ⟨fun _ => h, fun q => absurd (by decide) q⟩
    · intro f hf ih
      have es : spG g i b p (f + 1) = if f = b then spG g i b p f else putG (spG g i b p f) (4 * i + f) p := rfl
      rw [es] at ih
      refine b_Node_spread_2 ⟨fun q => ?_, fun _ => ⟨fun q => ?_, fun q => ?_⟩⟩
      · rw [nl_4, nI_leI (by omega) (by omega)] at q
        omega
      · rw [hb f hf] at q
        rw [if_pos q] at ih
        rw [nI_1]; exact ih
      · rw [hb f hf] at q
        rw [if_neg q] at ih
        obtain ⟨w, w1, w2, w3⟩ := (rl_tell (b := b) hl hi hp f (by omega)).1.w (e := 4 * i + f) (by omega)
        rw [nI_clamp (show f < 2 ^ 31 by omega), nI_1]
        refine ⟨by rw [spG_A]; exact (hl.1.2.2.1 i hi).1, (vpi (by omega)).mpr hf, 4 * i + f, by rw [spG_R (by decide)]; exact hl.1.1.2.2.1 i f hi hf, c_Face_put w1 (by rw [spG_A]; exact hl.1.2.2.2.1 _ (by omega)) w2 fun _ => ih⟩
  exact key 0 (Nat.zero_le _)
theorem cn_congr {p q : Nat → Bool} : ∀ {n : Nat}, (∀ r, r < n → p r = q r) → cn p n = cn q n
  | 0, _ => rfl
  | n + 1, h => by
    show (if p n = true then cn p n + 1 else cn p n) = if q n = true then cn q n + 1 else cn q n
    rw [cn_congr (n := n) (fun r hr => h r (by omega)), h n (by omega)]
/-- a new row of the reference's table, and of its origin -/
def nrU (u : MS) (R : Nat) (x y : Int32) : MS := mu (mu (mu u 80 R x) 81 R y) 79 0 (nI (R + 1))
theorem nrU_80 {u : MS} {R : Nat} {x y : Int32} (r : Nat) : nrU u R x y 80 r = if r = R then x else u 80 r := by
  unfold nrU
  simp only [mu_at]
  by_cases h : r = R <;> simp [h]
theorem nrU_81 {u : MS} {R : Nat} {x y : Int32} (r : Nat) : nrU u R x y 81 r = if r = R then y else u 81 r := by
  unfold nrU
  simp only [mu_at]
  by_cases h : r = R <;> simp [h]
theorem rRn_new {N R i m n : Nat} {ρ π : Nat → Nat} {g : sg} {u : MS} (h : rRn R i m ρ π g u) (hG : rG N R u) (hz : u 82 (50 * i + R) = 0 ∧ ∀ f, f < 5 → u 83 (250 * i + 5 * R + f) = 0) (hi : i < 5) : rRn (R + 1) i (m + 1) (fun j => if j = m then gC g 10 else ρ j) (fun j => if j = m then R else π j) (addG g i m (nI i) (nI n)) (nrU u R (nI i) (nI n)) := by
  obtain ⟨h1, h2, h3, h4, h5, h6⟩ := h
  have e82 : nrU u R (nI i) (nI n) 82 = u 82 := rfl
  have e83 : nrU u R (nI i) (nI n) 83 = u 83 := rfl
  refine ⟨by omega, by rw [addG_705, if_pos rfl], fun j hj => ?_, fun j k hj hk e => ?_, fun r' hr' hno' => ?_, fun r' hr' ho => ?_⟩
  · by_cases hjm : j = m
    · subst hjm
      dsimp only
      rw [if_pos rfl, if_pos rfl, addG_704, if_pos ⟨rfl, rfl⟩, nrU_80, if_pos rfl, nrU_81, if_pos rfl, e82, e83]
      have eI : ∀ f k, f / 64 = 10 → f ≠ 705 → gI (addG g i j (nI i) (nI n)) f (gC g 10) k = (if f = 640 ∧ k = 0 then nI i else if f = 641 ∧ k = 0 then nI n else if f = 643 ∧ k < 5 then -1 else 0) := by
        intro f k hf h705
        unfold addG
        rw [gI_pI, if_neg (fun z => h705 z.1)]
        show (if f / 64 = 10 ∧ gC g 10 = g.1 10 then _ else _) = _
        rw [if_pos ⟨hf, rfl⟩]
      refine ⟨rfl, ?_, ?_, by omega, ?_, ?_, ?_, fun f hf => ⟨0, by omega, hz.2 f hf, ?_⟩⟩
      · show gC g 10 < if 10 = 10 then g.1 10 + 1 else g.1 10
        rw [if_pos rfl]; exact Nat.lt_succ_self _
      · show (if 643 / 64 = 10 ∧ gC g 10 = g.1 10 then (if (643 : Nat) = 643 then some 5 else none) else _) = some 5
        rw [if_pos ⟨rfl, rfl⟩, if_pos rfl]
      · rw [eI 640 0 rfl (by decide), if_pos ⟨rfl, rfl⟩]
      · rw [eI 641 0 rfl (by decide), if_neg (by omega), if_pos ⟨rfl, rfl⟩]
      · rw [eI 642 0 rfl (by decide), if_neg (by omega), if_neg (by omega), if_neg (by omega)]; exact hz.1.symm
      · rw [eI 643 f rfl (by decide), if_neg (by omega), if_neg (by omega), if_pos ⟨rfl, hf⟩]; decide
    · have hj' : j < m := by omega
      obtain ⟨r1, r2, r3, r4, r5, r6, r7, r8⟩ := h3 j hj'
      dsimp only
      rw [if_neg hjm, if_neg hjm, addG_704, if_neg (fun z => hjm z.2), addG_oldA r2, addG_old r2 _ _ (by decide), addG_old r2 _ _ (by decide), addG_old r2 _ _ (by decide), nrU_80, if_neg (by omega), nrU_81, if_neg (by omega)]
      refine ⟨r1, ?_, r3, by omega, r5, r6, r7, fun f hf => ?_⟩
      · show ρ j < if 10 = 10 then g.1 10 + 1 else g.1 10
        rw [if_pos rfl]; exact Nat.lt_succ_of_lt r2
      · rw [addG_old r2 _ _ (by decide)]; exact r8 f hf
  · dsimp only at e
    by_cases hjm : j = m <;> by_cases hkm : k = m
    · omega
    · rw [if_pos hjm, if_neg hkm] at e
      have := (h3 k (by omega)).2.2.2.1
      omega
    · rw [if_neg hjm, if_pos hkm] at e
      have := (h3 j (by omega)).2.2.2.1
      omega
    · rw [if_neg hjm, if_neg hkm] at e
      exact h4 j k (by omega) (by omega) e
  · have hr'' : r' < R := by
      have := hno' m (by omega)
      dsimp only at this
      rw [if_pos rfl] at this
      omega
    refine h5 r' hr'' fun j hj e => hno' j (by omega) ?_
    show (if j = m then R else π j) = r'
    rw [if_neg (by omega)]; exact e
  · by_cases hrR : r' = R
    · subst hrR
      exact ⟨⟨m, by omega, if_pos rfl⟩, fun f hf => hz.2 f (by omega)⟩
    · rw [nrU_80, if_neg hrR] at ho
      obtain ⟨⟨j, hj, e⟩, k2⟩ := h6 r' (by omega) ho
      exact ⟨⟨j, by omega, by show (if j = m then R else π j) = r'; rw [if_neg (by omega)]; exact e⟩, k2⟩
theorem rRn_newO {R i i' m m' n : Nat} {ρ π : Nat → Nat} {g : sg} {u : MS} (h : rRn R i' m' ρ π g u) (hz : u 82 (50 * i' + R) = 0 ∧ ∀ f, f < 5 → u 83 (250 * i' + 5 * R + f) = 0) (hi : i < 5) (hi' : i' < 5) (hne : i' ≠ i) : rRn (R + 1) i' m' ρ π (addG g i m (nI i) (nI n)) (nrU u R (nI i) (nI n)) := by
  obtain ⟨h1, h2, h3, h4, h5, h6⟩ := h
  refine ⟨by omega, by rw [addG_705, if_neg hne]; exact h2, fun j hj => ?_, h4, fun r hr hno => ?_, fun r hr ho => ?_⟩
  · obtain ⟨r1, r2, r3, r4, r5, r6, r7, r8⟩ := h3 j hj
    rw [addG_704, if_neg (fun z => hne z.1), addG_oldA r2, addG_old r2 _ _ (by decide), addG_old r2 _ _ (by decide), addG_old r2 _ _ (by decide), nrU_80, if_neg (by omega), nrU_81, if_neg (by omega)]
    refine ⟨r1, ?_, r3, by omega, r5, r6, r7, fun f hf => ?_⟩
    · show ρ j < if 10 = 10 then g.1 10 + 1 else g.1 10
      rw [if_pos rfl]; exact Nat.lt_succ_of_lt r2
    · rw [addG_old r2 _ _ (by decide)]; exact r8 f hf
  · by_cases hrR : r = R
    · subst hrR; exact hz
    · exact h5 r (by omega) hno
  · by_cases hrR : r = R
    · subst hrR
      rw [nrU_80, if_pos rfl, nI_eq (by omega) (by omega)] at ho
      exact absurd ho.symm hne
    · rw [nrU_80, if_neg hrR] at ho
      exact h6 r (by omega) ho
theorem rl_new {S P N R Q i m n : Nat} {ρ π : Nat → Nat} {g : sg} {u : MS} (h : rl9 S P N R Q g u) (hi : i < 5) (hn : n < N) (hR : R < 50) (hrn : rRn R i m ρ π g u) (hno : ∀ r, r < R → ¬ (u 80 r = nI i ∧ u 81 r = nI n)) (hc : cn (fun r => decide (u 80 r = nI i)) R < 10) : rl9 S P N (R + 1) Q (addG g i m (nI i) (nI n)) (nrU u R (nI i) (nI n)) := by
  obtain ⟨hsh, hT, hN, hW, hG, hRR, hS, hE, hQ, hF, hP⟩ := h
  have n48 := hN.2.1
  have hG0 := hG
  obtain ⟨g1, g2, g3, g4, g5⟩ := hG
  refine ⟨hsh, hT, hN, ?_, ⟨by omega, rfl, fun r hr => ?_, fun r s hr hs e1 e2 => ?_, fun o ho => ?_⟩, ⟨fun i' hi' => ?_, injR_add hRR.2.1 (by have := hrn.1; omega) hrn.2.1 (hRR.hold g1), fun i' r hi' hr hr2 => hRR.2.2 i' r hi' (by omega) hr2⟩, hS, hE, hQ, hF, hP⟩
  · intro e he
    obtain ⟨b0, b1, b2', w', b3, b4, b5, b6, b7⟩ := hW e he
    refine ⟨b0, b1, b2', w', b3, b4, b5, b6, fun j hj => ?_⟩
    obtain ⟨p, p1, p2, p3, p4⟩ := b7 j hj
    refine ⟨p, p1, p2, p3, ?_⟩
    rcases p4 with z | z | z | ⟨z1, z2, z3, z4, z5, ⟨r, hr, z6, z7⟩, z8⟩
    · exact Or.inl z
    · exact Or.inr (Or.inl z)
    · exact Or.inr (Or.inr (Or.inl z))
    · refine Or.inr (Or.inr (Or.inr ⟨z1, z2, z3, z4, z5, ⟨r, by omega, ?_, ?_⟩, z8⟩))
      · rw [nrU_80, if_neg (by omega)]; exact z6
      · rw [nrU_81, if_neg (by omega)]; exact z7
  · rw [nrU_80, nrU_81]
    by_cases hrR : r = R
    · rw [if_pos hrR, if_pos hrR]; exact ⟨⟨i, hi, rfl⟩, n, hn, rfl⟩
    · rw [if_neg hrR, if_neg hrR]; exact g3 r (by omega)
  · rw [nrU_80, nrU_80] at e1
    rw [nrU_81, nrU_81] at e2
    by_cases c1 : r = R <;> by_cases c2 : s = R
    · omega
    · rw [if_pos c1, if_neg c2] at e1 e2
      exact absurd ⟨e1.symm, e2.symm⟩ (hno s (by omega))
    · rw [if_neg c1, if_pos c2] at e1 e2
      exact absurd ⟨e1, e2⟩ (hno r (by omega))
    · rw [if_neg c1, if_neg c2] at e1 e2
      exact g4 r s (by omega) (by omega) e1 e2
  · have e : cn (fun r => decide (nrU u R (nI i) (nI n) 80 r = nI o)) R = cn (fun r => decide (u 80 r = nI o)) R := cn_congr fun r hr => by rw [nrU_80, if_neg (by omega)]
    show (if decide (nrU u R (nI i) (nI n) 80 R = nI o) = true then cn (fun r => decide (nrU u R (nI i) (nI n) 80 r = nI o)) R + 1 else cn (fun r => decide (nrU u R (nI i) (nI n) 80 r = nI o)) R) ≤ 10
    rw [e, nrU_80, if_pos rfl]
    by_cases c : i = o
    · subst c
      rw [if_pos (by simp)]; omega
    · rw [if_neg]
      · exact g5 o ho
      · simp only [decide_eq_true_eq]
        rw [nI_eq (by omega) (by omega)]; exact c
  · by_cases hc' : i' = i
    · subst hc'
      exact ⟨m + 1, _, _, rRn_new hrn hG0 (hRR.2.2 i' R hi' (Nat.le_refl _) hR) hi'⟩
    · obtain ⟨m', ρ', π', hn'⟩ := hRR.1 i' hi'
      exact ⟨m', ρ', π', rRn_newO hn' (hRR.2.2 i' R hi' (Nat.le_refl _) hR) hi hi' hc'⟩
