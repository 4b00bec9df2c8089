/-- requests that end -/
def hitB (u : MS) (i n f : Int32) (y : Nat) : Bool := decide (u 102 y = i) && decide (u 103 y = n) && decide (u 104 y = f) && decide (u 105 y = 0)
theorem hitB_iff {u : MS} {i n f : Int32} {y : Nat} : hitB u i n f y = true ↔ u 102 y = i ∧ u 103 y = n ∧ u 104 y = f ∧ u 105 y = 0 := by
  unfold hitB
  simp [and_assoc]
def stU (u : MS) (i n f s a b : Int32) (j : Nat) : MS := fun k y => if k = 105 ∧ y < j ∧ hitB u i n f y = true then s else if k = 107 ∧ y < j ∧ hitB u i n f y = true then a else if k = 108 ∧ y < j ∧ hitB u i n f y = true then b else u k y
theorem stU_0 {u : MS} {i n f s a b : Int32} : stU u i n f s a b 0 = u := by
  funext k y
  unfold stU
  rw [if_neg (by omega), if_neg (by omega), if_neg (by omega)]
theorem stU_hit {u : MS} {i n f s a b : Int32} {j : Nat} (h : hitB u i n f j = true) : mu (mu (mu (stU u i n f s a b j) 105 j s) 107 j a) 108 j b = stU u i n f s a b (j + 1) := by
  funext k y
  simp only [mu_at]
  by_cases hy : y = j
  · subst hy
    unfold stU
    by_cases k8 : k = 108
    · subst k8
      rw [if_pos ⟨rfl, rfl⟩, if_neg (by omega), if_neg (by omega), if_pos ⟨rfl, by omega, h⟩]
    rw [if_neg (fun z => k8 z.1)]
    by_cases k7 : k = 107
    · subst k7
      rw [if_pos ⟨rfl, rfl⟩, if_neg (by omega), if_pos ⟨rfl, by omega, h⟩]
    rw [if_neg (fun z => k7 z.1)]
    by_cases k5 : k = 105
    · subst k5
      rw [if_pos ⟨rfl, rfl⟩, if_pos ⟨rfl, by omega, h⟩]
    rw [if_neg (fun z => k5 z.1), if_neg (by omega), if_neg (by omega), if_neg (by omega), if_neg (by omega), if_neg (by omega), if_neg (by omega)]
  · rw [if_neg (fun z => hy z.2), if_neg (fun z => hy z.2), if_neg (fun z => hy z.2)]
    have e : ∀ K, (K ∧ y < j ∧ hitB u i n f y = true) ↔ (K ∧ y < j + 1 ∧ hitB u i n f y = true) := fun K => ⟨fun z => ⟨z.1, by omega, z.2.2⟩, fun z => ⟨z.1, by omega, z.2.2⟩⟩
    unfold stU
    simp only [e]
theorem stU_no {u : MS} {i n f s a b : Int32} {j : Nat} (h : hitB u i n f j = false) : stU u i n f s a b j = stU u i n f s a b (j + 1) := by
  funext k y
  have e : ∀ K, (K ∧ y < j ∧ hitB u i n f y = true) ↔ (K ∧ y < j + 1 ∧ hitB u i n f y = true) := fun K => ⟨fun z => ⟨z.1, by omega, z.2.2⟩, fun z => ⟨z.1, by
    have : y ≠ j := fun e => by rw [e, h] at z; exact absurd z.2.2 (by decide)
    omega, z.2.2⟩⟩
  unfold stU
  simp only [e]
theorem c_Mod_settle {u : MS} {Q : Nat} {i n f s a b : Int32} {Z : MS → Prop} (hQ : Q ≤ 120) (h101 : u 101 0 = nI Q) (h : Z (stU u i n f s a b Q)) : mMT M_Mod_settle [qr 1 (some 0), qi i, qi n, qi f, qi s, qi a, qi b] u (mV Z) := by
  refine mt_Mod_settle ?_
  have key : ∀ j, j ≤ Q → mWP M_Mod_settle 3 [qr 1 (some 0), qi i, qi n, qi f, qi s, qi a, qi b, qi (nI j)] [] (stU u i n f s a b j) (mV Z) := by
    refine dn Q ?_ ?_
    · refine mb_Mod_settle_3 ⟨fun _ => h, fun q => absurd ?_ q⟩
      show u 101 0 ≤ nI Q
      rw [h101]; exact nI_le (Nat.le_refl _) (by omega)
    · intro j hj ih
      have e5 : stU u i n f s a b j 105 j = u 105 j := by
        show (if 105 = 105 ∧ j < j ∧ hitB u i n f j = true then s else u 105 j) = _
        rw [if_neg (by omega)]
      refine mb_Mod_settle_3 ⟨fun q => ?_, fun _ => ?_⟩
      · have q' : u 101 0 ≤ nI j := q
        rw [h101] at q'
        exact absurd q' (nI_ge hj (by omega))
      rw [nI_clamp (show j < 2 ^ 31 by omega), nI_1, e5]
      have hno : hitB u i n f j = false → mWP M_Mod_settle 3 [qr 1 (some 0), qi i, qi n, qi f, qi s, qi a, qi b, qi (nI (j + 1))] [] (stU u i n f s a b j) (mV Z) := fun hh => by
        rw [stU_no hh]; exact ih
      refine ⟨(vpi (by omega)).mpr (by omega), fun q => hno ?_, fun q1 => ⟨fun q => hno ?_, fun q2 => ⟨fun q => hno ?_, fun q3 => ⟨fun q => hno ?_, fun q4 u1 h1 u2 h2 u3 h3 => ?_⟩⟩⟩⟩
      · have q' : ¬ u 102 j = i := q
        unfold hitB; simp [q']
      · have q' : ¬ u 103 j = n := q
        unfold hitB; simp [q']
      · have q' : ¬ u 104 j = f := q
        unfold hitB; simp [q']
      · unfold hitB; simp [q]
      · have hh : hitB u i n f j = true := hitB_iff.mpr ⟨q1, q2, q3, q4⟩
        rw [h2, h1, stU_hit hh] at h3
        subst h3
        exact ih
  have := key 0 (Nat.zero_le _)
  rw [stU_0] at this
  exact this
def stG (g : sg) (u : MS) (i n f s : Int32) (o : Option Nat) (j : Nat) : sg := (g.1, (fun k a y => if k = 580 ∧ a < j ∧ y = 0 ∧ hitB u i n f a = true then s else g.2.1 k a y), (fun k a y => if k = 581 ∧ a < j ∧ y = 0 ∧ hitB u i n f a = true then o else g.2.2.1 k a y), g.2.2.2)
theorem stG_0 {g : sg} {u : MS} {i n f s : Int32} {o : Option Nat} : stG g u i n f s o 0 = g := by
  unfold stG
  refine Prod.ext rfl (Prod.ext ?_ (Prod.ext ?_ rfl))
  · funext k a y
    dsimp only
    rw [if_neg (by omega)]
  · funext k a y
    dsimp only
    rw [if_neg (by omega)]
theorem stG_hit {g : sg} {u : MS} {i n f s : Int32} {o : Option Nat} {j : Nat} (h : hitB u i n f j = true) : pR (pI (stG g u i n f s o j) 580 j 0 s) 581 j 0 o = stG g u i n f s o (j + 1) := by
  unfold pR pI stG
  refine Prod.ext rfl (Prod.ext ?_ (Prod.ext ?_ rfl))
  · funext k a y
    dsimp only
    by_cases h1 : k = 580 ∧ a = j ∧ y = 0
    · obtain ⟨rfl, rfl, rfl⟩ := h1
      rw [if_pos ⟨rfl, rfl, rfl⟩, if_pos ⟨rfl, by omega, rfl, h⟩]
    · rw [if_neg h1]
      have e : (k = 580 ∧ a < j ∧ y = 0 ∧ hitB u i n f a = true) ↔ (k = 580 ∧ a < j + 1 ∧ y = 0 ∧ hitB u i n f a = true) := ⟨fun z => ⟨z.1, by omega, z.2.2⟩, fun z => ⟨z.1, by omega, z.2.2⟩⟩
      simp only [e]
  · funext k a y
    dsimp only
    by_cases h1 : k = 581 ∧ a = j ∧ y = 0
    · obtain ⟨rfl, rfl, rfl⟩ := h1
      rw [if_pos ⟨rfl, rfl, rfl⟩, if_pos ⟨rfl, by omega, rfl, h⟩]
    · rw [if_neg h1]
      have e : (k = 581 ∧ a < j ∧ y = 0 ∧ hitB u i n f a = true) ↔ (k = 581 ∧ a < j + 1 ∧ y = 0 ∧ hitB u i n f a = true) := ⟨fun z => ⟨z.1, by omega, z.2.2⟩, fun z => ⟨z.1, by omega, z.2.2⟩⟩
      simp only [e]
theorem stG_no {g : sg} {u : MS} {i n f s : Int32} {o : Option Nat} {j : Nat} (h : hitB u i n f j = false) : stG g u i n f s o j = stG g u i n f s o (j + 1) := by
  have e : ∀ K a y, (K ∧ a < j ∧ y = 0 ∧ hitB u i n f a = true) ↔ (K ∧ a < j + 1 ∧ y = 0 ∧ hitB u i n f a = true) := fun K a y => ⟨fun z => ⟨z.1, by omega, z.2.2⟩, fun z => ⟨z.1, by
    have : a ≠ j := fun e => by rw [e, h] at z; exact absurd z.2.2.2 (by decide)
    omega, z.2.2⟩⟩
  unfold stG
  simp only [e]
theorem c_Net_endRequests {X : Nat × (Nat → Int32)} {kk N Q : Nat} {g : sg} {u : MS} {i n f s : Int32} {o : Option Nat} {Z : sg → Prop} (hA : gA g 9 0 = some 120) (hQ : rQ N Q g u) (hs : (o = none ∧ s = 2) ∨ ((∃ p, o = some p) ∧ s = 1)) (h : Z (stG g u i n f s o Q)) : nnMT X M_Net_endRequests kk [qr 0 (some 0), qi i, qi n, qi f, qr 7 o] g (zV Z) := by
  obtain ⟨q1, q2, q3, q4, q5, q6⟩ := hQ
  refine t_Net_endRequests ?_
  have key : ∀ j, j ≤ Q → nnWP X M_Net_endRequests kk 3 [qr 0 (some 0), qi i, qi n, qi f, qr 7 o, qi (nI j), none] [] (stG g u i n f s o j) (zV Z) := by
    refine dn Q ?_ ?_
    · refine b_Net_endRequests_3 ⟨fun _ => h, fun q => absurd ?_ q⟩
      show gI g 10 0 0 ≤ nI Q
      rw [q3]; exact nI_le (Nat.le_refl _) (by omega)
    · intro j hj ih
      obtain ⟨c0, c1, c2, c3, c4, c5, -⟩ := q5 j hj
      have e5 : gI (stG g u i n f s o j) 580 j 0 = u 105 j := by
        show (if 580 = 580 ∧ j < j ∧ 0 = 0 ∧ hitB u i n f j = true then s else gI g 580 j 0) = _
        rw [if_neg (by omega)]; exact c5
      have hno : hitB u i n f j = false → nnWP X M_Net_endRequests kk 3 [qr 0 (some 0), qi i, qi n, qi f, qr 7 o, qi (nI (j + 1)), none] [] (stG g u i n f s o j) (zV Z) := fun hh => by
        rw [stG_no hh]; exact ih
      refine b_Net_endRequests_3 ⟨fun q => ?_, fun _ => ⟨hA, (vpi (by omega)).mpr (by omega), j, by rw [nI_clamp (by omega)]; exact c0, ?_⟩⟩
      · have q' : gI g 10 0 0 ≤ nI j := q
        rw [q3] at q'
        exact absurd q' (nI_ge hj (by omega))
      rw [nI_1, e5]
      refine ⟨fun q => hno ?_, fun z4 => ⟨fun q => hno ?_, fun z1 => ⟨fun q => hno ?_, fun z2 => ⟨fun q => hno ?_, fun z3 => ?_⟩⟩⟩⟩
      · unfold hitB; simp [q]
      · have q' : ¬ gI g 576 j 0 = i := q
        rw [c1] at q'
        unfold hitB; simp [q']
      · have q' : ¬ gI g 577 j 0 = n := q
        rw [c2] at q'
        unfold hitB; simp [q']
      · have q' : ¬ gI g 578 j 0 = f := q
        rw [c3] at q'
        unfold hitB; simp [q']
      · have z1' : gI g 576 j 0 = i := z1
        have z2' : gI g 577 j 0 = n := z2
        have z3' : gI g 578 j 0 = f := z3
        rw [c1] at z1'
        rw [c2] at z2'
        rw [c3] at z3'
        have hh : hitB u i n f j = true := hitB_iff.mpr ⟨z1', z2', z3', z4⟩
        refine ⟨fun ho g1 h1 g2 h2 => ?_, fun p ho g1 h1 g2 h2 => ?_⟩
        · have es : s = 2 := by
            rcases hs with ⟨-, e⟩ | ⟨⟨p, e⟩, -⟩
            · exact e
            · rw [ho] at e; cases e
          rw [h1, ← es, stG_hit hh] at h2
          subst h2; exact ih
        · have es : s = 1 := by
            rcases hs with ⟨e, -⟩ | ⟨-, e⟩
            · rw [ho] at e; cases e
            · exact e
          rw [h1, ← es, stG_hit hh] at h2
          subst h2; exact ih
  have := key 0 (Nat.zero_le _)
  rw [stG_0] at this
  exact this
theorem rl_settle {S P N R Q : Nat} {g : sg} {u : MS} {i n f s a b : Int32} {o : Option Nat} (h : rl9 S P N R Q g u) (hs : (o = none ∧ s = 2 ∧ a = -1 ∧ b = 0) ∨ ∃ p c, o = some p ∧ s = 1 ∧ dtv N g p a b c) : rl9 S P N R Q (stG g u i n f s o Q) (stU u i n f s a b Q) := by
  obtain ⟨hsh, hT, hN, hW, hG, hRR, hS, hE, hQ, hF, hP⟩ := h
  obtain ⟨q1, q2, q3, q4, q5, q6⟩ := hQ
  have e105 : ∀ q, stU u i n f s a b Q 105 q = if q < Q ∧ hitB u i n f q = true then s else u 105 q := by
    intro q
    show (if 105 = 105 ∧ q < Q ∧ hitB u i n f q = true then s else u 105 q) = _
    by_cases c : q < Q ∧ hitB u i n f q = true
    · rw [if_pos c, if_pos ⟨rfl, c⟩]
    · rw [if_neg c, if_neg (fun z => c z.2)]
  have e107 : ∀ q, stU u i n f s a b Q 107 q = if q < Q ∧ hitB u i n f q = true then a else u 107 q := by
    intro q
    show (if 107 = 107 ∧ q < Q ∧ hitB u i n f q = true then a else u 107 q) = _
    by_cases c : q < Q ∧ hitB u i n f q = true
    · rw [if_pos c, if_pos ⟨rfl, c⟩]
    · rw [if_neg c, if_neg (fun z => c z.2)]
  have e108 : ∀ q, stU u i n f s a b Q 108 q = if q < Q ∧ hitB u i n f q = true then b else u 108 q := by
    intro q
    show (if 108 = 108 ∧ q < Q ∧ hitB u i n f q = true then b else u 108 q) = _
    by_cases c : q < Q ∧ hitB u i n f q = true
    · rw [if_pos c, if_pos ⟨rfl, c⟩]
    · rw [if_neg c, if_neg (fun z => c z.2)]
  have e580 : ∀ q, gI (stG g u i n f s o Q) 580 q 0 = if q < Q ∧ hitB u i n f q = true then s else gI g 580 q 0 := by
    intro q
    show (if 580 = 580 ∧ q < Q ∧ 0 = 0 ∧ hitB u i n f q = true then s else gI g 580 q 0) = _
    by_cases c : q < Q ∧ hitB u i n f q = true
    · rw [if_pos c, if_pos ⟨rfl, c.1, rfl, c.2⟩]
    · rw [if_neg c, if_neg (fun z => c ⟨z.2.1, z.2.2.2⟩)]
  have e581 : ∀ q, gR (stG g u i n f s o Q) 581 q 0 = if q < Q ∧ hitB u i n f q = true then o else gR g 581 q 0 := by
    intro q
    show (if 581 = 581 ∧ q < Q ∧ 0 = 0 ∧ hitB u i n f q = true then o else gR g 581 q 0) = _
    by_cases c : q < Q ∧ hitB u i n f q = true
    · rw [if_pos c, if_pos ⟨rfl, c.1, rfl, c.2⟩]
    · rw [if_neg c, if_neg (fun z => c ⟨z.2.1, z.2.2.2⟩)]
  refine ⟨hsh, hT, hN, hW, hG, hRR, hS, hE, ⟨q1, q2, q3, q4, fun q hq => ?_, fun q hq hq2 => ?_⟩, fun i' hi' => ?_, hP⟩
  · obtain ⟨c0, c1, c2, c3, c4, c5, c6, c7⟩ := q5 q hq
    refine ⟨c0, c1, c2, c3, c4, ?_, ?_, ?_⟩
    · rw [e580, e105, c5]
    · rw [e105]
      split
      · rcases hs with ⟨-, e, -⟩ | ⟨p, c, -, e, -⟩
        · exact ⟨2, by omega, e⟩
        · exact ⟨1, by omega, e⟩
      · exact c6
    · rw [e581, e105, e107, e108]
      by_cases c : q < Q ∧ hitB u i n f q = true
      · rw [if_pos c, if_pos c, if_pos c, if_pos c]
        rcases hs with ⟨z1, z2, z3, z4⟩ | ⟨p, c, z1, z2, z3⟩
        · exact Or.inl ⟨z1, z3, z4, by rw [z2]; decide⟩
        · exact Or.inr ⟨p, c, z1, z3, z2⟩
      · rw [if_neg c, if_neg c, if_neg c, if_neg c]
        exact c7
  · rw [e108, if_neg (by omega)]
    exact q6 q hq hq2
  · obtain ⟨c, w, f1, f2, f3, f4, f5, f6, f7, f8, f9⟩ := hF i' hi'
    refine ⟨c, w, f1, f2, f3, f4, f5, f6, f7, f8, fun j hj => ?_⟩
    obtain ⟨k1, k2, k3, t, k4, k5, k6, k7⟩ := f9 j hj
    refine ⟨k1, k2, k3, t, k4, k5, k6, ?_⟩
    rcases k7 with z | ⟨q, z1, z2, z3, z4 | ⟨z4, z5⟩⟩
    · exact Or.inl z
    · exact Or.inr ⟨q, z1, z2, z3, Or.inl z4⟩
    · refine Or.inr ⟨q, z1, z2, z3, Or.inr ⟨z4, ?_⟩⟩
      rw [e105, if_neg]
      · exact z5
      · rintro ⟨-, hh⟩
        have := (hitB_iff.mp hh).2.2.2
        rw [z5] at this
        exact absurd this (by decide)
theorem ePr_settle {g : sg} {u : MS} {i n f s a b : Int32} {o : Option Nat} {Q : Nat} : ePr g (stG g u i n f s o Q) u (stU u i n f s a b Q) := by
  refine ⟨fun k h1 h2 => ?_, fun k hk => ⟨?_, ?_⟩, ⟨Nat.le_refl _, fun k p y hk _ => ?_⟩, rfl⟩
  · funext y
    unfold stU
    rw [if_neg (by omega), if_neg (by omega), if_neg (by omega)]
  · funext a y
    show (if k = 580 ∧ a < Q ∧ y = 0 ∧ hitB u i n f a = true then s else gI g k a y) = _
    rw [if_neg (by omega)]
  · funext a y
    show (if k = 581 ∧ a < Q ∧ y = 0 ∧ hitB u i n f a = true then o else gR g k a y) = _
    rw [if_neg (by omega)]
  · show (if k = 580 ∧ p < Q ∧ y = 0 ∧ hitB u i n f p = true then s else gI g k p y) = _
    rw [if_neg (by omega)]
theorem ePr_put {g : sg} {u : MS} {e p : Nat} {k a b c d : Int32} : ePr g (putG g e p) u (putU u e k a b c d) := by
  refine ⟨fun k h1 h2 => putU_at (by omega) (by omega), fun k hk => ⟨putG_I (by omega), putG_R (by omega)⟩, ⟨by rw [putG_C]; exact Nat.le_refl _, fun f p k hf _ => by rw [putG_I (by omega)]⟩, putU_at (by decide) (by decide)⟩
theorem ePr_agP {g g' : sg} {u : MS} (h : agP g g') : ePr g g' u u := by
  refine ⟨fun _ _ _ => rfl, fun f hf => ⟨?_, ?_⟩, h.pkS, rfl⟩
  · funext a k; exact h.2.2.1 f a k (by omega)
  · funext a k; exact h.2.2.2.1 f a k (by omega)
def nkU (u : MS) (Q i F : Nat) (x y z : Int32) : MS := if F = 4 then stU u (nI i) x y 2 (-1) 0 Q else putU u (4 * i + F) 2 x y z 0
theorem nack_p {S P N R Q i F : Nat} {g : sg} {u : MS} {x y z : Int32} (h : rl9 S P N R Q g u) (hi : i < 5) (hF : F < 5) (hz : ∃ q, q < 120 ∧ z = nI (1000 + q)) :
    (∀ Z : MS → Prop, Z (nkU u Q i F x y z) → mMT M_Mod_nackOut [qr 1 (some 0), qi (nI i), qi (nI F), qi x, qi y, qi z] u (mV Z)) ∧ ∀ (X : Nat × (Nat → Int32)) (Z : sg → Prop), (∀ g', rl9 S P N R Q g' (nkU u Q i F x y z) → ePr g g' u (nkU u Q i F x y z) → Z g') → nnMT X M_Packet_nack 1 [qi x, qi y, qi z] g (zR 7 fun r g2 => gExt g g2 → nnMT X M_Net_sendNack 0 [qr 0 (some 0), qr 6 (some i), qi (nI F), qr 7 r] g2 (zV fun g3 => gExt g2 g3 → Z g3)) := by
  have hQ := h.2.2.2.2.2.2.2.2.1
  unfold nkU
  refine ⟨fun Z hZ => mt_Mod_nackOut ⟨fun q => ?_, fun q => ?_⟩, fun X Z hZ => c_Packet_nack (Nat.le_refl _) fun g2 ha f1 f2 f3 f4 _ => t_Net_sendNack ⟨fun q => ⟨i, rfl, gC g 7, rfl, ?_⟩, fun q => ⟨i, rfl, ?_⟩⟩⟩
  · rw [nl_4, nI_eq (by omega) (by omega)] at q
    rw [if_neg q] at hZ
    rw [nl_4, pk_mul, nI_add]
    obtain ⟨w, w1, w2, w3⟩ := h.w (e := 4 * i + F) (by omega)
    exact c_Mod_put (by omega) w1 w3 hZ
  · rw [nl_4, nI_eq (by omega) (by omega)] at q
    rw [if_pos q] at hZ
    exact c_Mod_settle hQ.1 hQ.2.2.2.1 hZ
  · have hl2 := rl_agP h ha
    rw [nl_4, nI_leI (by omega) (by omega)] at q
    rw [if_pos (show F = 4 by omega)] at hZ
    rw [(hl2.1.1.2.2.2 i hi).2.2.2.2, f2, f3]
    exact c_Net_endRequests hl2.1.2.1.2.2.2.2.2.1 hl2.2.2.2.2.2.2.2.2.1 (Or.inl ⟨rfl, rfl⟩) fun _ _ => hZ _ (rl_settle hl2 (Or.inl ⟨rfl, rfl, rfl, rfl⟩)) ((ePr_agP ha).tr ePr_settle)
  · have hl2 := rl_agP h ha
    rw [nl_4, nI_leI (by omega) (by omega)] at q
    rw [if_neg (show ¬ F = 4 by omega)] at hZ
    obtain ⟨w, w1, w2, w3⟩ := hl2.w (e := 4 * i + F) (by omega)
    have hp : pkv N R g2 u (gC g 7) 2 x y z 0 := ⟨by rw [ha.2.1]; omega, f1, Or.inr (Or.inr (Or.inl ⟨rfl, f2, f3, f4, hz⟩))⟩
    refine ⟨(hl2.1.2.2.1 i hi).1, (vpi (by omega)).mpr (by omega), 4 * i + F, by rw [nI_clamp (by omega)]; exact hl2.1.1.2.2.1 i F hi (by omega), c_Face_put w1 (hl2.1.2.2.2.1 _ (by omega)) w2 fun _ _ => ?_⟩
    exact hZ _ (rl_put hl2 (by omega) hp) ((ePr_agP ha).tr ePr_put)
def dtU (u : MS) (Q i F : Nat) (x y w n f : Int32) : MS := if F = 4 then stU u (nI i) n f 1 x y Q else putU u (4 * i + F) 1 x y w 0
theorem dtv.pkv {N R p : Nat} {g : sg} {u : MS} {x y w : Int32} (h : dtv N g p x y w) : pkv N R g u p 1 x y w 0 := ⟨h.1, h.2.1, Or.inr (Or.inl ⟨rfl, h.2.2.1, h.2.2.2.1, h.2.2.2.2.1, h.2.2.2.2.2⟩)⟩
theorem dtv.pk {N p : Nat} {g g' : sg} {x y w : Int32} (h : dtv N g p x y w) (hs : pkS g g') : dtv N g' p x y w := by
  obtain ⟨h1, h2, h3, h4, h5, h6⟩ := h
  refine ⟨Nat.lt_of_lt_of_le h1 hs.1, ?_, ?_, ?_, ?_, h6⟩
  · rw [hs.2 448 p 0 rfl h1]; exact h2
  · rw [hs.2 449 p 0 rfl h1]; exact h3
  · rw [hs.2 453 p 0 rfl h1]; exact h4
  · rw [hs.2 454 p 0 rfl h1]; exact h5
theorem sdata_c {X : Nat × (Nat → Int32)} {kk S P N R Q i F p : Nat} {g : sg} {u : MS} {x y w n f : Int32} {Z : sg → Prop} (h : rl9 S P N R Q g u) (hi : i < 5) (hF : F < 5) (hp : dtv N g p x y w) (hZ : ∀ g', rl9 S P N R Q g' (dtU u Q i F x y w n f) → ePr g g' u (dtU u Q i F x y w n f) → Z g') : nnMT X M_Net_sendData kk [qr 0 (some 0), qr 6 (some i), qi (nI F), qr 7 (some p), qi n, qi f] g (zV Z) := by
  unfold dtU at hZ
  refine t_Net_sendData ⟨fun q => ⟨i, rfl, ?_⟩, fun q => ⟨i, rfl, ?_⟩⟩
  · rw [nl_4, nI_leI (by omega) (by omega)] at q
    rw [if_pos (show F = 4 by omega)] at hZ
    rw [(h.1.1.2.2.2 i hi).2.2.2.2]
    exact c_Net_endRequests h.1.2.1.2.2.2.2.2.1 h.2.2.2.2.2.2.2.2.1 (Or.inr ⟨⟨p, rfl⟩, rfl⟩) fun _ => hZ _ (rl_settle h (Or.inr ⟨p, w, rfl, rfl, hp⟩)) ePr_settle
  · rw [nl_4, nI_leI (by omega) (by omega)] at q
    rw [if_neg (show ¬ F = 4 by omega)] at hZ
    obtain ⟨w, w1, w2, w3⟩ := h.w (e := 4 * i + F) (by omega)
    refine ⟨(h.1.2.2.1 i hi).1, (vpi (by omega)).mpr (by omega), 4 * i + F, by rw [nI_clamp (by omega)]; exact h.1.1.2.2.1 i F hi (by omega), c_Face_put w1 (h.1.2.2.2.1 _ (by omega)) w2 fun _ => ?_⟩
    exact hZ _ (rl_put h (by omega) hp.pkv) ePr_put
