def bgG (g : sg) (i : Nat) (k w : Int32) (n : Nat) : sg := (g.1, (fun f a y => if f = 256 ∧ a = i ∧ y = 0 then k else if f = 257 ∧ a = i ∧ y = 0 then w else if f = 258 ∧ a = i ∧ y = 0 then 0 else if (f = 260 ∨ f = 261) ∧ a = i ∧ y < n then 0 else g.2.1 f a y), (fun f a y => if f = 262 ∧ a = i ∧ y < n then none else g.2.2.1 f a y), g.2.2.2)
theorem bgG_I (g : sg) (i : Nat) (k w : Int32) (n f a y : Nat) : gI (bgG g i k w n) f a y = if f = 256 ∧ a = i ∧ y = 0 then k else if f = 257 ∧ a = i ∧ y = 0 then w else if f = 258 ∧ a = i ∧ y = 0 then 0 else if (f = 260 ∨ f = 261) ∧ a = i ∧ y < n then 0 else gI g f a y := rfl
theorem bgG_0 (g : sg) (i : Nat) (k w : Int32) : pI (pI (pI g 256 i 0 k) 257 i 0 w) 258 i 0 0 = bgG g i k w 0 := by
  refine Prod.ext rfl (Prod.ext ?_ (Prod.ext ?_ rfl))
  · funext f a y
    show gI (pI (pI (pI g 256 i 0 k) 257 i 0 w) 258 i 0 0) f a y = gI (bgG g i k w 0) f a y
    rw [bgG_I, gI_pI, gI_pI, gI_pI]
    by_cases c1 : f = 256 ∧ a = i ∧ y = 0
    · rw [if_neg (by omega), if_neg (by omega), if_pos c1, if_pos c1]
    · rw [if_neg c1, if_neg c1]
      by_cases c2 : f = 257 ∧ a = i ∧ y = 0
      · rw [if_neg (by omega), if_pos c2, if_pos c2]
      · rw [if_neg c2, if_neg c2]
        by_cases c3 : f = 258 ∧ a = i ∧ y = 0
        · rw [if_pos c3, if_pos c3]
        · rw [if_neg c3, if_neg c3, if_neg (by omega)]
  · funext f a y
    show g.2.2.1 f a y = if f = 262 ∧ a = i ∧ y < 0 then none else g.2.2.1 f a y
    rw [if_neg (by omega)]
theorem bgG_s (g : sg) (i : Nat) (k w : Int32) (n : Nat) : pR (pI (pI (bgG g i k w n) 260 i n 0) 261 i n 0) 262 i n none = bgG g i k w (n + 1) := by
  refine Prod.ext rfl (Prod.ext ?_ (Prod.ext ?_ rfl))
  · funext f a y
    show gI (pI (pI (bgG g i k w n) 260 i n 0) 261 i n 0) f a y = gI (bgG g i k w (n + 1)) f a y
    rw [gI_pI, gI_pI, bgG_I, bgG_I]
    by_cases c1 : f = 256 ∧ a = i ∧ y = 0
    · rw [if_neg (by omega), if_neg (by omega), if_pos c1, if_pos c1]
    · rw [if_neg c1, if_neg c1]
      by_cases c2 : f = 257 ∧ a = i ∧ y = 0
      · rw [if_neg (by omega), if_neg (by omega), if_pos c2, if_pos c2]
      · rw [if_neg c2, if_neg c2]
        by_cases c3 : f = 258 ∧ a = i ∧ y = 0
        · rw [if_neg (by omega), if_neg (by omega), if_pos c3, if_pos c3]
        · rw [if_neg c3, if_neg c3]
          by_cases c4 : (f = 260 ∨ f = 261) ∧ a = i ∧ y < n + 1
          · rw [if_pos c4]
            by_cases c5 : f = 261 ∧ a = i ∧ y = n
            · rw [if_pos c5]
            · rw [if_neg c5]
              by_cases c6 : f = 260 ∧ a = i ∧ y = n
              · rw [if_pos c6]
              · rw [if_neg c6, if_pos (by omega)]
          · rw [if_neg c4, if_neg (by omega), if_neg (by omega), if_neg (by omega)]
  · funext f a y
    show (if f = 262 ∧ a = i ∧ y = n then none else if f = 262 ∧ a = i ∧ y < n then none else g.2.2.1 f a y) = if f = 262 ∧ a = i ∧ y < n + 1 then none else g.2.2.1 f a y
    by_cases c : f = 262 ∧ a = i ∧ y = n
    · rw [if_pos c, if_pos (by omega)]
    · rw [if_neg c]
      by_cases c2 : f = 262 ∧ a = i ∧ y < n
      · rw [if_pos c2, if_pos (by omega)]
      · rw [if_neg c2, if_neg (by omega)]
theorem c_Fetch_begin {X : Nat × (Nat → Int32)} {kk i : Nat} {g : sg} {k w : Int32} {Z : sg → Prop} (h260 : gA g 260 i = some 10) (h261 : gA g 261 i = some 10) (h262 : gA g 262 i = some 10) (h : Z (bgG g i k w 10)) : nnMT X M_Fetch_begin kk [qr 4 (some i), qi k, qi w] g (zV Z) := by
  refine t_Fetch_begin fun g1 y1 g2 y2 g3 y3 => ?_
  subst y1 y2 y3
  rw [bgG_0]
  have key : ∀ n, n ≤ 10 → nnWP X M_Fetch_begin kk 17 [qr 4 (some i), none, none, qi (nI n)] [] (bgG g i k w n) (zV Z) := by
    refine dn 10 ?_ ?_
    · exact b_Fetch_begin_17 ⟨fun _ => h, fun q => absurd (by decide) q⟩
    · intro n hn ih
      refine b_Fetch_begin_17 ⟨fun q => ?_, fun _ => ?_⟩
      · rw [nl_10, nI_leI (by omega) (by omega)] at q; omega
      · rw [nI_clamp (show n < 2 ^ 31 by omega), nI_1]
        refine ⟨h260, (vpi (by omega)).mpr hn, fun g1 y1 => ⟨by subst y1; exact h261, fun g2 y2 => ⟨by subst y2 y1; exact h262, fun g3 y3 => ?_⟩⟩⟩
        subst y3 y2 y1
        rw [bgG_s]
        exact ih
  exact key 0 (Nat.zero_le _)
theorem feJ_0 {S P N R Q i k w : Nat} {g : sg} {u : MS} (h : rl9 S P N R Q g u) (hi : i < 5) (hw : w ≤ 4) : feJ S P N R Q i k 0 (bgG g i (nI k) (nI w) 10) (mu (mu (mu u 109 i (nI k)) 110 i (nI w)) 111 i 0) := by
  have y4 : ∀ j', j' < 10 → gI (bgG g i (nI k) (nI w) 10) 260 i j' = 0 ∧ gI (bgG g i (nI k) (nI w) 10) 261 i j' = 0 := fun j' hj' => by
    rw [bgG_I, bgG_I]
    refine ⟨?_, ?_⟩
    · rw [if_neg (by omega), if_neg (by omega), if_neg (by omega), if_pos ⟨by omega, rfl, hj'⟩]
    · rw [if_neg (by omega), if_neg (by omega), if_neg (by omega), if_pos ⟨by omega, rfl, hj'⟩]
  refine ⟨?_, by rw [bgG_I, if_pos ⟨rfl, rfl, rfl⟩], by rw [mu_at, if_neg (by omega), mu_at, if_neg (by omega), mu_at, if_pos ⟨rfl, rfl⟩], y4⟩
  obtain ⟨hsh, hT, hN, hW, hG, hRR, hS, hE, hQ, hF, hP⟩ := h
  have eI : ∀ f, ¬ (256 ≤ f ∧ f ≤ 261) → gI (pI (bgG g i (nI k) (nI w) 10) 256 i 0 (nI 0)) f = gI g f := by
    intro f hf
    funext a y
    rw [gI_pI, if_neg (by omega), bgG_I, if_neg (by omega), if_neg (by omega), if_neg (by omega), if_neg (by omega)]
  have eR : ∀ f, f ≠ 262 → gR (pI (bgG g i (nI k) (nI w) 10) 256 i 0 (nI 0)) f = gR g f := by
    intro f hf
    funext a y
    show (if f = 262 ∧ a = i ∧ y < 10 then none else g.2.2.1 f a y) = g.2.2.1 f a y
    rw [if_neg (by omega)]
  have hW' := hW
  have hS' := hS
  have hE' := hE
  have hQ' := hQ
  have hP' := hP
  unfold rW pkv at hW'
  unfold rS dtv at hS'
  unfold rE rEn enf at hE'
  unfold rQ dtv at hQ'
  unfold rP dtv at hP'
  refine ⟨?_, ?_, ?_, ?_, hG, ?_, ?_, ?_, ?_, fun i' hi' => ?_, ?_⟩
  · unfold shC at hsh ⊢
    simp only [eI 384 (by omega), eR 5 (by omega), eR 6 (by omega), eR 385 (by omega), eR 386 (by omega), eR 387 (by omega), eR 388 (by omega), eR 389 (by omega)]
    exact hsh
  · unfold rT at hT ⊢
    simp only [eI 0 (by omega), eI 1 (by omega), eI 2 (by omega), eI 3 (by omega)]
    exact hT
  · unfold rN at hN ⊢
    simp only [eI 320 (by omega), eI 321 (by omega), eI 322 (by omega), eI 323 (by omega)]
    exact hN
  · unfold rW pkv
    simp only [eI 194 (by omega), eI 192 (by omega), eI 193 (by omega), eI 196 (by omega), eR 195 (by omega), eI 448 (by omega), eI 449 (by omega), eI 450 (by omega), eI 451 (by omega), eI 452 (by omega), eI 453 (by omega), eI 454 (by omega), eI 455 (by omega), eI 456 (by omega), eI 457 (by omega)]
    exact hW'
  · unfold rR rRn at hRR ⊢
    simp only [eI 705 (by omega), eI 640 (by omega), eI 641 (by omega), eI 642 (by omega), eI 643 (by omega), eR 704 (by omega)]
    exact hRR
  · unfold rS dtv
    simp only [eI 770 (by omega), eI 769 (by omega), eR 768 (by omega), eI 448 (by omega), eI 449 (by omega), eI 453 (by omega), eI 454 (by omega)]
    exact hS'
  · unfold rE rEn enf
    simp only [eI 128 (by omega), eI 129 (by omega), eI 130 (by omega), eI 131 (by omega), eI 132 (by omega), eI 133 (by omega), eI 134 (by omega), eI 513 (by omega), eR 512 (by omega)]
    exact hE'
  · unfold rQ dtv
    simp only [eI 10 (by omega), eR 9 (by omega), eI 576 (by omega), eI 577 (by omega), eI 578 (by omega), eI 579 (by omega), eI 580 (by omega), eR 581 (by omega), eI 448 (by omega), eI 449 (by omega), eI 453 (by omega), eI 454 (by omega)]
    exact hQ'
  · by_cases e : i' = i
    · subst e
      refine ⟨0, w, by omega, hw, ?_, ?_, ?_, ?_, ?_, ?_, fun j hj => absurd hj (by omega)⟩
      · rw [gI_pI, if_pos ⟨rfl, rfl, rfl⟩]
      · rw [mu_at, if_pos ⟨rfl, rfl⟩]
      · rw [gI_pI, if_neg (by omega), bgG_I, if_neg (by omega), if_pos ⟨rfl, rfl, rfl⟩]
      · rw [mu_at, if_neg (by omega), mu_at, if_neg (by omega), mu_at, if_pos ⟨rfl, rfl⟩]
      · rw [gI_pI, if_neg (by omega), bgG_I, if_neg (by omega), if_neg (by omega), if_pos ⟨rfl, rfl, rfl⟩, mu_at, if_neg (by omega), mu_at, if_pos ⟨rfl, rfl⟩]
      · exact Or.inl (by rw [mu_at, if_neg (by omega), mu_at, if_pos ⟨rfl, rfl⟩])
    · obtain ⟨c, w', f1, f2, f3, f4, f5, f6, f7, f8, f9⟩ := hF i' hi'
      have yI : ∀ f y, gI (pI (bgG g i (nI k) (nI w) 10) 256 i 0 (nI 0)) f i' y = gI g f i' y := by
        intro f y
        rw [gI_pI, if_neg (fun z => e z.2.1), bgG_I, if_neg (fun z => e z.2.1), if_neg (fun z => e z.2.1), if_neg (fun z => e z.2.1), if_neg (fun z => e z.2.1)]
      have yR : ∀ f y, gR (pI (bgG g i (nI k) (nI w) 10) 256 i 0 (nI 0)) f i' y = gR g f i' y := by
        intro f y
        show (if f = 262 ∧ i' = i ∧ y < 10 then none else g.2.2.1 f i' y) = g.2.2.1 f i' y
        rw [if_neg (fun z => e z.2.1)]
      have x : ∀ f, mu (mu (mu (mu u 109 i (nI k)) 110 i (nI w)) 111 i 0) 109 i (nI 0) f i' = u f i' := by
        intro f
        rw [mu_at, if_neg (fun z => e z.2), mu_at, if_neg (fun z => e z.2), mu_at, if_neg (fun z => e z.2), mu_at, if_neg (fun z => e z.2)]
      refine ⟨c, w', f1, f2, ?_, ?_, ?_, ?_, ?_, ?_, fun j hj => ?_⟩
      · rw [yI]; exact f3
      · rw [x]; exact f4
      · rw [yI]; exact f5
      · rw [x]; exact f6
      · rw [yI, x]; exact f7
      · rw [x]; exact f8
      · rw [yI, yI, yI, yR, x]
        exact f9 j hj
  · unfold rP dtv
    simp only [eR 7 (by omega), eI 8 (by omega), eI 448 (by omega), eI 449 (by omega), eI 453 (by omega), eI 454 (by omega)]
    exact hP'
theorem rN.dep {N n : Nat} {g : sg} {u : MS} (h : rN N g u) (hn : n < N) : ∃ d, d ≤ 4 ∧ u 72 n = nI d ∧ gI g 322 0 n = nI d := by
  obtain ⟨-, -, -, -, -, n6, n7, n8⟩ := h
  by_cases e : n = 0
  · subst e
    exact ⟨0, by omega, n7, n6⟩
  · obtain ⟨-, b, -, p, d, -, hd, -, -, h5⟩ := n8 n (by omega) hn
    exact ⟨d + 1, by omega, h5, by rw [b, h5]⟩
theorem pair_fetch (g : sg) (u : MS) (x y z w : Int32) (hr : RL g u) : PairI 0 M_Net_fetch M_Mod_fetch [qi x, qi y, qi z, qi w] g u := by
  have hr0 := hr
  obtain ⟨S, P, N, R, Q, h⟩ := hr
  have hN := h.2.2.1
  have hsh := h.1
  have h1N := hN.1
  have hN48 := hN.2.1
  have h70 := hN.2.2.2.1
  have h323 := hN.2.2.1
  by_cases hall : (inN x 5 = true ∧ inN y N = true) ∧ ¬ z < 1 ∧ ¬ 10 < z ∧ ¬ w < 1 ∧ ¬ 4 < w
  · obtain ⟨⟨b1, b2'⟩, b3, b4, b5, b6⟩ := hall
    have b1' : ¬ b2 (inN x 5) = 0 := by rw [b2_t b1]; decide
    have b2n : ¬ b2 (inN y N) = 0 := by rw [b2_t b2']; decide
    obtain ⟨i, hi, rfl⟩ := inN_of (by omega) b1
    obtain ⟨n, hn, rfl⟩ := inN_of (by omega) b2'
    obtain ⟨k, hk1, hk, rfl⟩ := rg1 (n := 10) (by omega) b3 b4
    obtain ⟨w', hw1, hw, rfl⟩ := rg1 (n := 4) (by omega) b5 b6
    obtain ⟨d, hd, d1, d2⟩ := hN.dep hn
    have li : (nI i).toNatClampNeg = i := nI_clamp (by omega)
    have ln : (nI n).toNatClampNeg = n := nI_clamp (by omega)
    have hmd : ∀ Z : Int32 → MS → Prop, ((¬ nI d = 4 → mWP M_Mod_fetch 56 [qr 1 (some 0), qi (nI i), qi (nI n), qi (nI k), qi (nI w'), qi 0, qi 0] [] u (mI Z)) ∧ (nI d = 4 → Z 0 u)) → mMT M_Mod_fetch [qr 1 (some 0), qi (nI i), qi (nI n), qi (nI k), qi (nI w')] u (mI Z) := by
      intro Z hZ
      refine mt_Mod_fetch (c_Mod_isNode ⟨fun q => absurd q b1', fun _ => c_Mod_isName h70 ⟨fun q => absurd q b2n, fun _ => ⟨fun q => absurd q b3, fun _ => ⟨fun q => absurd q b4, fun _ => ⟨fun q => absurd q b5, fun _ => ⟨fun q => absurd q b6, fun _ => ⟨(vpi (by omega)).mpr (by omega), ?_⟩⟩⟩⟩⟩⟩⟩)
      rw [ln, d1]
      exact hZ
    have hcl : ∀ (X : Nat × (Nat → Int32)) (Z : Int32 → sg → Prop), ((nI d < 4 → nnWP X M_Net_fetch 0 61 [qr 0 (some 0), qi (nI i), qi (nI n), qi (nI k), qi (nI w'), qi 0, qi 0, none] [] g (zI Z)) ∧ (¬ nI d < 4 → Z 0 g)) → nnMT X M_Net_fetch 0 [qr 0 (some 0), qi (nI i), qi (nI n), qi (nI k), qi (nI w')] g (zI Z) := by
      intro X Z hZ
      refine t_Net_fetch (c_Net_isNode fun _ => ⟨fun q => absurd q b1', fun _ => ⟨0, hsh.1.1, c_Names_has h323 fun _ => ⟨fun q => absurd q b2n, fun _ => ⟨fun q => absurd q b3, fun _ => ⟨fun q => absurd q b4, fun _ => ⟨fun q => absurd q b5, fun _ => ⟨fun q => absurd q b6, fun _ => ⟨0, hsh.1.1, t_Names_lengthOf (c_Names_has h323 fun _ => ⟨fun q => absurd q b2n, fun _ => ⟨hsh.2.1.2.2.2.2.2.2.2.2, (vpi (by omega)).mpr (by omega), ?_⟩⟩)⟩⟩⟩⟩⟩⟩⟩⟩)
      rw [ln, d2]
      exact fun _ => hZ
    by_cases hd4 : d = 4
    · subst hd4
      exact ⟨0, u, fun Z hz => hmd Z ⟨fun q => absurd rfl q, fun _ => hz⟩, fun X Z hz => hcl X Z ⟨fun q => absurd q (by decide), fun _ => hz g hr0⟩⟩
    · have nd4 : ¬ nI d = 4 := by rw [show (4 : Int32) = nI 4 from rfl, nI_eq (by omega) (by omega)]; exact hd4
      have ld4 : nI d < 4 := by rw [show (4 : Int32) = nI 4 from rfl]; exact nI_lt (by omega) (by omega)
      have hms : ∀ d' j, msF u N n j d' ≤ d' := by
        intro d'
        induction d' with
        | zero => intro j; exact Nat.le_refl _
        | succ d' ih =>
          intro j
          show (if fdN (mC u (nI n) (nI (48 + j)) (nI 32) (nI 32)) N = none then 1 else 0) + msF u N n (j + 1) d' ≤ d' + 1
          have := ih (j + 1)
          split <;> omega
      have m0 := hms k 0
      have hm56 : ∀ d' j m, j + d' = k → m ≤ j → ∀ Z : Int32 → MS → Prop, mWP M_Mod_fetch 56 [qr 1 (some 0), qi (nI i), qi (nI n), qi (nI k), qi (nI w'), qi (nI (m + msF u N n j d')), qi (nI k)] [] u (mI Z) → mWP M_Mod_fetch 56 [qr 1 (some 0), qi (nI i), qi (nI n), qi (nI k), qi (nI w'), qi (nI m), qi (nI j)] [] u (mI Z) := by
        intro d'
        induction d' with
        | zero =>
          intro j m hj _ Z hZ
          obtain rfl : j = k := by omega
          exact hZ
        | succ d' ih =>
          intro j m hj hm Z hZ
          have ech : ((48 + nI j).toUInt32 % 65536).toInt32 = nI (48 + j) := by rw [show (48 : Int32) + nI j = nI (48 + j) from nI_add 48 j]; exact ch_nI _ (by omega)
          refine mb_Mod_fetch_56 ⟨fun q => absurd q (nI_ge (by omega) (by omega)), fun _ => c_Mod_child h1N hN48 h70 ?_⟩
          rw [ech, nI_1, nI_1]
          have hZ' : mWP M_Mod_fetch 56 [qr 1 (some 0), qi (nI i), qi (nI n), qi (nI k), qi (nI w'), qi (nI (m + ((if fdN (mC u (nI n) (nI (48 + j)) (nI 32) (nI 32)) N = none then 1 else 0) + msF u N n (j + 1) d'))), qi (nI k)] [] u (mI Z) := hZ
          show (0 ≤ optI (fdN (mC u (nI n) (nI (48 + j)) (nI 32) (nI 32)) N) → _) ∧ (¬ 0 ≤ optI (fdN (mC u (nI n) (nI (48 + j)) (nI 32) (nI 32)) N) → _)
          cases hf : fdN (mC u (nI n) (nI (48 + j)) (nI 32) (nI 32)) N with
          | some m' =>
            have := (fdN_lt _ _ hf).1
            rw [hf, if_neg (by simp), Nat.zero_add] at hZ'
            exact ⟨fun _ => ih (j + 1) m (by omega) (by omega) Z hZ', fun q => absurd (nI_pos' (by omega)) q⟩
          | none =>
            rw [hf, if_pos rfl, ← Nat.add_assoc] at hZ'
            exact ⟨fun q => absurd q (by decide), fun _ => ih (j + 1) (m + 1) (by omega) (by omega) Z hZ'⟩
      have hc61 : ∀ (X : Nat × (Nat → Int32)) (d' j m : Nat), j + d' = k → m ≤ j → ∀ Z : Int32 → sg → Prop, nnWP X M_Net_fetch 0 61 [qr 0 (some 0), qi (nI i), qi (nI n), qi (nI k), qi (nI w'), qi (nI (m + msF u N n j d')), qi (nI k), none] [] g (zI Z) → nnWP X M_Net_fetch 0 61 [qr 0 (some 0), qi (nI i), qi (nI n), qi (nI k), qi (nI w'), qi (nI m), qi (nI j), none] [] g (zI Z) := by
        intro X d'
        induction d' with
        | zero =>
          intro j m hj _ Z hZ
          obtain rfl : j = k := by omega
          exact hZ
        | succ d' ih =>
          intro j m hj hm Z hZ
          refine b_Net_fetch_61 ⟨fun q => absurd q (nI_ge (by omega) (by omega)), fun _ => t_Net_segmentComponent fun _ => ⟨0, hsh.1.1, ?_⟩⟩
          rw [show (48 : Int32) + nI j = nI (48 + j) from nI_add 48 j, nI_1, nI_1]
          have hZ' : nnWP X M_Net_fetch 0 61 [qr 0 (some 0), qi (nI i), qi (nI n), qi (nI k), qi (nI w'), qi (nI (m + ((if fdN (mC u (nI n) (nI (48 + j)) (nI 32) (nI 32)) N = none then 1 else 0) + msF u N n (j + 1) d'))), qi (nI k), none] [] g (zI Z) := hZ
          refine c_Names_find (b := 32) (c := 32) hsh hN (okT_s (by omega)) ?_
          intro _
          show (¬ optI (fdN (mC u (nI n) (nI (48 + j)) (nI 32) (nI 32)) N) = -1 → _) ∧ (optI (fdN (mC u (nI n) (nI (48 + j)) (nI 32) (nI 32)) N) = -1 → _)
          cases hf : fdN (mC u (nI n) (nI (48 + j)) (nI 32) (nI 32)) N with
          | some m' =>
            have := (fdN_lt _ _ hf).1
            rw [hf, if_neg (by simp), Nat.zero_add] at hZ'
            exact ⟨fun _ => ih (j + 1) m (by omega) (by omega) Z hZ', fun q => absurd q (nI_m1 (by omega))⟩
          | none =>
            rw [hf, if_pos rfl, ← Nat.add_assoc] at hZ'
            exact ⟨fun q => absurd rfl q, fun _ => ih (j + 1) (m + 1) (by omega) (by omega) Z hZ'⟩
      by_cases hroom : N + msF u N n 0 k ≤ 48
      · obtain ⟨v, l1, l2⟩ := fetch_loop hi hk (show d < 4 by omega) k 0 (by omega) (mu (mu (mu u 109 i (nI k)) 110 i (nI w')) 111 i 0) N h1N hN48 h70 hn d1 (by
          have : ∀ d' j', msF (mu (mu (mu u 109 i (nI k)) 110 i (nI w')) 111 i 0) N n j' d' = msF u N n j' d' := by
            intro d'
            induction d' with
            | zero => intro j'; rfl
            | succ d' ihd =>
              intro j'
              show (if fdN (mC u (nI n) (nI (48 + j')) (nI 32) (nI 32)) N = none then 1 else 0) + msF (mu (mu (mu u 109 i (nI k)) 110 i (nI w')) 111 i 0) N n (j' + 1) d' = _
              rw [ihd]
              rfl
          rw [this]
          exact hroom)
        refine ⟨1, v, fun Z hz => hmd Z ⟨fun _ => hm56 k 0 0 (by omega) (by omega) Z (mb_Mod_fetch_56 ⟨fun _ => ⟨fun _ => ⟨(vpi (by omega)).mpr hi, fun u1 y1 u2 y2 u3 y3 => ?_⟩, fun q => absurd ?_ q⟩, fun q => absurd (nI_le (Nat.le_refl _) (by omega)) q⟩), fun q => absurd q nd4⟩, fun X Z hz => hcl X Z ⟨fun _ => hc61 X k 0 0 (by omega) (by omega) Z (b_Net_fetch_61 ⟨fun _ => ⟨0, hsh.1.1, t_Names_hasRoomFor ⟨fun q => ?_, fun _ _ => ⟨fun _ => ⟨hsh.2.1.2.2.1, (vpi (by omega)).mpr hi, i, ?_, i, (hsh.1.2.2.2 i hi).2.2.2.1, c_Fetch_begin (hsh.2.2.1 i hi).2.2.2.2.2.2.1 (hsh.2.2.1 i hi).2.2.2.2.2.2.2.1 (hsh.2.2.1 i hi).2.2.2.2.2.2.2.2 fun _ => ?_⟩, fun q => absurd q (by decide)⟩⟩⟩, fun q => absurd (nI_le (Nat.le_refl _) (by omega)) q⟩), fun q => absurd ld4 q⟩⟩
        · rw [li] at y1 y2 y3
          subst y3 y2 y1
          exact l1 Z hz
        · rw [h70, nI_add, show (48 : Int32) = nI 48 from rfl]
          exact nI_le (by omega) (by omega)
        · rw [h323, nI_add, show (48 : Int32) = nI 48 from rfl, nI_ltI (by omega) (by omega)] at q
          omega
        · rw [li]; exact hsh.1.2.1 i hi
        · rw [(hsh.1.2.2.2 i hi).2.2.2.1]
          exact l2 S P R Q _ (feJ_0 h hi hw) X 0 Z hz
      · refine ⟨0, u, fun Z hz => hmd Z ⟨fun _ => hm56 k 0 0 (by omega) (by omega) Z (mb_Mod_fetch_56 ⟨fun _ => ⟨fun q => ?_, fun _ => hz⟩, fun q => absurd (nI_le (Nat.le_refl _) (by omega)) q⟩), fun q => absurd q nd4⟩, fun X Z hz => hcl X Z ⟨fun _ => hc61 X k 0 0 (by omega) (by omega) Z (b_Net_fetch_61 ⟨fun _ => ⟨0, hsh.1.1, t_Names_hasRoomFor ⟨fun _ _ => ⟨fun q => absurd rfl q, fun _ => hz g hr0⟩, fun q => absurd ?_ q⟩⟩, fun q => absurd (nI_le (Nat.le_refl _) (by omega)) q⟩), fun q => absurd ld4 q⟩⟩
        · rw [h70, nI_add, show (48 : Int32) = nI 48 from rfl, nI_leI (by omega) (by omega)] at q
          omega
        · rw [h323, nI_add, show (48 : Int32) = nI 48 from rfl]
          exact nI_lt (by omega) (by omega)
  · have t1 : ¬ b2 (inN x 5) = 0 → inN x 5 = true := fun q => by
      cases hx : inN x 5 with
      | true => rfl
      | false => exact absurd (b2_f hx) q
    have t2 : ¬ b2 (inN y N) = 0 → inN y N = true := fun q => by
      cases hx : inN y N with
      | true => rfl
      | false => exact absurd (b2_f hx) q
    exact ⟨0, u, fun Z hz => mt_Mod_fetch (c_Mod_isNode ⟨fun _ => hz, fun q1 => c_Mod_isName h70 ⟨fun _ => hz, fun q2 => ⟨fun _ => hz, fun q3 => ⟨fun _ => hz, fun q4 => ⟨fun _ => hz, fun q5 => ⟨fun _ => hz, fun q6 => absurd ⟨⟨t1 q1, t2 q2⟩, q3, q4, q5, q6⟩ hall⟩⟩⟩⟩⟩⟩), fun X Z hz => t_Net_fetch (c_Net_isNode fun _ => ⟨fun _ => hz g hr0, fun q1 => ⟨0, hsh.1.1, c_Names_has h323 fun _ => ⟨fun _ => hz g hr0, fun q2 => ⟨fun _ => hz g hr0, fun q3 => ⟨fun _ => hz g hr0, fun q4 => ⟨fun _ => hz g hr0, fun q5 => ⟨fun _ => hz g hr0, fun q6 => absurd ⟨⟨t1 q1, t2 q2⟩, q3, q4, q5, q6⟩ hall⟩⟩⟩⟩⟩⟩⟩)⟩
