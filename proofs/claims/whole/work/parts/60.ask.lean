/-! a new request -/
def nqU (u : MS) (Q : Nat) (i n f : Int32) : MS := mu (mu (mu (mu (mu (mu (mu u 101 0 (nI (Q + 1))) 102 Q i) 103 Q n) 104 Q f) 105 Q 0) 106 Q (u 67 0)) 107 Q (-1)
def nqG (g : sg) (Q : Nat) (i n f t : Int32) : sg := pI (pR (pI (pI (pI (pI (pI (pN g 9) 580 Q 0 0) 576 Q 0 i) 577 Q 0 n) 578 Q 0 f) 579 Q 0 t) 9 0 Q (some Q)) 10 0 0 (nI (Q + 1))
theorem rl_nq {S P N R Q : Nat} {g : sg} {u : MS} {i n f : Int32} (h : rl9 S P N R Q g u) (hQ : Q < 120) : rl9 S P N R (Q + 1) (nqG g Q i n f (u 67 0)) (nqU u Q i n f) := by
  have eI : ∀ f', ¬ f' / 64 = 9 → f' ≠ 10 → gI (nqG g Q i n f (u 67 0)) f' = gI g f' := by
    intro f' h1 h2
    funext a k
    unfold nqG
    rw [gI_pI, if_neg (fun z => h2 z.1), gI_pR, gI_pI, if_neg (fun z => by omega), gI_pI, if_neg (fun z => by omega), gI_pI, if_neg (fun z => by omega), gI_pI, if_neg (fun z => by omega), gI_pI, if_neg (fun z => by omega), gI_pN, if_neg (fun z => h1 z.1)]
  have eR : ∀ f', ¬ f' / 64 = 9 → f' ≠ 9 → gR (nqG g Q i n f (u 67 0)) f' = gR g f' := by
    intro f' h1 h2
    funext a k
    unfold nqG
    rw [gR_pI, gR_pR, if_neg (fun z => h2 z.1), gR_pI, gR_pI, gR_pI, gR_pI, gR_pI, gR_pN, if_neg (fun z => h1 z.1)]
  have eA : ∀ f', ¬ f' / 64 = 9 → gA (nqG g Q i n f (u 67 0)) f' = gA g f' := by
    intro f' h1
    funext a
    show gA (pN g 9) f' a = _
    rw [gA_pN, if_neg (fun z => h1 z.1)]
  have eC : ∀ c, c ≠ 9 → gC (nqG g Q i n f (u 67 0)) c = gC g c := by
    intro c h1
    show gC (pN g 9) c = _
    rw [gC_pN, if_neg h1]
  have eU : ∀ k, k < 101 ∨ 107 < k → nqU u Q i n f k = u k := by
    intro k hk
    funext a
    unfold nqU
    rw [mu_at, if_neg (fun z => by omega), mu_at, if_neg (fun z => by omega), mu_at, if_neg (fun z => by omega), mu_at, if_neg (fun z => by omega), mu_at, if_neg (fun z => by omega), mu_at, if_neg (fun z => by omega), mu_at, if_neg (fun z => by omega)]
  obtain ⟨hsh, hT, hN, hW, hG, hRR, hS, hE, hQQ, hF, hP⟩ := h
  obtain ⟨q1, q2, q3, q4, q5, q6⟩ := hQQ
  have uU : ∀ k q, q < Q → k ≠ 101 → nqU u Q i n f k q = u k q := by
    intro k q hq hk
    unfold nqU
    rw [mu_at, if_neg (fun z => by omega), mu_at, if_neg (fun z => by omega), mu_at, if_neg (fun z => by omega), mu_at, if_neg (fun z => by omega), mu_at, if_neg (fun z => by omega), mu_at, if_neg (fun z => by omega), mu_at, if_neg (fun z => by omega)]
  have hdt : ∀ p a b c, dtv N g p a b c → dtv N (nqG g Q i n f (u 67 0)) p a b c := by
    intro p a b c hp
    unfold dtv at hp ⊢
    rw [eI 448 (by decide) (by decide), eI 449 (by decide) (by decide), eI 453 (by decide) (by decide), eI 454 (by decide) (by decide), eC 7 (by decide)]
    exact hp
  refine ⟨?_, ?_, ?_, ?_, ?_, ?_, ?_, ?_, ?_, ?_, ?_⟩
  · unfold shC at hsh ⊢
    simp only [eI 384 (by decide) (by decide), eR 5 (by decide) (by decide), eR 6 (by decide) (by decide), eR 385 (by decide) (by decide), eR 386 (by decide) (by decide), eR 387 (by decide) (by decide), eR 388 (by decide) (by decide), eR 389 (by decide) (by decide), eA 2 (by decide), eA 4 (by decide), eA 6 (by decide), eA 7 (by decide), eA 8 (by decide), eA 9 (by decide), eA 131 (by decide), eA 132 (by decide), eA 133 (by decide), eA 134 (by decide), eA 195 (by decide), eA 259 (by decide), eA 260 (by decide), eA 261 (by decide), eA 262 (by decide), eA 320 (by decide), eA 321 (by decide), eA 322 (by decide), eA 385 (by decide), eA 512 (by decide), eA 704 (by decide), eA 768 (by decide), eA 769 (by decide)]
    exact hsh
  · unfold rT at hT ⊢
    simp only [eI 0 (by decide) (by decide), eI 1 (by decide) (by decide), eI 2 (by decide) (by decide), eI 3 (by decide) (by decide), eU 66 (by decide), eU 67 (by decide), eU 68 (by decide), eU 69 (by decide)]
    exact hT
  · unfold rN at hN ⊢
    simp only [eI 320 (by decide) (by decide), eI 321 (by decide) (by decide), eI 322 (by decide) (by decide), eI 323 (by decide) (by decide), eU 70 (by decide), eU 71 (by decide), eU 72 (by decide), eU 73 (by decide)]
    exact hN
  · unfold rW pkv at hW ⊢
    simp only [eI 194 (by decide) (by decide), eI 192 (by decide) (by decide), eI 193 (by decide) (by decide), eI 196 (by decide) (by decide), eR 195 (by decide) (by decide), eI 448 (by decide) (by decide), eI 449 (by decide) (by decide), eI 450 (by decide) (by decide), eI 451 (by decide) (by decide), eI 452 (by decide) (by decide), eI 453 (by decide) (by decide), eI 454 (by decide) (by decide), eI 455 (by decide) (by decide), eI 456 (by decide) (by decide), eI 457 (by decide) (by decide), eC 7 (by decide), eU 74 (by decide), eU 75 (by decide), eU 76 (by decide), eU 77 (by decide), eU 80 (by decide), eU 81 (by decide)]
    exact hW
  · unfold rG at hG ⊢
    simp only [eU 79 (by decide), eU 80 (by decide), eU 81 (by decide)]
    exact hG
  · unfold rR rRn at hRR ⊢
    rw [eC 10 (by decide)]
    simp only [eI 705 (by decide) (by decide), eI 640 (by decide) (by decide), eI 641 (by decide) (by decide), eI 642 (by decide) (by decide), eI 643 (by decide) (by decide), eR 704 (by decide) (by decide), eA 643 (by decide), eU 80 (by decide), eU 81 (by decide), eU 82 (by decide), eU 83 (by decide)]
    exact hRR
  · unfold rS dtv at hS ⊢
    simp only [eI 770 (by decide) (by decide), eI 769 (by decide) (by decide), eR 768 (by decide) (by decide), eI 448 (by decide) (by decide), eI 449 (by decide) (by decide), eI 453 (by decide) (by decide), eI 454 (by decide) (by decide), eC 7 (by decide), eU 64 (by decide), eU 84 (by decide), eU 85 (by decide), eU 86 (by decide), eU 87 (by decide), eU 88 (by decide)]
    exact hS
  · unfold rE rEn enf at hE ⊢
    simp only [eI 128 (by decide) (by decide), eI 129 (by decide) (by decide), eI 130 (by decide) (by decide), eI 131 (by decide) (by decide), eI 132 (by decide) (by decide), eI 133 (by decide) (by decide), eI 134 (by decide) (by decide), eI 513 (by decide) (by decide), eR 512 (by decide) (by decide), eU 65 (by decide), eU 92 (by decide), eU 93 (by decide), eU 94 (by decide), eU 95 (by decide), eU 96 (by decide), eU 97 (by decide), eU 98 (by decide), eU 99 (by decide), eU 100 (by decide)]
    exact hE
  · refine ⟨by omega, ?_, rfl, ?_, fun q hq => ?_, fun q hq hq2 => ?_⟩
    · show gC (pN g 9) 9 = Q + 1
      rw [gC_pN, if_pos rfl, q2]
    · unfold nqU; simp [mu_at]
    · by_cases c : q = Q
      · subst c
        have z9 : gR (nqG g q i n f (u 67 0)) 581 q 0 = none := by
          show (if (581 : Nat) = 9 ∧ q = 0 ∧ 0 = q then some q else gR (pN g 9) 581 q 0) = none
          rw [if_neg (by omega), gR_pN, if_pos ⟨by decide, q2.symm⟩]
        have w108 : nqU u q i n f 108 q = 0 := by rw [eU 108 (by decide)]; exact q6 q (Nat.le_refl _) hQ
        refine ⟨if_pos ⟨rfl, rfl, rfl⟩, ?_, ?_, ?_, ?_, ?_, ⟨0, by omega, ?_⟩, Or.inl ⟨z9, ?_, w108, ?_⟩⟩
        all_goals simp [nqG, nqU, gI_pI, gI_pR, mu_at, nI]
      · have hlt : q < Q := by omega
        have gg : ∀ f', f' ≠ 10 → gI (nqG g Q i n f (u 67 0)) f' q 0 = gI g f' q 0 := by
          intro f' h2
          unfold nqG
          rw [gI_pI, if_neg (fun z => h2 z.1), gI_pR, gI_pI, if_neg (fun z => by omega), gI_pI, if_neg (fun z => by omega), gI_pI, if_neg (fun z => by omega), gI_pI, if_neg (fun z => by omega), gI_pI, if_neg (fun z => by omega), gI_pN, if_neg (fun z => by omega)]
        have g9 : gR (nqG g Q i n f (u 67 0)) 9 0 q = gR g 9 0 q := by
          show (if (9 : Nat) = 9 ∧ 0 = 0 ∧ q = Q then some Q else gR (pN g 9) 9 0 q) = _
          rw [if_neg (by omega), gR_pN, if_neg (by omega)]
        have g581 : gR (nqG g Q i n f (u 67 0)) 581 q 0 = gR g 581 q 0 := by
          show (if (581 : Nat) = 9 ∧ q = 0 ∧ 0 = Q then some Q else gR (pN g 9) 581 q 0) = _
          rw [if_neg (by omega), gR_pN, if_neg (by omega)]
        rw [g9, g581, gg 576 (by decide), gg 577 (by decide), gg 578 (by decide), gg 579 (by decide), gg 580 (by decide), uU 102 q hlt (by decide), uU 103 q hlt (by decide), uU 104 q hlt (by decide), uU 105 q hlt (by decide), uU 106 q hlt (by decide), uU 107 q hlt (by decide), uU 108 q hlt (by decide)]
        obtain ⟨a1, a2, a3, a4, a5, a6, a7, a8⟩ := q5 q hlt
        refine ⟨a1, a2, a3, a4, a5, a6, a7, ?_⟩
        rcases a8 with z | ⟨p, c, z1, z2, z3⟩
        · exact Or.inl z
        · exact Or.inr ⟨p, c, z1, hdt _ _ _ _ z2, z3⟩
    · rw [eU 108 (by decide)]
      exact q6 q (by omega) hq2
  · intro i' hi'
    obtain ⟨c, w, f1, f2, f3, f4, f5, f6, f7, f8, f9⟩ := hF i' hi'
    rw [eI 256 (by decide) (by decide), eI 257 (by decide) (by decide), eI 258 (by decide) (by decide), eI 259 (by decide) (by decide), eI 260 (by decide) (by decide), eI 261 (by decide) (by decide), eR 262 (by decide) (by decide), eU 109 (by decide), eU 110 (by decide), eU 111 (by decide), eU 112 (by decide), eU 113 (by decide), eU 114 (by decide), eU 115 (by decide)]
    refine ⟨c, w, f1, f2, f3, f4, f5, f6, f7, f8, fun j hj => ?_⟩
    obtain ⟨k1, k2, k3, t, k4, k5, k6, k7⟩ := f9 j hj
    refine ⟨k1, k2, k3, t, k4, k5, k6, ?_⟩
    rcases k7 with z | ⟨q, z1, z2, z3, z4⟩
    · exact Or.inl z
    · exact Or.inr ⟨q, by omega, z2, z3, by rw [uU 105 q z1 (by decide)]; exact z4⟩
  · unfold rP dtv at hP ⊢
    simp only [eR 7 (by decide) (by decide), eI 8 (by decide) (by decide), eI 448 (by decide) (by decide), eI 449 (by decide) (by decide), eI 453 (by decide) (by decide), eI 454 (by decide) (by decide), eC 7 (by decide), eU 89 (by decide), eU 90 (by decide), eU 91 (by decide)]
    exact hP
def orU (u : MS) (Q R N i n f h : Nat) : MS := inU (nqU u Q (nI i) (nI n) (nI f)) (Q + 1) R N i 4 n f (nI (1000 + Q)) h
theorem open_p {S P N R Q i n f h0 : Nat} {g : sg} {u : MS} (h : rl9 S P N R Q g u) (hQ : Q < 120) (hi : i < 5) (hn : n < N) (hf : f < 4) (hh : h0 ≤ 9) :
    (∃ g0, rl9 S P N R (Q + 1) g0 (orU u Q R N i n f h0)) ∧ (∀ Z : Int32 → MS → Prop, Z (nI Q) (orU u Q R N i n f h0) → mMT M_Mod_newRequest [qr 1 (some 0), qi (nI i), qi (nI n), qi (nI f), qi (nI h0)] u (mI Z)) ∧ ∀ (X : Nat × (Nat → Int32)) (Z : Int32 → sg → Prop), (∀ g', rl9 S P N R (Q + 1) g' (orU u Q R N i n f h0) → Z (nI Q) g') → nnMT X M_Net_openRequest 7 [qr 0 (some 0), qr 6 (some i), qi (nI n), qi (nI f), qi (nI h0)] g (zI Z) := by
  have h1 := rl_nq (i := nI i) (n := nI n) (f := nI f) h hQ
  have hQQ := h.2.2.2.2.2.2.2.2.1
  have t101 := hQQ.2.2.2.1
  have g10 := hQQ.2.2.1
  have g9 := hQQ.2.1
  have lQ : (nI Q).toNatClampNeg = Q := nI_clamp (by omega)
  have e1000 : (1000 : Int32) + nI Q = nI (1000 + Q) := nI_add 1000 Q
  have hz : ∃ q, q < 120 ∧ nI (1000 + Q) = nI (1000 + q) := ⟨Q, hQ, rfl⟩
  have n384 := (h.1.1.2.2.2 i hi).2.2.2.2
  have n1 := h.2.1.2.1
  have hA9 : gA g 9 0 = some 120 := h.1.2.1.2.2.2.2.2.1
  obtain ⟨⟨g0, w1, -⟩, m1, -⟩ := inter_p (F := 4) (p := gC (nqG g Q (nI i) (nI n) (nI f) (u 67 0)) 7) (g := pI (pI (pI (pI (pI (pN (nqG g Q (nI i) (nI n) (nI f) (u 67 0)) 7) 448 (gC (nqG g Q (nI i) (nI n) (nI f) (u 67 0)) 7) 0 0) 449 (gC (nqG g Q (nI i) (nI n) (nI f) (u 67 0)) 7) 0 (nI n)) 450 (gC (nqG g Q (nI i) (nI n) (nI f) (u 67 0)) 7) 0 (nI f)) 451 (gC (nqG g Q (nI i) (nI n) (nI f) (u 67 0)) 7) 0 (nI (1000 + Q))) 452 (gC (nqG g Q (nI i) (nI n) (nI f) (u 67 0)) 7) 0 (nI h0))
    (rl_agP h1 (agP_pI (agP_pI (agP_pI (agP_pI (agP_pI (agP_new _) rfl _ _) rfl _ _) rfl _ _) rfl _ _) rfl _ _)) hi (by omega) (by show _ < gC (pN _ 7) 7; rw [gC_pN, if_pos rfl]; omega) (by simp [gI_pI]) (by simp [gI_pI]) (by simp [gI_pI]) (by simp [gI_pI]) hn hf hz hh
  refine ⟨⟨g0, w1⟩, fun Z hZ => mt_Mod_newRequest ?_, fun X Z hZ => t_Net_openRequest ?_⟩
  · rw [t101, lQ, nI_1, e1000]
    refine ⟨fun _ u1 y1 => ⟨(vpi (by omega)).mpr hQ, fun u2 y2 u3 y3 u4 y4 u5 y5 u6 y6 u7 y7 => ?_⟩, fun q => ?_⟩
    · have : u7 = nqU u Q (nI i) (nI n) (nI f) := by
        subst y1 y2 y3 y4 y5 y6 y7
        unfold nqU
        have : mu (mu (mu (mu (mu u 101 0 (nI (Q + 1))) 102 Q (nI i)) 103 Q (nI n)) 104 Q (nI f)) 105 Q 0 67 0 = u 67 0 := by simp [mu_at]
        rw [this]
      rw [this]
      exact m1 _ hZ
    · rw [show (120 : Int32) = nI 120 from rfl, nI_eq (by omega) (by omega)] at q
      omega
  · rw [g10, lQ, g9]
    refine ⟨fun _ => ⟨hA9, by omega, fun g1 y1 => ⟨i, rfl, t_Request_init fun x1 z1 x2 z2 x3 z3 x4 z4 x5 z5 _ => ⟨(vpi (by omega)).mpr hQ, fun g3 y3 g4 y4 => ⟨by omega, ?_⟩⟩⟩⟩, fun q => ?_⟩
    · have e384 : gI g1 384 i 0 = nI i := by rw [y1, gI_pN, if_neg (by omega)]; exact n384
      have e1' : gI g1 1 0 0 = u 67 0 := by rw [y1, gI_pN, if_neg (by omega)]; exact n1
      have hg4 : g4 = nqG g Q (nI i) (nI n) (nI f) (u 67 0) := by
        rw [e384] at z2
        rw [e1'] at z5
        have : gI g3 10 0 0 = nI Q := by
          subst y3 z5 z4 z3 z2 z1 y1
          rw [gI_pR, gI_pI, if_neg (by omega), gI_pI, if_neg (by omega), gI_pI, if_neg (by omega), gI_pI, if_neg (by omega), gI_pI, if_neg (by omega), gI_pN, if_neg (by omega)]
          exact g10
        rw [this, nI_1] at y4
        subst y4 y3 z5 z4 z3 z2 z1 y1
        rfl
      rw [hg4, e1000]
      refine c_Packet_interest (by omega) fun g' hag b1 b2' b3 b4 b5 _ => ⟨by omega, ?_⟩
      obtain ⟨-, -, c1⟩ := inter_p (F := 4) (rl_agP h1 hag) hi (by omega) (by rw [hag.2.1]; omega) b2' b3 b4 b5 hn hf hz hh
      exact c1 X _ fun g6 l1 _ _ => hZ g6 l1
    · rw [show (120 : Int32) = nI 120 from rfl] at q
      exact absurd (nI_lt hQ (by omega)) q
theorem pair_ask (g : sg) (u : MS) (x y z w : Int32) (hr : RL g u) : PairI 7 M_Net_ask M_Mod_ask [qi x, qi y, qi z, qi w] g u := by
  have hr0 := hr
  obtain ⟨S, P, N, R, Q, h⟩ := hr
  have hN := h.2.2.1
  have hsh := h.1
  have hQQ := h.2.2.2.2.2.2.2.2.1
  have no : ∀ c : Bool, c = ((inN x 5 && inN y N) && (inN z 4 && inN w 10)) → c = false → PairI 7 M_Net_ask M_Mod_ask [qi x, qi y, qi z, qi w] g u := by
    intro c hc hf
    refine ⟨-1, u, fun Z hz => mt_Mod_ask (c_Mod_isNode ⟨fun _ => hz, fun q1 => c_Mod_isName hN.2.2.2.1 ⟨fun _ => hz, fun q2 => ⟨fun _ => hz, fun q3 => ⟨fun _ => hz, fun q4 => ⟨fun _ => hz, fun q5 => ⟨fun q6 => ?_, fun _ => hz⟩⟩⟩⟩⟩⟩), fun X Z hz => t_Net_ask (c_Net_isNode fun _ => ⟨fun _ => hz g hr0, fun q1 => ⟨0, hsh.1.1, c_Names_has hN.2.2.1 fun _ => ⟨fun _ => hz g hr0, fun q2 => ⟨fun _ => hz g hr0, fun q3 => ⟨fun _ => hz g hr0, fun q4 => ⟨fun _ => hz g hr0, fun q5 => ⟨fun q6 => ?_, fun _ => hz g hr0⟩⟩⟩⟩⟩⟩⟩)⟩
    all_goals
      exfalso
      rw [hc] at hf
      have t1 : inN x 5 = true := by
        cases hx : inN x 5 with
        | true => rfl
        | false => exact absurd (b2_f hx) q1
      have t2 : inN y N = true := by
        cases hx : inN y N with
        | true => rfl
        | false => exact absurd (b2_f hx) q2
      have t3 : inN z 4 = true := by
        unfold inN
        rw [decide_eq_true q3, Bool.true_and, decide_eq_true_iff]
        intro q
        rw [show nI 4 = 4 from rfl] at q
        rw [Int32.lt_iff_toInt_lt] at q4
        rw [Int32.le_iff_toInt_le] at q
        have : (4 : Int32).toInt = 4 := rfl
        have : (3 : Int32).toInt = 3 := rfl
        omega
      have t4 : inN w 10 = true := by
        unfold inN
        rw [decide_eq_true q5, Bool.true_and, decide_eq_true_iff]
        intro q
        rw [show nI 10 = 10 from rfl] at q
        rw [Int32.le_iff_toInt_le] at q6 q
        have : (10 : Int32).toInt = 10 := rfl
        have : (9 : Int32).toInt = 9 := rfl
        omega
      rw [t1, t2, t3, t4] at hf
      exact absurd hf (by decide)
  cases hb : ((inN x 5 && inN y N) && (inN z 4 && inN w 10)) with
  | false => exact no _ hb.symm rfl
  | true =>
    simp only [Bool.and_eq_true] at hb
    obtain ⟨⟨b1, b2'⟩, b3, b4⟩ := hb
    have b1' : ¬ b2 (inN x 5) = 0 := by rw [b2_t b1]; decide
    have b2n : ¬ b2 (inN y N) = 0 := by rw [b2_t b2']; decide
    obtain ⟨i, hi, rfl⟩ := inN_of (by omega) b1
    obtain ⟨n, hn, rfl⟩ := inN_of (by have := hN.2.1; omega) b2'
    obtain ⟨f, hf, rfl⟩ := inN_of (by omega) b3
    obtain ⟨h0, hh, rfl⟩ := inN_of (by omega) b4
    have n3 : ¬ nI f < 0 := nI_pos (by omega)
    have n4 : ¬ (3 : Int32) < nI f := by rw [show (3 : Int32) = nI 3 from rfl]; exact nI_nlt (by omega) (by omega)
    have n5 : ¬ nI h0 < 0 := nI_pos (by omega)
    have n6 : nI h0 ≤ 9 := by rw [show (9 : Int32) = nI 9 from rfl]; exact nI_le (by omega) (by omega)
    have li : (nI i).toNatClampNeg = i := nI_clamp (by omega)
    have hmd : ∀ Z : Int32 → MS → Prop, mMT M_Mod_newRequest [qr 1 (some 0), qi (nI i), qi (nI n), qi (nI f), qi (nI h0)] u (mI Z) → mMT M_Mod_ask [qr 1 (some 0), qi (nI i), qi (nI n), qi (nI f), qi (nI h0)] u (mI Z) := fun Z hZ =>
      mt_Mod_ask (c_Mod_isNode ⟨fun q => absurd q b1', fun _ => c_Mod_isName hN.2.2.2.1 ⟨fun q => absurd q b2n, fun _ => ⟨fun q => absurd q n3, fun _ => ⟨fun q => absurd q n4, fun _ => ⟨fun q => absurd q n5, fun _ => ⟨fun _ => hZ, fun q => absurd n6 q⟩⟩⟩⟩⟩⟩)
    have hcl : ∀ (X : Nat × (Nat → Int32)) (Z : Int32 → sg → Prop), nnMT X M_Net_openRequest 7 [qr 0 (some 0), qr 6 (some i), qi (nI n), qi (nI f), qi (nI h0)] g (zI fun r g' => gExt g g' → Z r g') → nnMT X M_Net_ask 7 [qr 0 (some 0), qi (nI i), qi (nI n), qi (nI f), qi (nI h0)] g (zI Z) := fun X Z hZ =>
      t_Net_ask (c_Net_isNode fun _ => ⟨fun q => absurd q b1', fun _ => ⟨0, hsh.1.1, c_Names_has hN.2.2.1 fun _ => ⟨fun q => absurd q b2n, fun _ => ⟨fun q => absurd q n3, fun _ => ⟨fun q => absurd q n4, fun _ => ⟨fun q => absurd q n5, fun _ => ⟨fun _ => ⟨hsh.2.1.2.2.1, (vpi (by omega)).mpr hi, Nat.le_refl _, by rw [li, hsh.1.2.1 i hi]; exact hZ⟩, fun q => absurd n6 q⟩⟩⟩⟩⟩⟩⟩)
    by_cases hQ : Q < 120
    · obtain ⟨-, m1, c1⟩ := open_p h hQ hi hn hf (show h0 ≤ 9 by omega)
      exact ⟨nI Q, _, fun Z hz => hmd Z (m1 _ hz), fun X Z hz => hcl X Z (c1 X _ fun g' l1 _ => hz g' ⟨S, P, N, R, Q + 1, l1⟩)⟩
    · have hQ2 : Q = 120 := by have := hQQ.1; omega
      subst hQ2
      refine ⟨-2, u, fun Z hz => hmd Z (mt_Mod_newRequest ⟨fun q => absurd hQQ.2.2.2.1 q, fun _ => hz⟩), fun X Z hz => hcl X Z (t_Net_openRequest ⟨fun q => ?_, fun _ _ => hz g hr0⟩)⟩
      rw [hQQ.2.2.1] at q
      exact absurd q (by decide)
