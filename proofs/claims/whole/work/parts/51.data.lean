theorem dtU_at {u : MS} {Q i F k : Nat} {x y w n f : Int32} (h : k ≠ 76 ∧ k ≠ 77 ∧ k ≠ 105 ∧ k ≠ 107 ∧ k ≠ 108) : dtU u Q i F x y w n f k = u k := by
  unfold dtU
  split
  · funext y
    unfold stU
    rw [if_neg (by omega), if_neg (by omega), if_neg (by omega)]
  · exact putU_at h.1 h.2.1
theorem hw8_put {u : MS} {e : Nat} {k a b c d : Int32} (h : hw8 u) : hw8 (putU u e k a b c d) := by
  intro e' he
  unfold putU
  split
  · exact h e' he
  · rename_i hc
    simp only [mu_at]
    by_cases hee : e' = e
    · obtain ⟨w, w1, w2⟩ := h e' he
      rw [if_pos (by simp [hee])]
      rw [← hee, w2, nI_clamp (by omega)]
      refine ⟨w + 1, ?_, rfl⟩
      rw [← hee, w2] at hc
      have : ¬ nI w = 8 := fun q => hc (Or.inr (Or.inr q))
      rw [nl_8, nI_eq (by omega) (by omega)] at this
      omega
    · simp [hee]
      exact h e' he
theorem hw8_dt {u : MS} {Q i F : Nat} {x y w n f : Int32} (h : hw8 u) : hw8 (dtU u Q i F x y w n f) := by
  unfold dtU
  split
  · exact h
  · exact hw8_put h
def dsU (u0 : MS) (Q i : Nat) (x y w n f : Int32) (b : Nat → Bool) : Nat → MS
  | 0 => u0
  | F + 1 => if b F = true then dtU (dsU u0 Q i x y w n f b F) Q i F x y w n f else dsU u0 Q i x y w n f b F
theorem dsU_at {u0 : MS} {Q i k : Nat} {x y w n f : Int32} {b : Nat → Bool} (h : k ≠ 76 ∧ k ≠ 77 ∧ k ≠ 105 ∧ k ≠ 107 ∧ k ≠ 108) : ∀ F, dsU u0 Q i x y w n f b F k = u0 k
  | 0 => rfl
  | F + 1 => by
    show (if b F = true then dtU (dsU u0 Q i x y w n f b F) Q i F x y w n f else dsU u0 Q i x y w n f b F) k = u0 k
    split
    · rw [dtU_at h]; exact dsU_at h F
    · exact dsU_at h F
theorem hw8_ds {u0 : MS} {Q i : Nat} {x y w n f : Int32} {b : Nat → Bool} (h : hw8 u0) : ∀ F, hw8 (dsU u0 Q i x y w n f b F)
  | 0 => h
  | F + 1 => by
    show hw8 (if b F = true then dtU (dsU u0 Q i x y w n f b F) Q i F x y w n f else dsU u0 Q i x y w n f b F)
    split
    · exact hw8_dt (hw8_ds h F)
    · exact hw8_ds h F
theorem rl9.hw8 {S P N R Q : Nat} {g : sg} {u : MS} (h : rl9 S P N R Q g u) : hw8 u := fun e he => by
  obtain ⟨w, w1, -, w3⟩ := h.w he
  exact ⟨w, w1, w3⟩
theorem dt_w {S P N R Q i F p : Nat} {g : sg} {u : MS} {x y w n f : Int32} (h : rl9 S P N R Q g u) (hi : i < 5) (hF : F < 5) (hp : dtv N g p x y w) : ∃ g0, rl9 S P N R Q g0 (dtU u Q i F x y w n f) ∧ ePr g g0 u (dtU u Q i F x y w n f) := by
  unfold dtU
  by_cases q : F = 4
  · rw [if_pos q]
    exact ⟨_, rl_settle h (Or.inr ⟨p, w, rfl, rfl, hp⟩), ePr_settle⟩
  · rw [if_neg q]
    exact ⟨_, rl_put h (by omega) hp.pkv, ePr_put⟩
theorem ds_w {S P N R Q i p : Nat} {g : sg} {u : MS} {x y w n f : Int32} {b : Nat → Bool} (h : rl9 S P N R Q g u) (hi : i < 5) (hp : dtv N g p x y w) : ∀ F, F ≤ 5 → ∃ g0, rl9 S P N R Q g0 (dsU u Q i x y w n f b F) ∧ ePr g g0 u (dsU u Q i x y w n f b F)
  | 0, _ => ⟨g, h, ePr.rf⟩
  | F + 1, hF => by
    obtain ⟨g1, h1, p1⟩ := ds_w (b := b) (n := n) (f := f) h hi hp F (by omega)
    show ∃ g0, rl9 S P N R Q g0 (if b F = true then dtU (dsU u Q i x y w n f b F) Q i F x y w n f else dsU u Q i x y w n f b F) ∧ ePr g g0 u (if b F = true then dtU (dsU u Q i x y w n f b F) Q i F x y w n f else dsU u Q i x y w n f b F)
    by_cases q : b F = true
    · rw [if_pos q]
      obtain ⟨g2, h2, p2⟩ := dt_w (n := n) (f := f) (F := F) h1 hi (by omega) (hp.pk p1.2.2.1)
      exact ⟨g2, h2, p1.tr p2⟩
    · rw [if_neg q]
      exact ⟨g1, h1, p1⟩
def anU (u : MS) (Q i c x : Nat) (n y w : Int32) : MS := rmF (dsU u Q i n y w (u 93 (6 * i + x)) (u 94 (6 * i + x)) (fun f => !decide (u 96 (5 * (6 * i + x) + f) = 0)) 5) i c x
theorem ans_p {S P N R Q i c x p : Nat} {ε : Nat → Nat} {g : sg} {u : MS} {n y w : Int32} (h : rl9 S P N R Q g u) (hi : i < 5) (hen : rEn N P i (c + 1) ε g u) (hx : x ≤ c) (hp : dtv N g p n y w) :
    (∃ g0 ε0, rl9 S P N R Q g0 (anU u Q i c x n y w) ∧ rEn N P i c ε0 g0 (anU u Q i c x n y w) ∧ pkS g g0) ∧ (∀ Z : MS → Prop, Z (anU u Q i c x n y w) → mMT M_Mod_answerEntry [qr 1 (some 0), qi (nI i), qi (nI (6 * i + x)), qi n, qi y, qi w] u (mV Z)) ∧ ∀ (X : Nat × (Nat → Int32)) (Z : sg → Prop) (l2 l4 l5 l6 l7 : Int32), (∀ g' ε', rl9 S P N R Q g' (anU u Q i c x n y w) → rEn N P i c ε' g' (anU u Q i c x n y w) → pkS g g' → nnWP X M_Net_dataComes 0 18 [qr 0 (some 0), qr 6 (some i), qi l2, qr 7 (some p), qi l4, qi l5, qi l6, qi (l7 + 1), none, none] [] g' (zV Z)) → nnWP X M_Net_dataComes 0 108 [qr 0 (some 0), qr 6 (some i), qi l2, qr 7 (some p), qi l4, qi l5, qi l6, qi l7, qr 2 (some (ε x)), qi 0] [] g (zV Z) := by
  have hP6 := h.2.2.2.2.2.2.2.1.2.1
  have hQ := h.2.2.2.2.2.2.2.2.1
  have hen0 := hen
  obtain ⟨e1, e2, e3, e4, e5, e6, e7⟩ := hen
  obtain ⟨n1, n2, n3, n4, n5, n6, hnf⟩ := e6 x (by omega)
  obtain ⟨k, hk⟩ : ∃ k, k = 5 * (6 * i + x) := ⟨_, rfl⟩
  rw [← hk] at hnf
  have c6 : (nI (6 * i + x)).toNatClampNeg = 6 * i + x := nI_clamp (by omega)
  have e5k : ∀ f, (5 : Int32) * nI (6 * i + x) + nI f = nI (k + f) := fun f => by rw [nl_5, pk_mul, nI_add, hk]
  have hvk : ∀ f, f < 5 → vp_in (nI (k + f)) 150 := fun f hf => (vpi (by omega)).mpr (by omega)
  have hck : ∀ f, f < 5 → (nI (k + f)).toNatClampNeg = k + f := fun f hf => nI_clamp (by omega)
  obtain ⟨b, hb⟩ : ∃ b : Nat → Bool, b = fun f => !decide (u 96 (k + f) = 0) := ⟨_, rfl⟩
  have hbt : ∀ f, b f = true ↔ ¬ u 96 (k + f) = 0 := fun f => by rw [hb]; simp
  have hds : ∀ F k', 92 ≤ k' → k' ≤ 101 → dsU u Q i n y w (u 93 (6 * i + x)) (u 94 (6 * i + x)) b F k' = u k' := fun F k' q1 q2 => dsU_at (by omega) F
  have eA : anU u Q i c x n y w = rmF (dsU u Q i n y w (u 93 (6 * i + x)) (u 94 (6 * i + x)) b 5) i c x := by
    rw [hb, hk]; rfl
  rw [eA]
  refine ⟨?_, fun Z hZ => mt_Mod_answerEntry ?_, fun X Z l2 l4 l5 l6 l7 hZ => ?_⟩
  · obtain ⟨g1, h1, p1⟩ := ds_w (b := b) (n := u 93 (6 * i + x)) (f := u 94 (6 * i + x)) h hi hp 5 (Nat.le_refl _)
    obtain ⟨r1, r2, r3⟩ := rl_rm h1 hi (p1.en hen0) hx
    exact ⟨_, _, r1, r2, p1.2.2.1.tr r3.pk⟩
  · have key : ∀ f, f ≤ 4 → mWP M_Mod_answerEntry 3 [qr 1 (some 0), qi (nI i), qi (nI (6 * i + x)), qi n, qi y, qi w, qi (nI f)] [] (dsU u Q i n y w (u 93 (6 * i + x)) (u 94 (6 * i + x)) b f) (mV Z) := by
      refine dn 4 ?_ ?_
      · refine mb_Mod_answerEntry_3 ⟨fun _ => ?_, fun q => absurd (by decide) q⟩
        have es : dsU u Q i n y w (u 93 (6 * i + x)) (u 94 (6 * i + x)) b 5 = if b 4 = true then dtU (dsU u Q i n y w (u 93 (6 * i + x)) (u 94 (6 * i + x)) b 4) Q i 4 n y w (u 93 (6 * i + x)) (u 94 (6 * i + x)) else dsU u Q i n y w (u 93 (6 * i + x)) (u 94 (6 * i + x)) b 4 := rfl
        rw [es] at hZ
        rw [nl_4, e5k, hck 4 (by omega), hds 4 96 (by omega) (by omega), (hnf 4 (by omega)).le96, c6, hds 4 93 (by omega) (by omega), hds 4 94 (by omega) (by omega)]
        refine ⟨hvk 4 (by omega), fun q => ?_, fun q => ⟨(vpi (by omega)).mpr (by omega), ?_⟩⟩
        · rw [if_neg (fun q2 => (hbt 4).mp q2 q)] at hZ
          exact c_Mod_removeEntry hi (by omega) hx (by rw [hds 4 92 (by omega) (by omega)]; exact e3) hZ
        · rw [if_pos ((hbt 4).mpr q)] at hZ
          refine c_Mod_settle hQ.1 (by rw [hds 4 101 (by omega) (by omega)]; exact hQ.2.2.2.1) (c_Mod_removeEntry hi (by omega) hx ?_ hZ)
          show dsU u Q i n y w (u 93 (6 * i + x)) (u 94 (6 * i + x)) b 4 92 i = _
          rw [hds 4 92 (by omega) (by omega)]; exact e3
      · intro f hf ih
        have es : dsU u Q i n y w (u 93 (6 * i + x)) (u 94 (6 * i + x)) b (f + 1) = if b f = true then dtU (dsU u Q i n y w (u 93 (6 * i + x)) (u 94 (6 * i + x)) b f) Q i f n y w (u 93 (6 * i + x)) (u 94 (6 * i + x)) else dsU u Q i n y w (u 93 (6 * i + x)) (u 94 (6 * i + x)) b f := rfl
        rw [es] at ih
        refine mb_Mod_answerEntry_3 ⟨fun q => ?_, fun _ => ?_⟩
        · rw [nl_4, nI_leI (by omega) (by omega)] at q; omega
        rw [e5k, hck f (by omega), hds f 96 (by omega) (by omega), (hnf f (by omega)).le96, nI_1]
        refine ⟨hvk f (by omega), fun q => ?_, fun q => ?_⟩
        · rw [if_neg (fun q2 => (hbt f).mp q2 q)] at ih
          exact ih
        · rw [if_pos ((hbt f).mpr q)] at ih
          unfold dtU at ih
          rw [if_neg (show ¬ f = 4 by omega)] at ih
          rw [nl_4, pk_mul, nI_add]
          obtain ⟨w', w1, w2⟩ := hw8_ds h.hw8 f (4 * i + f) (by omega)
          exact c_Mod_put (by omega) w1 w2 ih
    exact key 0 (Nat.zero_le _)
  · have key : ∀ f, f ≤ 5 → ∀ g1, rl9 S P N R Q g1 (dsU u Q i n y w (u 93 (6 * i + x)) (u 94 (6 * i + x)) b f) → ePr g g1 u (dsU u Q i n y w (u 93 (6 * i + x)) (u 94 (6 * i + x)) b f) → nnWP X M_Net_dataComes 0 108 [qr 0 (some 0), qr 6 (some i), qi l2, qr 7 (some p), qi l4, qi l5, qi l6, qi l7, qr 2 (some (ε x)), qi (nI f)] [] g1 (zV Z) := by
      refine dn 5 ?_ ?_
      · intro g1 hl1 hp1
        have hen1 := hp1.en hen0
        refine b_Net_dataComes_108 ⟨fun _ => ⟨i, rfl, i, (hl1.1.1.2.2.2 i hi).2.2.1, ?_⟩, fun q => absurd (by decide) q⟩
        refine c_Pending_takeOut hP6 (hl1.1.2.2.1 i hi).2.2.2.2.1 e1 hen1.2.1 (fun j hj => (hen1.2.2.2.1 j hj).1) e5 hx fun _ => ?_
        obtain ⟨r1, r2, r3⟩ := rl_rm hl1 hi hen1 hx
        exact hZ _ _ r1 r2 (hp1.2.2.1.tr r3.pk)
      · intro f hf ih g1 hl1 hp1
        have hen1 := hp1.en hen0
        obtain ⟨m1, m2, m3, m4, m5, m6, mf⟩ := hen1.2.2.2.2.2.1 x (by omega)
        rw [← hk] at mf
        rw [hds f 93 (by omega) (by omega)] at m1
        rw [hds f 94 (by omega) (by omega)] at m2
        have hA1 := hl1.1.en hi (e4 x (by omega)).2.1 (e4 x (by omega)).2.2
        have es : dsU u Q i n y w (u 93 (6 * i + x)) (u 94 (6 * i + x)) b (f + 1) = if b f = true then dtU (dsU u Q i n y w (u 93 (6 * i + x)) (u 94 (6 * i + x)) b f) Q i f n y w (u 93 (6 * i + x)) (u 94 (6 * i + x)) else dsU u Q i n y w (u 93 (6 * i + x)) (u 94 (6 * i + x)) b f := rfl
        rw [es] at ih
        refine b_Net_dataComes_108 ⟨fun q => ?_, fun _ => ⟨ε x, rfl, c_Entry_hasAsk hA1 hf (mf f hf) fun _ => ?_⟩⟩
        · rw [nl_5, nI_leI (by omega) (by omega)] at q; omega
        rw [hds f 96 (by omega) (by omega), nI_1, m1, m2]
        by_cases h96 : u 96 (k + f) = 0
        · rw [if_neg (fun q => (hbt f).mp q h96)] at ih
          rw [show decide (u 96 (k + f) = 0) = true by simpa using h96]
          exact ⟨fun _ => ih g1 hl1 hp1, fun q => absurd rfl q⟩
        · rw [if_pos ((hbt f).mpr h96)] at ih
          rw [show decide (u 96 (k + f) = 0) = false by simpa using h96]
          refine ⟨fun q => absurd q (by decide), fun _ => ?_⟩
          exact sdata_c hl1 hi hf (hp.pk hp1.2.2.1) fun g' hl' hp' _ => ih g' hl' (hp1.tr hp')
    exact key 0 (Nat.zero_le _) g h ePr.rf
def goB (u : MS) (i F n j : Nat) : Bool := anF u n (u 93 (6 * i + j)).toNatClampNeg (u 94 (6 * i + j)).toNatClampNeg && !decide (u 99 (5 * (6 * i + j) + F) = 0)
def daU (Q i F n : Nat) (y w : Int32) : Nat → Nat → Bool → MS → MS
  | 0, _, _, u => u
  | d + 1, j, kept, u => if goB u i F n j = true then daU Q i F n y w d j true (anU (if kept = true then u else keepU u i (nI n) y w) Q i (j + d) j (nI n) y w) else daU Q i F n y w d (j + 1) kept u
theorem data_l {S P N R Q i F n p : Nat} {y w : Int32} (hi : i < 5) (hF : F < 5) (hn : n < N) : ∀ (d j : Nat) (ε : Nat → Nat) (g : sg) (u : MS) (kept : Bool), rl9 S P N R Q g u → rEn N P i (j + d) ε g u → dtv N g p (nI n) y w →
    (∃ g0, rl9 S P N R Q g0 (daU Q i F n y w d j kept u) ∧ pkS g g0) ∧ (∀ Z : MS → Prop, Z (daU Q i F n y w d j kept u) → mWP M_Mod_data 9 [qr 1 (some 0), qi (nI i), qi (nI F), qi (nI n), qi y, qi w, qi (b2 kept), qi (nI (6 * i + j))] [] u (mV Z)) ∧ ∀ (X : Nat × (Nat → Int32)) (Z : sg → Prop) (s : Nat), s + d < 100 → (∀ g', rl9 S P N R Q g' (daU Q i F n y w d j kept u) → pkS g g' → Z g') → nnWP X M_Net_dataComes 0 18 [qr 0 (some 0), qr 6 (some i), qi (nI F), qr 7 (some p), qi (b2 kept), qi (nI j), qi (nI (s + d)), qi (nI s), none, none] [] g (zV Z) := by
  intro d
  induction d with
  | zero =>
    intro j ε g u kept h hen hp
    have hP6 := h.2.2.2.2.2.2.2.1.2.1
    have e1 := hen.1
    refine ⟨⟨g, h, pkS.rf⟩, fun Z hZ => mb_Mod_data_9 ?_, fun X Z s hs hZ => b_Net_dataComes_18 ⟨fun _ => hZ g h pkS.rf, fun q => absurd (nI_le (Nat.le_refl _) (by omega)) q⟩⟩
    rw [nI_clamp (show i < 2 ^ 31 by omega), hen.2.2.1, show (6 : Int32) * nI i + nI (j + 0) = nI (6 * i + j) by rw [nl_6, pk_mul, nI_add]; rfl]
    exact ⟨(vpi (by omega)).mpr hi, fun _ => hZ, fun q => absurd (nI_le (Nat.le_refl _) (by omega)) q⟩
  | succ d ih =>
    intro j ε g u kept h hen hp
    have hP6 := h.2.2.2.2.2.2.2.1.2.1
    have hrN := h.2.2.1
    have hN := hrN.2.1
    have hm := hrN.nm
    have hen0 := hen
    obtain ⟨e1, e2, e3, e4, e5, e6, e7⟩ := hen
    obtain ⟨n1, n2, n3, ⟨nm, hnm, n4⟩, ⟨fl, hfl, n5⟩, n6, hnf⟩ := e6 j (by omega)
    have hA := h.1.en hi (e4 j (by omega)).2.1 (e4 j (by omega)).2.2
    have e6i : (6 : Int32) * nI i + nI (j + (d + 1)) = nI (6 * i + (j + (d + 1))) := by rw [nl_6, pk_mul, nI_add]
    have e5k : (5 : Int32) * nI (6 * i + j) + nI F = nI (5 * (6 * i + j) + F) := by rw [nl_5, pk_mul, nI_add]
    have hck : (nI (5 * (6 * i + j) + F)).toNatClampNeg = 5 * (6 * i + j) + F := nI_clamp (by omega)
    have c6 : (nI (6 * i + j)).toNatClampNeg = 6 * i + j := nI_clamp (by omega)
    have hpn : gI g 449 p 0 = nI n := hp.2.2.1
    have hpd : gI g 388 i 0 = gI g 388 i 0 := rfl
    have h388 := (h.1.1.2.2.2 i hi).2.2.1
    have h387 := (h.1.1.2.2.2 i hi).2.1
    have hmod : ∀ (kept : Bool) (Z : MS → Prop), ((anF u n nm fl = false ∨ u 99 (5 * (6 * i + j) + F) = 0 → mWP M_Mod_data 9 [qr 1 (some 0), qi (nI i), qi (nI F), qi (nI n), qi y, qi w, qi (b2 kept), qi (nI (6 * i + (j + 1)))] [] u (mV Z)) ∧ (anF u n nm fl = true → ¬ u 99 (5 * (6 * i + j) + F) = 0 → (kept = true → mMT M_Mod_answerEntry [qr 1 (some 0), qi (nI i), qi (nI (6 * i + j)), qi (nI n), qi y, qi w] u (mV fun u2 => mWP M_Mod_data 9 [qr 1 (some 0), qi (nI i), qi (nI F), qi (nI n), qi y, qi w, qi 1, qi (nI (6 * i + j))] [] u2 (mV Z))) ∧ (kept = false → mMT M_Mod_keep [qr 1 (some 0), qi (nI i), qi (nI n), qi y, qi w] u (mV fun u3 => mMT M_Mod_answerEntry [qr 1 (some 0), qi (nI i), qi (nI (6 * i + j)), qi (nI n), qi y, qi w] u3 (mV fun u4 => mWP M_Mod_data 9 [qr 1 (some 0), qi (nI i), qi (nI F), qi (nI n), qi y, qi w, qi 1, qi (nI (6 * i + j))] [] u4 (mV Z)))))) → mWP M_Mod_data 9 [qr 1 (some 0), qi (nI i), qi (nI F), qi (nI n), qi y, qi w, qi (b2 kept), qi (nI (6 * i + j))] [] u (mV Z) := by
      intro kept Z hh
      refine mb_Mod_data_9 ?_
      rw [nI_clamp (show i < 2 ^ 31 by omega), e3, e6i, c6, n4, n5, nI_1]
      refine ⟨(vpi (by omega)).mpr hi, fun q => absurd q (nI_ge (by omega) (by omega)), fun _ => ⟨(vpi (by omega)).mpr (by omega), c_Mod_answers hm hN hn hnm hfl ?_⟩⟩
      rw [e5k, hck, (hnf F hF).le99]
      cases han : anF u n nm fl with
      | false => exact ⟨fun _ => hh.1 (Or.inl han), fun q => absurd rfl q⟩
      | true =>
        refine ⟨fun q => absurd q (by decide), fun _ => ⟨(vpi (by omega)).mpr (by omega), fun q => hh.1 (Or.inr q), fun q => ?_⟩⟩
        obtain ⟨k1, k2⟩ := hh.2 han q
        cases kept with
        | true => exact ⟨fun _ => k1 rfl, fun q => absurd q (by decide)⟩
        | false => exact ⟨fun q => absurd rfl q, fun _ => k2 rfl⟩
    have hcls : ∀ (kept : Bool) (X : Nat × (Nat → Int32)) (Z : sg → Prop) (s : Nat), s + (d + 1) < 100 → ((anF u n nm fl = false ∨ u 99 (5 * (6 * i + j) + F) = 0 → nnWP X M_Net_dataComes 0 18 [qr 0 (some 0), qr 6 (some i), qi (nI F), qr 7 (some p), qi (b2 kept), qi (nI (j + 1)), qi (nI (s + (d + 1))), qi (nI (s + 1)), none, none] [] g (zV Z)) ∧ (anF u n nm fl = true → ¬ u 99 (5 * (6 * i + j) + F) = 0 → (kept = true → nnWP X M_Net_dataComes 0 108 [qr 0 (some 0), qr 6 (some i), qi (nI F), qr 7 (some p), qi 1, qi (nI j), qi (nI (s + (d + 1))), qi (nI s), qr 2 (some (ε j)), qi 0] [] g (zV Z)) ∧ (kept = false → nnMT X M_Store_keep 0 [qr 12 (some i), qr 7 (some p), qi (u 67 0 + w)] g (zV fun g4 => gExt g g4 → nnWP X M_Net_dataComes 0 108 [qr 0 (some 0), qr 6 (some i), qi (nI F), qr 7 (some p), qi 1, qi (nI j), qi (nI (s + (d + 1))), qi (nI s), qr 2 (some (ε j)), qi 0] [] g4 (zV Z))))) → nnWP X M_Net_dataComes 0 18 [qr 0 (some 0), qr 6 (some i), qi (nI F), qr 7 (some p), qi (b2 kept), qi (nI j), qi (nI (s + (d + 1))), qi (nI s), none, none] [] g (zV Z) := by
      intro kept X Z s hs hh
      refine b_Net_dataComes_18 ⟨fun q => absurd q (nI_ge (by omega) (by omega)), fun _ => ⟨i, rfl, i, h388, t_Pending_at ⟨fun q => absurd q (nI_pos (by omega)), fun _ => ⟨fun q => ?_, fun _ => ⟨P, (h.1.2.2.1 i hi).2.2.2.2.1, (vpi (by omega)).mpr (by omega), ?_⟩⟩⟩⟩⟩
      · rw [e2] at q
        exact absurd q (nI_ge (by omega) (by omega))
      rw [nI_clamp (show j < 2 ^ 31 by omega), (e4 j (by omega)).1, nI_1, nI_1]
      refine fun _ => ⟨fun q => (by cases q), fun a3 ha3 => ?_⟩
      cases ha3
      refine c_Entry_hasErrand hA hF (hnf F hF) fun _ => ?_
      by_cases h99 : u 99 (5 * (6 * i + j) + F) = 0
      · rw [show decide (u 99 (5 * (6 * i + j) + F) = 0) = true by simpa using h99]
        exact ⟨fun _ => hh.1 (Or.inr h99), fun q => absurd rfl q⟩
      · rw [show decide (u 99 (5 * (6 * i + j) + F) = 0) = false by simpa using h99]
        refine ⟨fun q => absurd q (by decide), fun _ => ⟨p, rfl, 0, h.1.1.1, ?_⟩⟩
        rw [hpn, n1, n2, n4, n5]
        refine c_Names_answers hrN h.1 hn hnm hfl fun _ => ?_
        cases han : anF u n nm fl with
        | false => exact ⟨fun q => absurd rfl q, fun _ => hh.1 (Or.inl han)⟩
        | true =>
          obtain ⟨k1, k2⟩ := hh.2 han h99
          refine ⟨fun _ => ?_, fun q => absurd q (by decide)⟩
          cases kept with
          | true => exact ⟨fun _ => k1 rfl, fun q => absurd q (by decide)⟩
          | false =>
            refine ⟨fun q => absurd rfl q, fun _ => ⟨i, h387, ?_⟩⟩
            rw [h.2.1.2.1, hp.2.2.2.2.1]
            exact k2 rfl
    have eg : goB u i F n j = (anF u n nm fl && !decide (u 99 (5 * (6 * i + j) + F) = 0)) := by
      unfold goB
      rw [n4, n5, nI_clamp (by omega), nI_clamp (by omega)]
    have es : daU Q i F n y w (d + 1) j kept u = if goB u i F n j = true then daU Q i F n y w d j true (anU (if kept = true then u else keepU u i (nI n) y w) Q i (j + d) j (nI n) y w) else daU Q i F n y w d (j + 1) kept u := rfl
    rw [es]
    by_cases hgo : anF u n nm fl = true ∧ ¬ u 99 (5 * (6 * i + j) + F) = 0
    · obtain ⟨g1, g2⟩ := hgo
      have hno : ¬ (anF u n nm fl = false ∨ u 99 (5 * (6 * i + j) + F) = 0) := by
        rintro (q | q)
        · rw [g1] at q; exact absurd q (by decide)
        · exact g2 q
      rw [if_pos (by rw [eg]; simp [g1, g2])]
      cases kept with
      | true =>
        rw [if_pos rfl]
        obtain ⟨⟨g0, ε0, w1, w2, w3⟩, t1, t2⟩ := ans_p (c := j + d) (x := j) h hi hen0 (by omega) hp
        obtain ⟨⟨g3, w4, w5⟩, s1, s2⟩ := ih j ε0 g0 _ true w1 w2 (hp.pk w3)
        refine ⟨⟨g3, w4, w3.tr w5⟩, fun Z hZ => hmod true Z ⟨fun q => absurd q hno, fun _ _ => ⟨fun _ => t1 _ (s1 Z hZ), fun q => absurd q (by decide)⟩⟩, fun X Z s hs hZ => hcls true X Z s hs ⟨fun q => absurd q hno, fun _ _ => ⟨fun _ => t2 X Z _ _ _ _ _ fun g' ε' l1 l2 l3 => ?_, fun q => absurd q (by decide)⟩⟩⟩
        rw [nI_1, show s + (d + 1) = s + 1 + d by omega]
        exact (ih j ε' g' _ true l1 l2 (hp.pk l3)).2.2 X Z (s + 1) (by omega) fun g4 m1 m2 => hZ g4 m1 (l3.tr m2)
      | false =>
        rw [if_neg (show ¬ false = true by decide)]
        obtain ⟨⟨ga, a1, a2⟩, k1, k2⟩ := keep_p h hi hp
        obtain ⟨⟨g0, ε0, w1, w2, w3⟩, t1, -⟩ := ans_p (c := j + d) (x := j) a1 hi (a2.en hen0) (by omega) (hp.pk a2.2.2.1)
        obtain ⟨⟨g3, w4, w5⟩, s1, -⟩ := ih j ε0 g0 _ true w1 w2 (hp.pk (a2.2.2.1.tr w3))
        refine ⟨⟨g3, w4, a2.2.2.1.tr (w3.tr w5)⟩, fun Z hZ => hmod false Z ⟨fun q => absurd q hno, fun _ _ => ⟨fun q => absurd q (by decide), fun _ => k1 _ (t1 _ (s1 Z hZ))⟩⟩, fun X Z s hs hZ => hcls false X Z s hs ⟨fun q => absurd q hno, fun _ _ => ⟨fun q => absurd q (by decide), fun _ => k2 X _ fun gb b1 b2' _ => ?_⟩⟩⟩
        obtain ⟨-, -, t2⟩ := ans_p (c := j + d) (x := j) b1 hi (b2'.en hen0) (by omega) (hp.pk b2'.2.2.1)
        refine t2 X Z _ _ _ _ _ fun g' ε' l1 l2 l3 => ?_
        rw [nI_1, show s + (d + 1) = s + 1 + d by omega]
        exact (ih j ε' g' _ true l1 l2 (hp.pk (b2'.2.2.1.tr l3))).2.2 X Z (s + 1) (by omega) fun g4 m1 m2 => hZ g4 m1 (b2'.2.2.1.tr (l3.tr m2))
    · have hgf : anF u n nm fl = false ∨ u 99 (5 * (6 * i + j) + F) = 0 := by
        cases hc : anF u n nm fl with
        | false => exact Or.inl rfl
        | true =>
          refine Or.inr ?_
          apply Classical.byContradiction
          intro q
          exact hgo ⟨hc, q⟩
      rw [if_neg]
      · obtain ⟨w1, s1, s2⟩ := ih (j + 1) ε g u kept h (by rw [show j + 1 + d = j + (d + 1) by omega]; exact hen0) hp
        refine ⟨w1, fun Z hZ => hmod kept Z ⟨fun _ => s1 Z hZ, fun q1 q2 => absurd ⟨q1, q2⟩ hgo⟩, fun X Z s hs hZ => hcls kept X Z s hs ⟨fun _ => ?_, fun q1 q2 => absurd ⟨q1, q2⟩ hgo⟩⟩
        rw [show s + (d + 1) = s + 1 + d by omega]
        exact s2 X Z (s + 1) (by omega) hZ
      · rw [eg]
        rcases hgf with q | q <;> simp [q]
def dataU (u : MS) (Q i F n : Nat) (y w : Int32) : MS := daU Q i F n y w (u 92 i).toNatClampNeg 0 false u
theorem data_p {S P N R Q i F n p : Nat} {g : sg} {u : MS} {y w : Int32} (h : rl9 S P N R Q g u) (hi : i < 5) (hF : F < 5) (hn : n < N) (hp : dtv N g p (nI n) y w) :
    (∃ g0, rl9 S P N R Q g0 (dataU u Q i F n y w) ∧ pkS g g0) ∧ (∀ Z : MS → Prop, Z (dataU u Q i F n y w) → mMT M_Mod_data [qr 1 (some 0), qi (nI i), qi (nI F), qi (nI n), qi y, qi w] u (mV Z)) ∧ ∀ (X : Nat × (Nat → Int32)) (Z : sg → Prop), (∀ g', rl9 S P N R Q g' (dataU u Q i F n y w) → pkS g g' → Z g') → nnMT X M_Net_dataComes 0 [qr 0 (some 0), qr 6 (some i), qi (nI F), qr 7 (some p)] g (zV Z) := by
  obtain ⟨c, ε, hen⟩ := h.2.2.2.2.2.2.2.1.2.2.2 i hi
  have hP6 := h.2.2.2.2.2.2.2.1.2.1
  have e1 := hen.1
  have ec : (u 92 i).toNatClampNeg = c := by rw [hen.2.2.1, nI_clamp (by omega)]
  unfold dataU
  rw [ec]
  obtain ⟨w1, s1, s2⟩ := data_l (y := y) (w := w) hi hF hn c 0 ε g u false h (by rw [Nat.zero_add]; exact hen) hp
  refine ⟨w1, fun Z hZ => mt_Mod_data ?_, fun X Z hZ => t_Net_dataComes ⟨i, rfl, i, (h.1.1.2.2.2 i hi).2.2.1, ?_⟩⟩
  · rw [show (6 : Int32) * nI i = nI (6 * i + 0) by rw [nl_6, pk_mul]; rfl]
    exact s1 Z hZ
  · rw [hen.2.1]
    have := s2 X Z 0 (by omega) hZ
    rw [Nat.zero_add] at this
    exact this
