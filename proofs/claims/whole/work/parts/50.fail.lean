def inE (k : Nat) : Prop := (92 ≤ k ∧ k ≤ 100) ∨ k = 78
theorem nkU_at {u : MS} {Q i F k : Nat} {x y z : Int32} (h : k ≠ 76 ∧ k ≠ 77 ∧ k ≠ 105 ∧ k ≠ 107 ∧ k ≠ 108) : nkU u Q i F x y z k = u k := by
  unfold nkU
  split
  · funext y
    unfold stU
    rw [if_neg (by omega), if_neg (by omega), if_neg (by omega)]
  · exact putU_at h.1 h.2.1
theorem putU_congr {u u' : MS} {e : Nat} {k a b c d : Int32} (hu : ∀ k, ¬ inE k → u' k = u k) : ∀ f, ¬ inE f → putU u' e k a b c d f = putU u e k a b c d f := by
  intro f hf
  unfold putU
  rw [hu 74 (by unfold inE; omega), hu 75 (by unfold inE; omega), hu 76 (by unfold inE; omega)]
  split
  · exact hu f hf
  · funext y
    simp only [mu_at]
    rw [hu f hf]
theorem stU_congr {u u' : MS} {i n f s a b : Int32} {Q : Nat} (hu : ∀ k, ¬ inE k → u' k = u k) : ∀ k, ¬ inE k → stU u' i n f s a b Q k = stU u i n f s a b Q k := by
  intro k hk
  funext y
  unfold stU hitB
  rw [hu 102 (by unfold inE; omega), hu 103 (by unfold inE; omega), hu 104 (by unfold inE; omega), hu 105 (by unfold inE; omega), hu k hk]
theorem nkU_congr {u u' : MS} {Q i F : Nat} {x y z : Int32} (hu : ∀ k, ¬ inE k → u' k = u k) : ∀ k, ¬ inE k → nkU u' Q i F x y z k = nkU u Q i F x y z k := by
  intro k hk
  unfold nkU
  split
  · exact stU_congr hu k hk
  · exact putU_congr hu k hk
def nsU (w : MS) (Q i : Nat) (x y : Int32) (b : Nat → Bool) (z : Nat → Int32) : Nat → MS
  | 0 => w
  | f + 1 => if b f = true then nkU (nsU w Q i x y b z f) Q i f x y (z f) else nsU w Q i x y b z f
theorem nsU_at {w : MS} {Q i k : Nat} {x y : Int32} {b : Nat → Bool} {z : Nat → Int32} (h : k ≠ 76 ∧ k ≠ 77 ∧ k ≠ 105 ∧ k ≠ 107 ∧ k ≠ 108) : ∀ f, nsU w Q i x y b z f k = w k
  | 0 => rfl
  | f + 1 => by
    show (if b f = true then nkU (nsU w Q i x y b z f) Q i f x y (z f) else nsU w Q i x y b z f) k = w k
    split
    · rw [nkU_at h]; exact nsU_at h f
    · exact nsU_at h f
theorem nsU_congr {w w' : MS} {Q i : Nat} {x y : Int32} {b : Nat → Bool} {z : Nat → Int32} (hu : ∀ k, ¬ inE k → w' k = w k) : ∀ f k, ¬ inE k → nsU w' Q i x y b z f k = nsU w Q i x y b z f k
  | 0, k, hk => hu k hk
  | f + 1, k, hk => by
    show (if b f = true then nkU (nsU w' Q i x y b z f) Q i f x y (z f) else nsU w' Q i x y b z f) k = (if b f = true then nkU (nsU w Q i x y b z f) Q i f x y (z f) else nsU w Q i x y b z f) k
    split
    · exact nkU_congr (fun k hk => nsU_congr hu f k hk) k hk
    · exact nsU_congr hu f k hk
def hw8 (u : MS) : Prop := ∀ e, e < 20 → ∃ w, w ≤ 8 ∧ u 76 e = nI w
theorem hw8_nk {u : MS} {Q i F : Nat} {x y z : Int32} (h : hw8 u) : hw8 (nkU u Q i F x y z) := by
  intro e he
  unfold nkU
  split
  · exact h e he
  · unfold putU
    split
    · exact h e he
    · rename_i hc
      simp only [mu_at]
      by_cases hee : e = 4 * i + F
      · obtain ⟨w, w1, w2⟩ := h e he
        rw [if_pos (by simp [hee])]
        rw [← hee, w2, nI_clamp (by omega)]
        refine ⟨w + 1, ?_, rfl⟩
        rw [← hee, w2] at hc
        have : ¬ nI w = 8 := fun q => hc (Or.inr (Or.inr q))
        rw [nl_8, nI_eq (by omega) (by omega)] at this
        omega
      · simp [hee]
        exact h e he
theorem hw8_ns {w : MS} {Q i : Nat} {x y : Int32} {b : Nat → Bool} {z : Nat → Int32} (h : hw8 w) : ∀ f, hw8 (nsU w Q i x y b z f)
  | 0 => h
  | f + 1 => by
    show hw8 (if b f = true then nkU (nsU w Q i x y b z f) Q i f x y (z f) else nsU w Q i x y b z f)
    split
    · exact hw8_nk (hw8_ns h f)
    · exact hw8_ns h f
theorem c_Mod_nackOut {u : MS} {Q i F : Nat} {x y z : Int32} {Z : MS → Prop} (hi : i < 5) (hF : F < 5) (hQ : Q ≤ 120) (h101 : u 101 0 = nI Q) (hw : hw8 u) (hZ : Z (nkU u Q i F x y z)) : mMT M_Mod_nackOut [qr 1 (some 0), qi (nI i), qi (nI F), qi x, qi y, qi z] u (mV Z) := by
  unfold nkU at hZ
  refine mt_Mod_nackOut ⟨fun q => ?_, fun q => ?_⟩
  · rw [nl_4, nI_eq (by omega) (by omega)] at q
    rw [if_neg q] at hZ
    rw [nl_4, pk_mul, nI_add]
    obtain ⟨w, w1, w2⟩ := hw (4 * i + F) (by omega)
    exact c_Mod_put (by omega) w1 w2 hZ
  · rw [nl_4, nI_eq (by omega) (by omega)] at q
    rw [if_pos q] at hZ
    exact c_Mod_settle hQ h101 hZ
def mkI (b : Nat → Bool) : Nat → Int32
  | 0 => 0
  | f + 1 => if b f = true then mkI b f ||| (1 <<< (nI f &&& 31)) else mkI b f
def mk5 (a b c d e : Bool) : Int32 :=
  let m0 : Int32 := if a = true then (0 : Int32) ||| (1 <<< (nI 0 &&& 31)) else 0
  let m1 := if b = true then m0 ||| (1 <<< (nI 1 &&& 31)) else m0
  let m2 := if c = true then m1 ||| (1 <<< (nI 2 &&& 31)) else m1
  let m3 := if d = true then m2 ||| (1 <<< (nI 3 &&& 31)) else m2
  if e = true then m3 ||| (1 <<< (nI 4 &&& 31)) else m3
theorem mk5_bit : ∀ a b c d e : Bool, (((mk5 a b c d e >>> (nI 0 &&& 31)) &&& 1 = 1 ↔ a = true) ∧ ((mk5 a b c d e >>> (nI 1 &&& 31)) &&& 1 = 1 ↔ b = true) ∧ ((mk5 a b c d e >>> (nI 2 &&& 31)) &&& 1 = 1 ↔ c = true) ∧ ((mk5 a b c d e >>> (nI 3 &&& 31)) &&& 1 = 1 ↔ d = true) ∧ ((mk5 a b c d e >>> (nI 4 &&& 31)) &&& 1 = 1 ↔ e = true)) := by decide +kernel
theorem mk_bit (b : Nat → Bool) {f : Nat} (hf : f < 5) : ((mkI b 5 >>> (nI f &&& 31)) &&& 1 = 1) ↔ b f = true := by
  have e : mkI b 5 = mk5 (b 0) (b 1) (b 2) (b 3) (b 4) := rfl
  rw [e]
  obtain ⟨h0, h1, h2, h3, h4⟩ := mk5_bit (b 0) (b 1) (b 2) (b 3) (b 4)
  have : f = 0 ∨ f = 1 ∨ f = 2 ∨ f = 3 ∨ f = 4 := by omega
  rcases this with q | q | q | q | q <;> subst q
  · exact h0
  · exact h1
  · exact h2
  · exact h3
  · exact h4
def s8 (u : MS) (k f : Nat) : MS := fun kk y => if kk = 78 ∧ y < f then u 97 (k + y) else u kk y
theorem s8_0 {u : MS} {k : Nat} : s8 u k 0 = u := by
  funext kk y
  unfold s8
  rw [if_neg (by omega)]
theorem s8_s {u : MS} {k f : Nat} : mu (s8 u k f) 78 f (u 97 (k + f)) = s8 u k (f + 1) := by
  funext kk y
  simp only [mu_at]
  unfold s8
  by_cases h : kk = 78 ∧ y = f
  · obtain ⟨rfl, rfl⟩ := h
    rw [if_pos ⟨rfl, rfl⟩, if_pos ⟨rfl, by omega⟩]
  · rw [if_neg h]
    have e : (kk = 78 ∧ y < f) ↔ (kk = 78 ∧ y < f + 1) := by omega
    simp only [e]
theorem rl9_78 {S P N R Q : Nat} {g : sg} {w v : MS} (h : rl9 S P N R Q g w) (hv : ∀ k, k ≠ 78 → v k = w k) : rl9 S P N R Q g v := by
  refine rl9_E h ⟨fun k h1 h2 => hv k h2, fun f _ => ⟨rfl, rfl⟩, fun _ _ => rfl, fun _ => rfl⟩ ?_
  obtain ⟨e1, e2, e3, e4⟩ := h.2.2.2.2.2.2.2.1
  refine ⟨e1, e2, by rw [hv 65 (by omega)]; exact e3, fun i hi => ?_⟩
  obtain ⟨c, ε, he⟩ := e4 i hi
  have hp : ePr g g w v := ⟨fun k h1 h2 => hv k (by omega), fun _ _ => ⟨rfl, rfl⟩, pkS.rf, hv 67 (by omega)⟩
  exact ⟨c, ε, hp.en he⟩
theorem c_Entry_allNacked {X : Nat × (Nat → Int32)} {kk a k : Nat} {g : sg} {u : MS} {Z : Int32 → sg → Prop} (hA : enA g a) (hf : ∀ f, f < 5 → enf g u a k f) (h : ((∀ f, f < 5 → ¬ u 99 (k + f) = 1) → Z 1 g) ∧ ∀ f, f < 5 → u 99 (k + f) = 1 → Z 0 g) : nnMT X M_Entry_allNacked kk [qr 2 (some a)] g (zI Z) := by
  refine t_Entry_allNacked ?_
  have key : ∀ f, f ≤ 5 → (∀ f', f' < f → ¬ u 99 (k + f') = 1) → nnWP X M_Entry_allNacked kk 2 [qr 2 (some a), qi (nI f)] [] g (zI Z) := by
    refine dn 5 (fun hno => b_Entry_allNacked_2 ⟨fun _ => h.1 hno, fun q => absurd (by decide) q⟩) ?_
    intro f hf5 ih hno
    have hen := hf f hf5
    have hgo : ¬ u 99 (k + f) = 1 → nnWP X M_Entry_allNacked kk 2 [qr 2 (some a), qi (nI (f + 1))] [] g (zI Z) := fun hn => ih fun f' hf' => by
      by_cases e : f' = f
      · rw [e]; exact hn
      · exact hno f' (by omega)
    refine b_Entry_allNacked_2 ⟨fun q => ?_, fun _ => c_Entry_hasErrand hA hf5 hen fun _ => ?_⟩
    · rw [nl_5, nI_leI (by omega) (by omega)] at q; omega
    rw [nI_clamp (show f < 2 ^ 31 by omega), nI_1]
    rcases hen.2 with ⟨z1, z2⟩ | ⟨-, -, ⟨z1, z2⟩ | ⟨z1, z2⟩⟩
    · rw [z1]
      refine ⟨fun _ => hgo ?_, fun q => absurd rfl q⟩
      rw [z1]; decide
    · rw [z1, z2]
      exact ⟨fun q => absurd q (by decide), fun _ => ⟨hA.2.2.2, (vpi (by omega)).mpr hf5, fun q => absurd rfl q, fun _ => h.2 f hf5 z1⟩⟩
    · rw [z1, z2]
      refine ⟨fun q => absurd q (by decide), fun _ => ⟨hA.2.2.2, (vpi (by omega)).mpr hf5, fun _ => hgo ?_, fun q => absurd q (by decide)⟩⟩
      rw [z1]; decide
  exact key 0 (Nat.zero_le _) (fun j' q => absurd q (Nat.not_lt_zero _))
theorem nk_w {S P N R Q i F : Nat} {g : sg} {u : MS} {x y z : Int32} (h : rl9 S P N R Q g u) (hi : i < 5) (hF : F < 5) (hz : ∃ q, q < 120 ∧ z = nI (1000 + q)) : ∃ g0, rl9 S P N R Q g0 (nkU u Q i F x y z) ∧ ePr g g0 u (nkU u Q i F x y z) := by
  unfold nkU
  by_cases q : F = 4
  · rw [if_pos q]
    exact ⟨_, rl_settle (o := none) h (Or.inl ⟨rfl, rfl, rfl, rfl⟩), ePr_settle⟩
  · rw [if_neg q]
    obtain ⟨g2, hg2⟩ : ∃ g2, g2 = pI (pI (pI (pI (pN g 7) 448 (gC g 7) 0 2) 449 (gC g 7) 0 x) 450 (gC g 7) 0 y) 451 (gC g 7) 0 z := ⟨_, rfl⟩
    have ha : agP g g2 := by
      rw [hg2]
      exact agP_pI (agP_pI (agP_pI (agP_pI (agP_new _) (by decide) _ _) (by decide) _ _) (by decide) _ _) (by decide) _ _
    have hp : pkv N R g2 u (gC g 7) 2 x y z 0 := ⟨by rw [ha.2.1]; omega, by rw [hg2]; simp [gI_pI], Or.inr (Or.inr (Or.inl ⟨rfl, by rw [hg2]; simp [gI_pI], by rw [hg2]; simp [gI_pI], by rw [hg2]; simp [gI_pI], hz⟩))⟩
    exact ⟨_, rl_put (rl_agP h ha) (by omega) hp, (ePr_agP ha).tr ePr_put⟩
theorem ns_w {S P N R Q i : Nat} {g : sg} {u : MS} {x y : Int32} {b : Nat → Bool} {z : Nat → Int32} (h : rl9 S P N R Q g u) (hi : i < 5) (hz : ∀ f, f < 5 → b f = true → ∃ q, q < 120 ∧ z f = nI (1000 + q)) : ∀ F, F ≤ 5 → ∃ g0, rl9 S P N R Q g0 (nsU u Q i x y b z F) ∧ ePr g g0 u (nsU u Q i x y b z F)
  | 0, _ => ⟨g, h, ePr.rf⟩
  | F + 1, hF => by
    obtain ⟨g1, h1, p1⟩ := ns_w (x := x) (y := y) h hi hz F (by omega)
    show ∃ g0, rl9 S P N R Q g0 (if b F = true then nkU (nsU u Q i x y b z F) Q i F x y (z F) else nsU u Q i x y b z F) ∧ ePr g g0 u (if b F = true then nkU (nsU u Q i x y b z F) Q i F x y (z F) else nsU u Q i x y b z F)
    by_cases q : b F = true
    · rw [if_pos q]
      obtain ⟨g2, h2, p2⟩ := nk_w (x := x) (y := y) h1 hi (show F < 5 by omega) (hz F (by omega) q)
      exact ⟨g2, h2, p1.tr p2⟩
    · rw [if_neg q]
      exact ⟨g1, h1, p1⟩
def alB (u : MS) (k : Nat) : Bool := !decide (u 99 (k + 0) = 1) && !decide (u 99 (k + 1) = 1) && !decide (u 99 (k + 2) = 1) && !decide (u 99 (k + 3) = 1) && !decide (u 99 (k + 4) = 1)
theorem alB_iff {u : MS} {k : Nat} : alB u k = true ↔ ∀ f, f < 5 → ¬ u 99 (k + f) = 1 := by
  unfold alB
  simp only [Bool.and_eq_true, Bool.not_eq_true', decide_eq_false_iff_not]
  constructor
  · rintro ⟨⟨⟨⟨h0, h1⟩, h2⟩, h3⟩, h4⟩ f hf
    have : f = 0 ∨ f = 1 ∨ f = 2 ∨ f = 3 ∨ f = 4 := by omega
    rcases this with e | e | e | e | e <;> subst e <;> assumption
  · intro h
    exact ⟨⟨⟨⟨h 0 (by omega), h 1 (by omega)⟩, h 2 (by omega)⟩, h 3 (by omega)⟩, h 4 (by omega)⟩
def faU (u : MS) (Q i c x : Nat) : MS := if alB u (5 * (6 * i + x)) = true then nsU (rmF (s8 u (5 * (6 * i + x)) 5) i c x) Q i (u 93 (6 * i + x)) (u 94 (6 * i + x)) (fun f => !decide (u 96 (5 * (6 * i + x) + f) = 0)) (fun f => u 97 (5 * (6 * i + x) + f)) 5 else u
theorem fail_p {S P N R Q i c x : Nat} {ε : Nat → Nat} {g : sg} {u : MS} (h : rl9 S P N R Q g u) (hi : i < 5) (hen : rEn N P i (c + 1) ε g u) (hx : x ≤ c) :
    (∃ g0, rl9 S P N R Q g0 (faU u Q i c x) ∧ pkS g g0) ∧ (∀ Z : MS → Prop, Z (faU u Q i c x) → mMT M_Mod_failIfDone [qr 1 (some 0), qi (nI i), qi (nI (6 * i + x))] u (mV Z)) ∧ ∀ (X : Nat × (Nat → Int32)) (Z : sg → Prop), (∀ g', rl9 S P N R Q g' (faU u Q i c x) → pkS g g' → Z g') → nnMT X M_Net_failIfAllNacked 5 [qr 0 (some 0), qr 6 (some i), qr 2 (some (ε x))] g (zV Z) := by
  have hP6 := h.2.2.2.2.2.2.2.1.2.1
  have hQ := h.2.2.2.2.2.2.2.2.1
  have hen0 := hen
  obtain ⟨e1, e2, e3, e4, e5, e6, e7⟩ := hen
  obtain ⟨n1, n2, n3, n4, n5, n6, hnf⟩ := e6 x (by omega)
  have hA := h.1.en hi (e4 x (by omega)).2.1 (e4 x (by omega)).2.2
  obtain ⟨k, hk⟩ : ∃ k, k = 5 * (6 * i + x) := ⟨_, rfl⟩
  rw [← hk] at hnf
  have c6 : (nI (6 * i + x)).toNatClampNeg = 6 * i + x := nI_clamp (by omega)
  have e5k : ∀ f, (5 : Int32) * nI (6 * i + x) + nI f = nI (k + f) := fun f => by rw [nl_5, pk_mul, nI_add, hk]
  have hvk : ∀ f, f < 5 → vp_in (nI (k + f)) 150 := fun f hf => (vpi (by omega)).mpr (by omega)
  have hck : ∀ f, f < 5 → (nI (k + f)).toNatClampNeg = k + f := fun f hf => nI_clamp (by omega)
  by_cases hall : ∀ f, f < 5 → ¬ u 99 (k + f) = 1
  · obtain ⟨b, hb⟩ : ∃ b : Nat → Bool, b = fun f => !decide (u 96 (k + f) = 0) := ⟨_, rfl⟩
    obtain ⟨z, hz⟩ : ∃ z : Nat → Int32, z = fun f => u 97 (k + f) := ⟨_, rfl⟩
    have hbt : ∀ f, b f = true ↔ ¬ u 96 (k + f) = 0 := fun f => by rw [hb]; simp
    have hw8u : hw8 u := fun e he => by obtain ⟨w, w1, -, w3⟩ := h.w he; exact ⟨w, w1, w3⟩
    have hE8 : ∀ f k', ¬ inE k' → rmF (s8 u k f) i c x k' = u k' := by
      intro f k' hk'
      have q : ¬ (92 ≤ k' ∧ k' ≤ 100) ∧ k' ≠ 78 := ⟨fun z => hk' (Or.inl z), fun z => hk' (Or.inr z)⟩
      funext y
      unfold rmF rmU s8
      rw [if_neg (by omega), if_neg (by omega), if_neg (by omega), if_neg (by omega)]
    have eF : faU u Q i c x = nsU (rmF (s8 u k 5) i c x) Q i (u 93 (6 * i + x)) (u 94 (6 * i + x)) b z 5 := by
      unfold faU
      rw [← hk, if_pos (alB_iff.mpr hall), hb, hz]
    rw [eF]
    have hfin : ∀ g1, rl9 S P N R Q g1 (nsU u Q i (u 93 (6 * i + x)) (u 94 (6 * i + x)) b z 5) → ePr g g1 u (nsU u Q i (u 93 (6 * i + x)) (u 94 (6 * i + x)) b z 5) → rl9 S P N R Q (tkF g1 i c x (ε x)) (nsU (rmF (s8 u k 5) i c x) Q i (u 93 (6 * i + x)) (u 94 (6 * i + x)) b z 5) ∧ pkS g (tkF g1 i c x (ε x)) := by
      intro g1 hl1 hp1
      obtain ⟨r1, r2, r3⟩ := rl_rm hl1 hi (hp1.en hen0) hx
      refine ⟨rl9_78 r1 fun k' hk' => ?_, hp1.2.2.1.tr r3.pk⟩
      by_cases hin : inE k'
      · have hq : k' ≠ 76 ∧ k' ≠ 77 ∧ k' ≠ 105 ∧ k' ≠ 107 ∧ k' ≠ 108 := by unfold inE at hin; omega
        rw [nsU_at hq]
        funext y
        have hns : ∀ y, nsU u Q i (u 93 (6 * i + x)) (u 94 (6 * i + x)) b z 5 k' y = u k' y := fun y => by rw [nsU_at hq]
        have h8 : ∀ y, s8 u k 5 k' y = u k' y := fun y => by unfold s8; rw [if_neg (fun z => hk' z.1)]
        unfold rmF rmU
        rw [hns, hns, hns, h8, h8, h8]
      · rw [nsU_congr (hE8 5) 5 k' hin]
        exact (r3.1 k' (fun q => hin (Or.inl q)) hk').symm
    refine ⟨?_, fun Z hZ => mt_Mod_failIfDone ?_, fun X Z hZ => t_Net_failIfAllNacked ⟨ε x, rfl, c_Entry_allNacked hA hnf ⟨fun _ _ => ⟨fun _ => ?_, fun q => absurd q (by decide)⟩, fun f hf q => absurd q (hall f hf)⟩⟩⟩
    · obtain ⟨g1, h1, p1⟩ := ns_w (x := u 93 (6 * i + x)) (y := u 94 (6 * i + x)) (b := b) (z := z) h hi (fun f hf hbf => by
        rcases (hnf f hf).1 with ⟨z1, -⟩ | ⟨-, z2, -⟩
        · exact absurd z1 ((hbt f).mp hbf)
        · rw [hz]; exact z2) 5 (Nat.le_refl _)
      exact ⟨_, hfin g1 h1 p1⟩
    · -- the reference
      have k116 : ∀ f, f ≤ 5 → mWP M_Mod_failIfDone 116 [qr 1 (some 0), qi (nI i), none, qi (u 93 (6 * i + x)), qi (u 94 (6 * i + x)), qi (mkI b 5), qi (nI f)] [] (nsU (rmF (s8 u k 5) i c x) Q i (u 93 (6 * i + x)) (u 94 (6 * i + x)) b z f) (mV Z) := by
        refine dn 5 (mb_Mod_failIfDone_116 ⟨fun _ => hZ, fun q => absurd (by decide) q⟩) ?_
        intro f hf ih
        have es : nsU (rmF (s8 u k 5) i c x) Q i (u 93 (6 * i + x)) (u 94 (6 * i + x)) b z (f + 1) = if b f = true then nkU (nsU (rmF (s8 u k 5) i c x) Q i (u 93 (6 * i + x)) (u 94 (6 * i + x)) b z f) Q i f (u 93 (6 * i + x)) (u 94 (6 * i + x)) (z f) else nsU (rmF (s8 u k 5) i c x) Q i (u 93 (6 * i + x)) (u 94 (6 * i + x)) b z f := rfl
        rw [es] at ih
        refine mb_Mod_failIfDone_116 ⟨fun q => ?_, fun _ => ?_⟩
        · rw [nl_5, nI_leI (by omega) (by omega)] at q; omega
        rw [mk_bit b hf, nI_1]
        refine ⟨fun q => ?_, fun q => ⟨(vpi (by omega)).mpr hf, ?_⟩⟩
        · rw [if_neg q] at ih; exact ih
        · rw [if_pos q] at ih
          rw [nI_clamp (show f < 2 ^ 31 by omega), nsU_at (by omega)]
          have ez : rmF (s8 u k 5) i c x 78 f = z f := by
            show (if 78 = 78 ∧ f < 5 then u 97 (k + f) else u 78 f) = z f
            rw [if_pos ⟨rfl, hf⟩, hz]
          rw [ez]
          refine c_Mod_nackOut hi hf hQ.1 ?_ (hw8_ns (fun e he => ?_) f) ih
          · rw [nsU_at (by omega), hE8 5 101 (by unfold inE; omega)]; exact hQ.2.2.2.1
          · rw [hE8 5 76 (by unfold inE; omega)]; exact hw8u e he
      have k49 : ∀ f, f ≤ 5 → mWP M_Mod_failIfDone 49 [qr 1 (some 0), qi (nI i), qi (nI (6 * i + x)), qi (u 93 (6 * i + x)), qi (u 94 (6 * i + x)), qi (mkI b f), qi (nI f)] [] (s8 u k f) (mV Z) := by
        refine dn 5 (mb_Mod_failIfDone_49 ⟨fun _ => c_Mod_removeEntry hi (by omega) hx e3 (k116 0 (Nat.zero_le _)), fun q => absurd (by decide) q⟩) ?_
        intro f hf ih
        have hen' := hnf f hf
        have es : mkI b (f + 1) = if b f = true then mkI b f ||| (1 <<< (nI f &&& 31)) else mkI b f := rfl
        rw [es] at ih
        refine mb_Mod_failIfDone_49 ⟨fun q => ?_, fun _ => ?_⟩
        · rw [nl_5, nI_leI (by omega) (by omega)] at q; omega
        rw [e5k, hck f hf, nI_clamp (show f < 2 ^ 31 by omega), nI_1, show s8 u k f 96 (k + f) = u 96 (k + f) from rfl, show s8 u k f 97 (k + f) = u 97 (k + f) from rfl, s8_s, hen'.le96]
        refine ⟨hvk f hf, fun q => ⟨(vpi (by omega)).mpr hf, fun u2 h2 => ?_⟩, fun q => ⟨(vpi (by omega)).mpr hf, fun u2 h2 => ?_⟩⟩
        · subst h2
          rw [if_neg (fun q2 => (hbt f).mp q2 q)] at ih
          exact ih
        · subst h2
          rw [if_pos ((hbt f).mpr q)] at ih
          exact ih
      have k2 : ∀ f, f ≤ 5 → mWP M_Mod_failIfDone 2 [qr 1 (some 0), qi (nI i), qi (nI (6 * i + x)), qi (nI f), none, none, none] [] u (mV Z) := by
        refine dn 5 (mb_Mod_failIfDone_2 ⟨fun _ => ⟨(vpi (by omega)).mpr (by omega), ?_⟩, fun q => absurd (by decide) q⟩) ?_
        · have := k49 0 (Nat.zero_le _)
          rw [s8_0] at this
          rw [c6]
          exact this
        intro f hf ih
        refine mb_Mod_failIfDone_2 ⟨fun q => ?_, fun _ => ?_⟩
        · rw [nl_5, nI_leI (by omega) (by omega)] at q; omega
        rw [e5k, hck f hf, nI_1]
        exact ⟨hvk f hf, fun _ => ih, fun q => absurd q (hall f hf)⟩
      exact k2 0 (Nat.zero_le _)
    · -- the class
      have key : ∀ f, f ≤ 5 → ∀ g1, rl9 S P N R Q g1 (nsU u Q i (u 93 (6 * i + x)) (u 94 (6 * i + x)) b z f) → ePr g g1 u (nsU u Q i (u 93 (6 * i + x)) (u 94 (6 * i + x)) b z f) → ∀ kk, 5 - f ≤ kk → nnWP X M_Net_failIfAllNacked kk 10 [qr 0 (some 0), qr 6 (some i), qr 2 (some (ε x)), qi (nI f)] [] g1 (zV Z) := by
        refine dn 5 ?_ ?_
        · intro g1 hl1 hp1 kk _
          have hen1 := hp1.en hen0
          refine b_Net_failIfAllNacked_10 ⟨fun _ => ⟨i, rfl, i, (hl1.1.1.2.2.2 i hi).2.2.1, ?_⟩, fun q => absurd (by decide) q⟩
          refine c_Pending_takeOut hP6 (hl1.1.2.2.1 i hi).2.2.2.2.1 e1 hen1.2.1 (fun j hj => (hen1.2.2.2.1 j hj).1) e5 hx fun _ => ?_
          exact hZ _ (hfin g1 hl1 hp1).1 (hfin g1 hl1 hp1).2
        · intro f hf ih g1 hl1 hp1 kk hkk
          have hen1 := hp1.en hen0
          obtain ⟨m1, m2, m3, m4, m5, m6, mf⟩ := hen1.2.2.2.2.2.1 x (by omega)
          rw [← hk] at mf
          have hA1 := hl1.1.en hi (e4 x (by omega)).2.1 (e4 x (by omega)).2.2
          have hns : ∀ k', 92 ≤ k' → k' ≤ 100 → nsU u Q i (u 93 (6 * i + x)) (u 94 (6 * i + x)) b z f k' = u k' := fun k' q1 q2 => nsU_at (by omega) f
          rw [hns 93 (by omega) (by omega)] at m1
          rw [hns 94 (by omega) (by omega)] at m2
          refine b_Net_failIfAllNacked_10 ⟨fun q => ?_, fun _ => ⟨ε x, rfl, c_Entry_hasAsk hA1 hf (mf f hf) fun _ => ?_⟩⟩
          · rw [nl_5, nI_leI (by omega) (by omega)] at q; omega
          have es : nsU u Q i (u 93 (6 * i + x)) (u 94 (6 * i + x)) b z (f + 1) = if b f = true then nkU (nsU u Q i (u 93 (6 * i + x)) (u 94 (6 * i + x)) b z f) Q i f (u 93 (6 * i + x)) (u 94 (6 * i + x)) (z f) else nsU u Q i (u 93 (6 * i + x)) (u 94 (6 * i + x)) b z f := rfl
          rw [es] at ih
          rw [hns 96 (by omega) (by omega), nI_1, nI_clamp (show f < 2 ^ 31 by omega), m1, m2]
          rcases (mf f hf).1 with ⟨z1, z2⟩ | ⟨z1, z2, z3, z4⟩
          · rw [hns 96 (by omega) (by omega)] at z1
            rw [if_neg (fun q => (hbt f).mp q z1)] at ih
            rw [show decide (u 96 (k + f) = 0) = true by simpa using z1]
            exact ⟨fun _ => ih g1 hl1 hp1 kk (by omega), fun q => absurd rfl q⟩
          · rw [hns 96 (by omega) (by omega)] at z1
            have hb1 : ¬ u 96 (k + f) = 0 := by rw [z1]; decide
            rw [if_pos ((hbt f).mpr hb1)] at ih
            rw [show decide (u 96 (k + f) = 0) = false by simpa using hb1, z3]
            rw [hns 97 (by omega) (by omega)] at z2 ⊢
            refine ⟨fun q => absurd q (by decide), fun _ => ⟨hA1.1, (vpi (by omega)).mpr hf, by omega, ?_⟩⟩
            have ezf : z f = u 97 (k + f) := by rw [hz]
            rw [ezf] at ih
            exact (nack_p hl1 hi hf z2).2 X _ fun g' hl' hp' => ih g' hl' (hp1.tr hp') (kk - 1) (by omega)
      exact key 0 (Nat.zero_le _) g h ePr.rf 5 (by omega)
  · obtain ⟨f0, hf0, hf1⟩ : ∃ f, f < 5 ∧ u 99 (k + f) = 1 := by
      apply Classical.byContradiction
      intro hn
      exact hall fun f hf q => hn ⟨f, hf, q⟩
    have eF : faU u Q i c x = u := by
      unfold faU
      rw [← hk, if_neg (fun q => alB_iff.mp q f0 hf0 hf1)]
    rw [eF]
    refine ⟨⟨g, h, pkS.rf⟩, fun Z hZ => mt_Mod_failIfDone ?_, fun X Z hZ => t_Net_failIfAllNacked ⟨ε x, rfl, c_Entry_allNacked hA hnf ⟨fun q => absurd hf1 (q f0 hf0), fun f hf q _ => ⟨fun q => absurd rfl q, fun _ => hZ g h pkS.rf⟩⟩⟩⟩
    have k2 : ∀ f, f ≤ 5 → f ≤ f0 → mWP M_Mod_failIfDone 2 [qr 1 (some 0), qi (nI i), qi (nI (6 * i + x)), qi (nI f), none, none, none] [] u (mV Z) := by
      refine dn 5 (fun q => by omega) ?_
      intro f hf ih hff
      refine mb_Mod_failIfDone_2 ⟨fun q => ?_, fun _ => ?_⟩
      · rw [nl_5, nI_leI (by omega) (by omega)] at q; omega
      rw [e5k, hck f hf, nI_1]
      refine ⟨hvk f hf, fun q => ih ?_, fun _ => hZ⟩
      by_cases e : f = f0
      · rw [e] at q; exact absurd hf1 q
      · omega
    exact k2 0 (Nat.zero_le _) (Nat.zero_le _)
