def PairI (kb : Nat) (Mc Mm : mrec) (as : List qv) (g : sg) (u : MS) : Prop := ∃ (r : Int32) (v : MS), (∀ Z : Int32 → MS → Prop, Z r v → mMT Mm (qr 1 (some 0) :: as) u (mI Z)) ∧ ∀ (X : Nat × (Nat → Int32)) (Z : Int32 → sg → Prop), (∀ g', RL g' v → Z r g') → nnMT X Mc kb (qr 0 (some 0) :: as) g (zI Z)
theorem law_c {X : Nat × (Nat → Int32)} {kb : Nat} {Mc Mm : mrec} {as : List qv} {g : sg} (hp : PairI kb Mc Mm as g (absM g)) (hs : shM g) (post : Int32 → sg → Prop)
    (hpost : ∀ r g1, (∀ (cont Z : sg → Prop), (∀ g2, RL g2 (absM g2) → shM g2 → cont g2) → nnMT X Mm 0 (qr 1 (some 0) :: as) g1 (zI fun r2 g2 => gExt g1 g2 → nnAG 1 g1 g2 → (r = r2 → cont g2) ∧ (¬ r = r2 → Z g2))) → post r g1) :
    nnMT X Mc kb (qr 0 (some 0) :: as) g (zI fun r1 g1 => gExt g g1 → nnAG 0 g g1 → post r1 g1) := by
  obtain ⟨r, v, hm, hc⟩ := hp
  refine hc X _ (fun g1 hr hx hag => hpost r g1 (fun cont Z hk => ?_))
  have h2 := hm (fun x μ => x = r ∧ μ = v) ⟨rfl, rfl⟩
  rw [← absM_ag hag] at h2
  refine mt_mono (mMT.nn h2 (hs.ext hx)) ?_
  rintro _ g2 ⟨hs2, x, rfl, rfl, hμ⟩
  refine ⟨x, rfl, fun hx2 hag2 => ⟨fun _ => hk g2 ?_ hs2, fun hne => absurd rfl hne⟩⟩
  rw [hμ]
  exact hr.ag hag2
/-- what is owed of the calls -/
def prs : Prop :=
  (∀ g u x, RL g u → okI 1 x → PairI 0 M_Net_write M_Mod_write [qi x] g u) ∧
  (∀ g u, RL g u → PairI 0 M_Net_name M_Mod_name [] g u) ∧
  (∀ g u x, RL g u → PairI 0 M_Net_parent M_Mod_parent [qi x] g u) ∧
  (∀ g u x y z w, RL g u → PairI 0 M_Net_link M_Mod_link [qi x, qi y, qi z, qi w] g u) ∧
  (∀ g u x y z, RL g u → z = 0 ∨ z = 1 → PairI 0 M_Net_turn M_Mod_turn [qi x, qi y, qi z] g u) ∧
  (∀ g u x y z, RL g u → z = 0 ∨ z = 1 → PairI 3 M_Net_announce M_Mod_announce [qi x, qi y, qi z] g u) ∧
  (∀ g u x y z w, RL g u → PairI 1 M_Net_publish M_Mod_publish [qi x, qi y, qi z, qi w] g u) ∧
  (∀ g u x y z w, RL g u → PairI 7 M_Net_ask M_Mod_ask [qi x, qi y, qi z, qi w] g u) ∧
  (∀ g u x y, RL g u → PairI 5 M_Net_carry M_Mod_carry [qi x, qi y] g u) ∧
  (∀ g u x y z, RL g u → z = 0 ∨ z = 1 → PairI 0 M_Net_alter M_Mod_alter [qi x, qi y, qi z] g u) ∧
  (∀ g u, RL g u → PairI 0 M_Net_tick M_Mod_tick [] g u) ∧
  (∀ g u x y z w, RL g u → PairI 0 M_Net_fetch M_Mod_fetch [qi x, qi y, qi z, qi w] g u) ∧
  (∀ g u x, RL g u → PairI 70 M_Net_pump M_Mod_pump [qi x] g u) ∧
  (∀ g u x y, RL g u → PairI 0 M_Net_fetched M_Mod_fetched [qi x, qi y] g u) ∧
  (∀ g u x y z, RL g u → PairI 0 M_Net_cost M_Mod_cost [qi x, qi y, qi z] g u) ∧
  (∀ g u x y, RL g u → PairI 0 M_Net_waiting M_Mod_waiting [qi x, qi y] g u) ∧
  (∀ g u x y, RL g u → PairI 0 M_Net_stored M_Mod_stored [qi x, qi y] g u) ∧
  (∀ g u x y, RL g u → PairI 0 M_Net_request M_Mod_request [qi x, qi y] g u)
theorem law_loop (hp : prs) {X : Nat × (Nat → Int32)} (hX : X.1 ≤ 2563) : ∀ d i g k, X.1 + 5 ≤ i + d → i ≤ X.1 + 5 → 14 * (X.1 + 5 - i) ≤ k → RL g (absM g) → shM g →
    nnWP X M_Law_law k 48 [qa 4095 0, qr 0 (some 0), qr 1 (some 0), qi (nI i)] [] g (zI fun x _ => x = 1) := by
  obtain ⟨p0, p1, p2, p3, p4, p5, p6, p7, p8, p9, p10, p11, p12, p13, p14, p15, p16, p17⟩ := hp
  intro d
  induction d with
  | zero =>
    intro i g k h1 h2 h3 hr hs
    refine b_Law_law_48 ⟨fun _ => rfl, fun hc => absurd ?_ hc⟩
    rw [Int32.lt_iff_toInt_lt, show (5 : Int32) = nI 5 from rfl, pk_sub_toInt (by omega) (by omega), nI_toInt (by omega)]
    omega
  | succ d ih =>
    intro i g k h1 h2 h3 hr hs
    refine b_Law_law_48 ⟨fun _ => rfl, fun hc => ?_⟩
    have hi : i + 5 ≤ X.1 := by
      rw [Int32.lt_iff_toInt_lt, show (5 : Int32) = nI 5 from rfl, pk_sub_toInt (by omega) (by omega), nI_toInt (by omega)] at hc
      omega
    have v0 : vp_in (nI i) X.1 := (vpi (by omega)).mpr (by omega)
    have v1 : vp_in (nI i + 1) X.1 := by rw [show (1 : Int32) = nI 1 from rfl, nI_add]; exact (vpi (by omega)).mpr (by omega)
    have v2 : vp_in (nI i + 2) X.1 := by rw [show (2 : Int32) = nI 2 from rfl, nI_add]; exact (vpi (by omega)).mpr (by omega)
    have v3 : vp_in (nI i + 3) X.1 := by rw [show (3 : Int32) = nI 3 from rfl, nI_add]; exact (vpi (by omega)).mpr (by omega)
    have v4 : vp_in (nI i + 4) X.1 := by rw [show (4 : Int32) = nI 4 from rfl, nI_add]; exact (vpi (by omega)).mpr (by omega)
    have go : ∀ k', k ≤ k' + 70 → ∀ g2, RL g2 (absM g2) → shM g2 → nnWP X M_Law_law k' 48 [qa 4095 0, qr 0 (some 0), qr 1 (some 0), qi (nI i + 5)] [] g2 (zI fun x _ => x = 1) := by
      intro k' hk' g2 hr2 hs2
      rw [show (5 : Int32) = nI 5 from rfl, nI_add]
      exact ih (i + 5) g2 k' (by omega) (by omega) (by omega) hr2 hs2
    refine ⟨v0, fun _ => ⟨v1, 0, rfl, law_c (p0 g _ _ hr (okI_c _)) hs _ fun r g1 H => ⟨0, rfl, H _ _ (go k (by omega))⟩⟩,
      fun _ => ⟨0, rfl, law_c (p1 g _ hr) hs _ fun r g1 H => ⟨0, rfl, H _ _ (go k (by omega))⟩⟩,
      fun _ => ⟨v1, 0, rfl, law_c (p2 g _ _ hr) hs _ fun r g1 H => ⟨0, rfl, H _ _ (go k (by omega))⟩⟩,
      fun _ => ⟨v1, v2, v3, v4, 0, rfl, law_c (p3 g _ _ _ _ _ hr) hs _ fun r g1 H => ⟨0, rfl, H _ _ (go k (by omega))⟩⟩,
      fun _ => ⟨v1, v2, v3, fun e => ⟨0, rfl, law_c (p4 g _ _ _ _ hr (Or.inl rfl)) hs _ fun r g1 H => ⟨fun _ => ⟨0, rfl, H _ _ (go k (by omega))⟩, fun e' => absurd e e'⟩⟩, fun e => ⟨0, rfl, law_c (p4 g _ _ _ _ hr (Or.inr rfl)) hs _ fun r g1 H => ⟨fun e' => absurd e' e, fun _ => ⟨0, rfl, H _ _ (go k (by omega))⟩⟩⟩⟩,
      fun _ => ⟨v1, v2, v3, fun e => ⟨by omega, 0, rfl, law_c (p5 g _ _ _ _ hr (Or.inl rfl)) hs _ fun r g1 H => ⟨fun _ => ⟨0, rfl, H _ _ (go (k - 3) (by omega))⟩, fun e' => absurd e e'⟩⟩, fun e => ⟨by omega, 0, rfl, law_c (p5 g _ _ _ _ hr (Or.inr rfl)) hs _ fun r g1 H => ⟨fun e' => absurd e' e, fun _ => ⟨0, rfl, H _ _ (go (k - 3) (by omega))⟩⟩⟩⟩,
      fun _ => ⟨v1, v2, v3, v4, by omega, 0, rfl, law_c (p6 g _ _ _ _ _ hr) hs _ fun r g1 H => ⟨0, rfl, H _ _ (go (k - 1) (by omega))⟩⟩,
      fun _ => ⟨v1, v2, v3, v4, by omega, 0, rfl, law_c (p7 g _ _ _ _ _ hr) hs _ fun r g1 H => ⟨0, rfl, H _ _ (go (k - 7) (by omega))⟩⟩,
      fun _ => ⟨v1, v2, by omega, 0, rfl, law_c (p8 g _ _ _ hr) hs _ fun r g1 H => ⟨0, rfl, H _ _ (go (k - 5) (by omega))⟩⟩,
      fun _ => ⟨v1, v2, v3, fun e => ⟨0, rfl, law_c (p9 g _ _ _ _ hr (Or.inl rfl)) hs _ fun r g1 H => ⟨fun _ => ⟨0, rfl, H _ _ (go k (by omega))⟩, fun e' => absurd e e'⟩⟩, fun e => ⟨0, rfl, law_c (p9 g _ _ _ _ hr (Or.inr rfl)) hs _ fun r g1 H => ⟨fun e' => absurd e' e, fun _ => ⟨0, rfl, H _ _ (go k (by omega))⟩⟩⟩⟩,
      fun _ => ⟨0, rfl, law_c (p10 g _ hr) hs _ fun r g1 H => ⟨0, rfl, H _ _ (go k (by omega))⟩⟩,
      fun _ => ⟨v1, v2, v3, v4, 0, rfl, law_c (p11 g _ _ _ _ _ hr) hs _ fun r g1 H => ⟨0, rfl, H _ _ (go k (by omega))⟩⟩,
      fun _ => ⟨v1, by omega, 0, rfl, law_c (p12 g _ _ hr) hs _ fun r g1 H => ⟨0, rfl, H _ _ (go (k - 70) (by omega))⟩⟩,
      fun _ => ⟨v1, v2, 0, rfl, law_c (p13 g _ _ _ hr) hs _ fun r g1 H => ⟨0, rfl, H _ _ (go k (by omega))⟩⟩,
      fun _ => ⟨v1, v2, v3, 0, rfl, law_c (p14 g _ _ _ _ hr) hs _ fun r g1 H => ⟨0, rfl, H _ _ (go k (by omega))⟩⟩,
      fun _ => ⟨v1, v2, 0, rfl, law_c (p15 g _ _ _ hr) hs _ fun r g1 H => ⟨0, rfl, H _ _ (go k (by omega))⟩⟩,
      fun _ => ⟨v1, v2, 0, rfl, law_c (p16 g _ _ _ hr) hs _ fun r g1 H => ⟨0, rfl, H _ _ (go k (by omega))⟩⟩,
      fun _ => ⟨v1, v2, 0, rfl, law_c (p17 g _ _ _ hr) hs _ fun r g1 H => ⟨0, rfl, H _ _ (go k (by omega))⟩⟩,
      fun _ => go k (by omega) g hr hs⟩
