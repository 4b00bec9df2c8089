theorem pkS_put {g : sg} {e p : Nat} : pkS g (putG g e p) := ⟨by rw [putG_C]; exact Nat.le_refl _, fun f q k hf _ => by rw [putG_I (by omega)]⟩
theorem n4F {F : Nat} (h : F < 4) : ¬ (4 : Int32) ≤ nI F := nI_ge (b := 4) h (by decide)
theorem bst_fr {u : MS} {i R k : Nat} {x : Int32} : ∀ f b, bst u i R k x f = some b → frF u i k b = true
  | 0, b, h => by cases h
  | f + 1, b, h => by
    have es : bst u i R k x (f + 1) = bS (frF u i k f) (fun f => prF u i x f R) f (bst u i R k x f) := rfl
    rw [es] at h
    cases hb : bst u i R k x f with
    | none =>
      rw [hb] at h
      unfold bS at h
      dsimp only at h
      split at h
      · cases h; rename_i hh; exact hh.1
      · cases h
    | some b' =>
      rw [hb] at h
      unfold bS at h
      dsimp only at h
      split at h
      · cases h; rename_i hh; exact hh.1
      · cases h
        exact bst_fr f b hb
theorem nxF_fr {u : MS} {i R k n b : Nat} (h : nxF u i R k n = some b) : frF u i k b = true := by
  unfold nxF at h
  split at h
  · cases h
  · exact bst_fr 5 b h
def ptU (u : MS) (Q i c j : Nat) (z : Int32) : Option Nat → MS
  | none => faU u Q i c j
  | some F => if u 95 (6 * i + j) = 0 then faU u Q i c j else putU (erU u (5 * (6 * i + j)) F z) (4 * i + F) 0 (u 93 (6 * i + j)) (u 94 (6 * i + j)) z (u 95 (6 * i + j) - 1)
theorem po_end {i nm fl s : Nat} {u : MS} {z l6 : Int32} {Z : MS → Prop} (h : Z u) : mWP M_Mod_passOn 10 [qr 1 (some 0), qi (nI i), qi (nI nm), qi (nI fl), qi z, none, qi l6, qi 0, qi (nI s + 1), none, none, none] [] u (mV Z) := mb_Mod_passOn_10 ⟨fun _ => h, fun _ => ⟨fun _ => h, fun q => absurd rfl q⟩⟩
theorem po_head {S P N R Q i c j nm fl s : Nat} {ε : Nat → Nat} {g : sg} {u : MS} {z : Int32} {Z : MS → Prop} (h : rl9 S P N R Q g u) (hi : i < 5) (hen : rEn N P i c ε g u) (hj : j < c) (hnm : nm < N) (n4 : u 93 (6 * i + j) = nI nm) (n5 : u 94 (6 * i + j) = nI fl) (hs : s < 6)
    (hZ : (optI (nxF u i R (5 * (6 * i + j)) nm) < 0 → mMT M_Mod_failIfDone [qr 1 (some 0), qi (nI i), qi (nI (6 * i + j))] u (mV fun u3 => mWP M_Mod_passOn 10 [qr 1 (some 0), qi (nI i), qi (nI nm), qi (nI fl), qi z, none, qi (u 95 (6 * i + j)), qi 0, qi (nI s + 1), none, none, none] [] u3 (mV Z))) ∧
      (∀ F, nxF u i R (5 * (6 * i + j)) nm = some F → (F = 4 → mMT M_Mod_producer [qr 1 (some 0), qi (nI i), qi (nI nm), qi (nI fl)] (erU u (5 * (6 * i + j)) 4 z) (mI fun r3 u6 => mWP M_Mod_passOn 113 [qr 1 (some 0), qi (nI i), qi (nI nm), qi (nI fl), qi z, none, qi (u 95 (6 * i + j)), qi 0, qi (nI s), qi (nI (6 * i + j)), qi (nI 4), none] [qi r3] u6 (mV Z))) ∧
        (F < 4 → (¬ u 95 (6 * i + j) = 0 → mWP M_Mod_passOn 113 [qr 1 (some 0), qi (nI i), qi (nI nm), qi (nI fl), qi z, none, qi (u 95 (6 * i + j)), qi 0, qi (nI s), qi (nI (6 * i + j)), qi (nI F), none] [qi (-1)] (erU u (5 * (6 * i + j)) F z) (mV Z)) ∧
          (u 95 (6 * i + j) = 0 → mMT M_Mod_failIfDone [qr 1 (some 0), qi (nI i), qi (nI (6 * i + j))] u (mV fun u10 => mWP M_Mod_passOn 10 [qr 1 (some 0), qi (nI i), qi (nI nm), qi (nI fl), qi z, none, qi (u 95 (6 * i + j)), qi 0, qi (nI s + 1), none, none, none] [] u10 (mV Z)))))) :
    mWP M_Mod_passOn 10 [qr 1 (some 0), qi (nI i), qi (nI nm), qi (nI fl), qi z, none, qi (u 95 (6 * i + j)), qi 1, qi (nI s), none, none, none] [] u (mV Z) := by
  have hP6 := h.2.2.2.2.2.2.2.1.2.1
  have hrN := h.2.2.1
  have hN := hrN.2.1
  have hG := h.2.2.2.2.1
  obtain ⟨e1, e2, e3, e4, e5, e6, e7⟩ := hen
  refine mb_Mod_passOn_10 ⟨fun q => ?_, fun _ => ⟨fun q => absurd q (by decide), fun _ => c_Mod_entry hi (by omega) e3 ⟨fun j' hj' q1 q2 => ?_, fun hno => absurd ⟨n4, n5⟩ (hno j hj)⟩⟩⟩
  · rw [nl_6, nI_leI (by omega) (by omega)] at q; omega
  have : j' = j := e7 j' j hj' hj (by rw [q1, n4]) (by rw [q2, n5])
  subst this
  refine c_Mod_next hrN.nm hN hi hG.1 hG.2.1 h.2.2.2.2.2.1.okC (by omega) n4 hnm ?_
  have e5k : ∀ f, (5 : Int32) * nI (6 * i + j') + nI f = nI (5 * (6 * i + j') + f) := fun f => by rw [nl_5, pk_mul, nI_add]
  cases hr : nxF u i R (5 * (6 * i + j')) nm with
  | none =>
    rw [hr] at hZ
    exact ⟨fun q => hZ.1 q, fun q => absurd (by decide) q⟩
  | some F =>
    have hF := nxF_b hr
    obtain ⟨k1, k2⟩ := hZ.2 F hr
    show _ ∧ _
    have eo : optI (some F) = nI F := rfl
    rw [eo]
    rw [e5k, nI_clamp (show 5 * (6 * i + j') + F < 2 ^ 31 by omega)]
    have hvk : vp_in (nI (5 * (6 * i + j') + F)) 150 := (vpi (by omega)).mpr (by omega)
    refine ⟨fun q => absurd q (nI_pos (by omega)), fun _ => ⟨fun q => ⟨hvk, fun u4 h4 u5 h5 => ⟨fun q2 => ?_, fun q2 => ?_⟩⟩, fun q => ⟨fun q2 => ⟨hvk, fun u7 h7 u8 h8 => ⟨fun q3 => ?_, fun q3 => ?_⟩⟩, fun q2 => ?_⟩⟩⟩
    · rw [nl_4, nI_leI (by omega) (by omega)] at q
      rw [nl_4, nI_eq (by omega) (by omega)] at q2
      omega
    · rw [nl_4, nI_eq (by omega) (by omega)] at q2
      subst q2
      rw [h5, h4]
      exact k1 rfl
    · rw [nl_4, nI_leI (by omega) (by omega)] at q
      rw [h8, h7]
      exact (k2 (by omega)).1 q2
    · rw [nl_4, nI_leI (by omega) (by omega)] at q
      rw [nl_4, nI_eq (by omega) (by omega)] at q3
      omega
    · rw [nl_4, nI_leI (by omega) (by omega)] at q
      exact (k2 (by omega)).2 q2
theorem pt_p {S P N R Q i c j nm fl : Nat} {ε : Nat → Nat} {g : sg} {u : MS} {z : Int32} (h : rl9 S P N R Q g u) (hi : i < 5) (hen : rEn N P i (c + 1) ε g u) (hj : j ≤ c) (hz : ∃ q, q < 120 ∧ z = nI (1000 + q)) (hnm : nm < N) (hfl : fl < 4) (n4 : u 93 (6 * i + j) = nI nm) (n5 : u 94 (6 * i + j) = nI fl) (h4 : ∀ F, nxF u i R (5 * (6 * i + j)) nm = some F → F < 4) :
    (∃ g0, rl9 S P N R Q g0 (ptU u Q i c j z (nxF u i R (5 * (6 * i + j)) nm)) ∧ pkS g g0) ∧ (∀ (Z : MS → Prop) (s : Nat), s < 6 → Z (ptU u Q i c j z (nxF u i R (5 * (6 * i + j)) nm)) → mWP M_Mod_passOn 10 [qr 1 (some 0), qi (nI i), qi (nI nm), qi (nI fl), qi z, none, qi (u 95 (6 * i + j)), qi 1, qi (nI s), none, none, none] [] u (mV Z)) ∧ ∀ (X : Nat × (Nat → Int32)) (kk : Nat) (Z : sg → Prop), 5 ≤ kk → (∀ g', rl9 S P N R Q g' (ptU u Q i c j z (nxF u i R (5 * (6 * i + j)) nm)) → pkS g g' → Z g') → nnWP X M_Net_passOn kk 61 [qr 0 (some 0), qr 6 (some i), qr 2 (some (ε j)), qi z, qi (optI (nxF u i R (5 * (6 * i + j)) nm)), none] [] g (zV Z) := by
  have hP6 := h.2.2.2.2.2.2.2.1.2.1
  obtain ⟨f1, f2, f3⟩ := fail_p h hi hen hj
  have hen0 := hen
  obtain ⟨e1, e2, e3, e4, e5, e6, e7⟩ := hen
  obtain ⟨n1, n2, n3, -, -, ⟨hp, hhp, n6⟩, nf⟩ := e6 j (by omega)
  have hA := h.1.en hi (e4 j (by omega)).2.1 (e4 j (by omega)).2.2
  cases hr : nxF u i R (5 * (6 * i + j)) nm with
  | none =>
    have eP : ptU u Q i c j z none = faU u Q i c j := rfl
    rw [eP]
    refine ⟨f1, fun Z s hs hZ => po_head h hi hen0 (by omega) hnm n4 n5 hs ⟨fun _ => f2 _ (po_end hZ), fun F hF => by rw [hr] at hF; cases hF⟩, fun X kk Z hk hZ => b_Net_passOn_61 ⟨fun _ => ⟨hk, f3 X _ fun g' a b _ => hZ g' a b⟩, fun q => absurd (by decide) q⟩⟩
  | some F =>
    have hF := h4 F hr
    have eP : ptU u Q i c j z (some F) = if u 95 (6 * i + j) = 0 then faU u Q i c j else putU (erU u (5 * (6 * i + j)) F z) (4 * i + F) 0 (u 93 (6 * i + j)) (u 94 (6 * i + j)) z (u 95 (6 * i + j) - 1) := rfl
    rw [eP]
    have eo : optI (some F) = nI F := rfl
    by_cases h95 : u 95 (6 * i + j) = 0
    · rw [if_pos h95]
      refine ⟨f1, fun Z s hs hZ => po_head h hi hen0 (by omega) hnm n4 n5 hs ⟨fun _ => f2 _ (po_end hZ), fun F' hF' => ⟨fun q => ?_, fun _ => ⟨fun q => absurd h95 q, fun _ => f2 _ (po_end hZ)⟩⟩⟩, fun X kk Z hk hZ => b_Net_passOn_61 ?_⟩
      · rw [hr] at hF'; cases hF'; omega
      · rw [eo]
        refine ⟨fun q => absurd q (nI_pos (by omega)), fun _ => ⟨fun q => absurd q (n4F hF), fun _ => ⟨ε j, rfl, fun q => ?_, fun _ => ⟨hk, f3 X _ fun g' a b _ => hZ g' a b⟩⟩⟩⟩
        rw [n3, h95] at q
        exact absurd q (by decide)
    · rw [if_neg h95]
      obtain ⟨r1, r2, r3⟩ := er_p h hi hen0 (show j < c + 1 by omega) (show F < 5 by omega) hz
      have hhp0 : hp ≠ 0 := fun e => h95 (by rw [n6, e]; rfl)
      obtain ⟨hp', rfl⟩ : ∃ hp', hp = hp' + 1 := ⟨hp - 1, by omega⟩
      have ehp : u 95 (6 * i + j) - 1 = nI hp' := by rw [n6, nI_sub1]
      have hpk : ∀ g2 : sg, agP (erG g (ε j) F z) g2 → gI g2 448 (gC (erG g (ε j) F z) 7) 0 = 0 → gI g2 449 (gC (erG g (ε j) F z) 7) 0 = nI nm → gI g2 450 (gC (erG g (ε j) F z) 7) 0 = nI fl → gI g2 451 (gC (erG g (ε j) F z) 7) 0 = z → gI g2 452 (gC (erG g (ε j) F z) 7) 0 = nI hp' → pkv N R g2 (erU u (5 * (6 * i + j)) F z) (gC (erG g (ε j) F z) 7) 0 (u 93 (6 * i + j)) (u 94 (6 * i + j)) z (u 95 (6 * i + j) - 1) := by
        intro g2 ha q1 q2 q3 q4 q5
        rw [n4, n5, ehp]
        exact ⟨by rw [ha.2.1]; omega, q1, Or.inl ⟨rfl, q2, q3, q4, q5, ⟨nm, hnm, rfl⟩, ⟨fl, hfl, rfl⟩, hz, hp', by omega, rfl⟩⟩
      refine ⟨?_, fun Z s hs hZ => po_head h hi hen0 (by omega) hnm n4 n5 hs ⟨fun q => ?_, fun F' hF' => ?_⟩, fun X kk Z hk hZ => b_Net_passOn_61 ?_⟩
      · obtain ⟨g2, hg2⟩ : ∃ g2, g2 = pI (pI (pI (pI (pI (pN (erG g (ε j) F z) 7) 448 (gC (erG g (ε j) F z) 7) 0 0) 449 (gC (erG g (ε j) F z) 7) 0 (nI nm)) 450 (gC (erG g (ε j) F z) 7) 0 (nI fl)) 451 (gC (erG g (ε j) F z) 7) 0 z) 452 (gC (erG g (ε j) F z) 7) 0 (nI hp') := ⟨_, rfl⟩
        have ha : agP (erG g (ε j) F z) g2 := by
          rw [hg2]
          exact agP_pI (agP_pI (agP_pI (agP_pI (agP_pI (agP_new _) (by decide) _ _) (by decide) _ _) (by decide) _ _) (by decide) _ _) (by decide) _ _
        have hp := hpk g2 ha (by rw [hg2]; simp [gI_pI]) (by rw [hg2]; simp [gI_pI]) (by rw [hg2]; simp [gI_pI]) (by rw [hg2]; simp [gI_pI]) (by rw [hg2]; simp [gI_pI])
        exact ⟨_, rl_put (rl_agP r1 ha) (by omega) hp, r3.tr (ha.pkS.tr pkS_put)⟩
      · rw [hr] at q
        exact absurd q (nI_pos (by omega))
      · rw [hr] at hF'
        cases hF'
        refine ⟨fun q => by omega, fun _ => ⟨fun _ => mb_Mod_passOn_113 ⟨fun q => absurd q (n4F hF), fun _ => ?_⟩, fun q => absurd q h95⟩⟩
        rw [nl_4, pk_mul, nI_add]
        obtain ⟨w, w1, w2⟩ := r1.hw8 (4 * i + F) (by omega)
        rw [n4, n5] at hZ
        exact c_Mod_put (by omega) w1 w2 (po_end hZ)
      · rw [eo]
        obtain ⟨m1, m2, m3, -⟩ := r2.2.2.2.2.2.1 j (by omega)
        refine ⟨fun q => absurd q (nI_pos (by omega)), fun _ => ⟨fun q => absurd q (n4F hF), fun _ => ⟨ε j, rfl, fun _ => ?_, fun q => ?_⟩⟩⟩
        · refine c_Entry_putErrand hA (by omega) fun _ => ⟨i, rfl, (h.1.2.2.1 i hi).1, (vpi (by omega)).mpr (by omega), by omega, ?_⟩
          have b1 : gI (erG g (ε j) F z) 128 (ε j) 0 = nI nm := m1.trans n4
          have b2' : gI (erG g (ε j) F z) 129 (ε j) 0 = nI fl := m2.trans n5
          have b3 : gI (erG g (ε j) F z) 130 (ε j) 0 = nI (hp' + 1) := m3.trans n6
          rw [b1, b2', b3, nI_sub1]
          refine c_Packet_interest (Nat.le_refl _) fun g2 ha q1 q2 q3 q4 q5 _ => ⟨4 * i + F, by rw [nI_clamp (by omega)]; exact h.1.1.2.2.1 i F hi hF, ?_⟩
          have hl2 := rl_agP r1 ha
          obtain ⟨w, w1, w2, w3⟩ := hl2.w (e := 4 * i + F) (by omega)
          exact c_Face_put w1 (hl2.1.2.2.2.1 _ (by omega)) w2 fun _ => hZ _ (rl_put hl2 (by omega) (hpk g2 ha q1 q2 q3 q4 q5)) (r3.tr (ha.pkS.tr pkS_put))
        · rw [n3, n6] at q
          exact absurd (nI_lt (show 0 < hp' + 1 by omega) (by omega)) q
