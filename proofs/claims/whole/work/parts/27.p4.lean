def lfO (x y : Int32) : Option Nat := if (inN x 5 && inN y 4) = true then some (4 * x.toNatClampNeg + y.toNatClampNeg) else none
theorem c_Net_linkFace {X : Nat × (Nat → Int32)} {k S P : Nat} {g : sg} {x y : Int32} {Z : Option Nat → sg → Prop} (hsh : shC S P g) (h : Z (lfO x y) g) : nnMT X M_Net_linkFace k [qr 0 (some 0), qi x, qi y] g (zR 3 Z) := by
  refine t_Net_linkFace (c_Net_isNode fun _ => ⟨fun c => ?_, fun c => ⟨fun c1 => ?_, fun c1 => ⟨fun c2 => ?_, fun c2 => ?_⟩⟩⟩)
  · have : inN x 5 = false := by
      cases hh : inN x 5 with
      | false => rfl
      | true => rw [hh] at c; cases c
    simpa [lfO, this] using h
  · simpa [lfO, inN, c1] using h
  · have c2 : nI 4 ≤ y := c2
    simpa [lfO, inN, c2] using h
  · have c2 : ¬ nI 4 ≤ y := c2
    have hx : inN x 5 = true := by
      cases hh : inN x 5 with
      | true => rfl
      | false => rw [hh] at c; exact absurd rfl c
    obtain ⟨i, hi, rfl⟩ := inN_of (by decide) hx
    obtain ⟨f, hf, rfl⟩ := ins5 c1 c2 (by decide)
    have hy : inN (nI f) 4 = true := inN_nI hf (by decide)
    refine ⟨hsh.2.1.2.2.1, (vpi (by omega)).mpr hi, i, by rw [nI_clamp (by omega)]; exact hsh.1.2.1 i hi, (hsh.2.2.1 i hi).1, (vpi (by omega)).mpr hf, ?_⟩
    rw [nI_clamp (by omega), hsh.1.2.2.1 i f hi hf]
    simpa [lfO, hx, hy, nI_clamp (show i < 2 ^ 31 by omega), nI_clamp (show f < 2 ^ 31 by omega)] using h
theorem lfO_no {x y : Int32} (h : (inN x 5 && inN y 4) = false) : lfO x y = none := by unfold lfO; rw [h]; rfl
theorem lfO_at {i f : Nat} (hi : i < 5) (hf : f < 4) : lfO (nI i) (nI f) = some (4 * i + f) := by
  unfold lfO
  rw [inN_nI hi (by decide), inN_nI hf (by decide), nI_clamp (by omega), nI_clamp (by omega)]
  rfl
theorem wire_of {x y : Int32} (h : (inN x 5 && inN y 4) = true) : ∃ i f, i < 5 ∧ f < 4 ∧ x = nI i ∧ y = nI f := by
  rw [Bool.and_eq_true] at h
  obtain ⟨i, hi, rfl⟩ := inN_of (by decide) h.1
  obtain ⟨f, hf, rfl⟩ := inN_of (by decide) h.2
  exact ⟨i, f, hi, hf, rfl, rfl⟩
theorem e4 (i f : Nat) : (4 : Int32) * nI i + nI f = nI (4 * i + f) := by rw [nl_4, pk_mul, nI_add]
theorem c_Face_isLinked {X : Nat × (Nat → Int32)} {k e : Nat} {g : sg} {Z : Int32 → sg → Prop} (h : Z (b2 (decide (¬ gI g 192 e 0 = -1))) g) : nnMT X M_Face_isLinked k [qr 3 (some e)] g (zI Z) := by
  refine t_Face_isLinked ⟨fun c => ?_, fun c => ?_⟩
  · simpa [b2, c] using h
  · simpa [b2, c] using h
theorem nI_le0 {n : Nat} (h : n < 2 ^ 31) : nI n ≤ 0 ↔ n = 0 := by
  rw [nl_0, nI_leI h (by decide)]; omega
theorem pair_link (g : sg) (u : MS) (x y z w : Int32) (hr : RL g u) : PairI 0 M_Net_link M_Mod_link [qi x, qi y, qi z, qi w] g u := by
  have hr0 := hr
  obtain ⟨S, P, N, R, Q, hsh, hT, hN, hW, h⟩ := hr
  have hlf : ∀ (X : Nat × (Nat → Int32)) (Z : Int32 → sg → Prop), ((lfO x y = none → Z 0 g) ∧ ∀ a1, lfO x y = some a1 → (lfO z w = none → Z 0 g) ∧ ∀ a2, lfO z w = some a2 → (x = z → Z 0 g) ∧ (¬ x = z → (¬ gI g 192 a1 0 = -1 → Z 0 g) ∧ (gI g 192 a1 0 = -1 → (gI g 192 a2 0 = -1 → Z 1 (pI (pI (pI (pI (pI (pI g 192 a1 0 z) 193 a1 0 w) 194 a1 0 1) 192 a2 0 x) 193 a2 0 y) 194 a2 0 1)) ∧ (¬ gI g 192 a2 0 = -1 → Z 0 g)))) → nnMT X M_Net_link 0 [qr 0 (some 0), qi x, qi y, qi z, qi w] g (zI Z) := by
    intro X Z hh
    refine t_Net_link (c_Net_linkFace hsh fun _ => c_Net_linkFace hsh fun _ => ⟨hh.1, fun a1 h1 => ⟨(hh.2 a1 h1).1, fun a2 h2 => ⟨((hh.2 a1 h1).2 a2 h2).1, fun hne => ?_⟩⟩⟩)
    obtain ⟨k1, k2⟩ := ((hh.2 a1 h1).2 a2 h2).2 hne
    refine c_Face_isLinked fun _ => ⟨fun c => k1 (fun e => c (b2_f (by simp [e]))), fun c => ?_⟩
    have e1 : gI g 192 a1 0 = -1 := by
      by_cases e : gI g 192 a1 0 = -1
      · exact e
      · rw [b2_t (by simp [e])] at c; cases c
    refine c_Face_isLinked fun _ => ⟨fun c => ?_, fun c => (k2 e1).2 (fun e => c (b2_f (by simp [e])))⟩
    have e2 : gI g 192 a2 0 = -1 := by
      by_cases e : gI g 192 a2 0 = -1
      · exact e
      · rw [b2_t (by simp [e])] at c; cases c
    refine t_Face_join fun g1 hg1 g2 hg2 g3 hg3 _ => t_Face_join fun g4 hg4 g5 hg5 g6 hg6 _ => ?_
    subst hg1 hg2 hg3 hg4 hg5 hg6
    exact (k2 e1).1 e2
  cases hb1 : (inN x 5 && inN y 4) with
  | false => exact ⟨0, u, fun Z hz => mt_Mod_link (c_Mod_isWire ⟨fun _ => hz, fun c => absurd (b2_f hb1) c⟩), fun X Z hz => hlf X Z ⟨fun _ => hz g hr0, fun a h1 => by rw [lfO_no hb1] at h1; cases h1⟩⟩
  | true =>
    have n1 : ¬ b2 (inN x 5 && inN y 4) = 0 := by rw [b2_t hb1]; decide
    cases hb2 : (inN z 5 && inN w 4) with
    | false => exact ⟨0, u, fun Z hz => mt_Mod_link (c_Mod_isWire ⟨fun c => absurd c n1, fun _ => c_Mod_isWire ⟨fun _ => hz, fun c => absurd (b2_f hb2) c⟩⟩), fun X Z hz => hlf X Z ⟨fun _ => hz g hr0, fun a h1 => ⟨fun _ => hz g hr0, fun a2 h2 => by rw [lfO_no hb2] at h2; cases h2⟩⟩⟩
    | true =>
      have n2 : ¬ b2 (inN z 5 && inN w 4) = 0 := by rw [b2_t hb2]; decide
      obtain ⟨i, f, hi, hf, rfl, rfl⟩ := wire_of hb1
      obtain ⟨i', f', hi', hf', rfl, rfl⟩ := wire_of hb2
      by_cases c1 : nI i = nI i'
      · exact ⟨0, u, fun Z hz => mt_Mod_link (c_Mod_isWire ⟨fun c => absurd c n1, fun _ => c_Mod_isWire ⟨fun c => absurd c n2, fun _ => ⟨fun _ => hz, fun c => absurd c1 c⟩⟩⟩), fun X Z hz => hlf X Z ⟨fun _ => hz g hr0, fun a h1 => ⟨fun _ => hz g hr0, fun a2 h2 => ⟨fun _ => hz g hr0, fun c => absurd c1 c⟩⟩⟩⟩
      · have hii : i ≠ i' := fun e => c1 (by rw [e])
        have he : 4 * i + f ≠ 4 * i' + f' := by omega
        have v1 : vp_in (nI (4 * i + f)) 20 := (vpi (by omega)).mpr (by omega)
        have v2 : vp_in (nI (4 * i' + f')) 20 := (vpi (by omega)).mpr (by omega)
        have l1 : (nI (4 * i + f)).toNatClampNeg = 4 * i + f := nI_clamp (by omega)
        have l2 : (nI (4 * i' + f')).toNatClampNeg = 4 * i' + f' := nI_clamp (by omega)
        have hmod : ∀ (Z : Int32 → MS → Prop), ((0 < u 74 (4 * i + f) → Z 0 u) ∧ (¬ 0 < u 74 (4 * i + f) → (¬ u 74 (4 * i' + f') ≤ 0 → Z 0 u) ∧ (u 74 (4 * i' + f') ≤ 0 → Z 1 (mu (mu (mu (mu u 74 (4 * i + f) (nI (4 * i' + f' + 1))) 74 (4 * i' + f') (nI (4 * i + f + 1))) 75 (4 * i + f) 1) 75 (4 * i' + f') 1)))) → mMT M_Mod_link [qr 1 (some 0), qi (nI i), qi (nI f), qi (nI i'), qi (nI f')] u (mI Z) := by
          intro Z hh
          refine mt_Mod_link (c_Mod_isWire ⟨fun c => absurd c n1, fun _ => c_Mod_isWire ⟨fun c => absurd c n2, fun _ => ⟨fun c => absurd c c1, fun _ => ?_⟩⟩⟩)
          rw [e4, e4, l1, l2]
          refine ⟨v1, hh.1, fun c2 => ⟨v2, fun c3 => ?_, (hh.2 c2).1⟩⟩
          refine mb_Mod_link_51 ?_
          rw [e4, e4, l1, l2, nI_1, nI_1]
          refine ⟨v1, fun u1 hu1 => ⟨v2, fun u2 hu2 => mb_Mod_link_87 ?_⟩⟩
          rw [e4, e4, l1, l2]
          refine ⟨v1, fun u3 hu3 => ⟨v2, fun u4 hu4 => ?_⟩⟩
          subst hu1 hu2 hu3 hu4
          exact (hh.2 c2).2 c3
        obtain ⟨a0, a1, a2, wa, a3, a4, a5, a6, a7⟩ := hW (4 * i + f) (by omega)
        obtain ⟨b0, b1, b2', wb, b3, b4, b5, b6, b7⟩ := hW (4 * i' + f') (by omega)
        rcases a2 with ⟨a21, a22, a23, a24⟩ | ⟨bb, ff, hbb, hff, a21, a22, a23, -⟩
        · have p1 : ¬ (0 : Int32) < u 74 (4 * i + f) := by rw [a21]; decide
          rcases b2' with ⟨b21, b22, b23, b24⟩ | ⟨bb, ff, hbb, hff, b21, b22, b23, -⟩
          · refine ⟨1, _, fun Z hz => hmod Z ⟨fun c => absurd c p1, fun _ => ⟨fun c => absurd (by rw [b21]; decide) c, fun _ => hz⟩⟩, fun X Z hz => hlf X Z ⟨fun c => ?_, fun e1 h1 => ⟨fun c => ?_, fun e2 h2 => ⟨fun c => absurd c c1, fun _ => ⟨fun c => ?_, fun _ => ⟨fun _ => ?_, fun c => ?_⟩⟩⟩⟩⟩⟩
            · rw [lfO_at hi hf] at c; cases c
            · rw [lfO_at hi' hf'] at c; cases c
            · rw [lfO_at hi hf] at h1; cases h1; exact absurd a22 c
            · rw [lfO_at hi hf] at h1; cases h1
              rw [lfO_at hi' hf'] at h2; cases h2
              refine hz _ ⟨S, P, N, R, Q, hsh, hT, hN, ?_, h⟩
              intro e hhe
              obtain ⟨c0, c1', c2, wc, c3, c4, c5, c6, c7⟩ := hW e hhe
              have hwa : wa = 0 := by
                rcases Nat.eq_zero_or_pos wa with hh | hh
                · exact hh
                · have := a6 hh; rw [a24] at this; cases this
              have hwb : wb = 0 := by
                rcases Nat.eq_zero_or_pos wb with hh | hh
                · exact hh
                · have := b6 hh; rw [b24] at this; cases this
              by_cases q1 : e = 4 * i + f
              · subst q1
                refine ⟨?_, Or.inr ?_, Or.inr ⟨i', f', hi', hf', ?_, ?_, ?_, ?_⟩, wa, a3, a4, a5, fun hh => by omega, fun j hj => by omega⟩
                · simp [gI_pI, mu_at, he]
                · simp [mu_at, he]
                · simp [mu_at, he]
                · simp [gI_pI, he]
                · simp [gI_pI, he]
                · simp [mu_at]
              · by_cases q2 : e = 4 * i' + f'
                · subst q2
                  refine ⟨?_, Or.inr ?_, Or.inr ⟨i, f, hi, hf, ?_, ?_, ?_, ?_⟩, wb, b3, b4, b5, fun hh => by omega, fun j hj => by omega⟩
                  · simp [gI_pI, mu_at]
                  · simp [mu_at]
                  · simp [mu_at]
                  · simp [gI_pI]
                  · simp [gI_pI]
                  · simp [mu_at, he]
                · have r75 : mu (mu (mu (mu u 74 (4 * i + f) (nI (4 * i' + f' + 1))) 74 (4 * i' + f') (nI (4 * i + f + 1))) 75 (4 * i + f) 1) 75 (4 * i' + f') 1 75 e = u 75 e := by simp [mu_at, q1, q2]
                  have r74 : mu (mu (mu (mu u 74 (4 * i + f) (nI (4 * i' + f' + 1))) 74 (4 * i' + f') (nI (4 * i + f + 1))) 75 (4 * i + f) 1) 75 (4 * i' + f') 1 74 e = u 74 e := by simp [mu_at, q1, q2]
                  rw [r75, r74]
                  refine ⟨?_, c1', ?_, wc, c3, c4, c5, c6, c7⟩
                  · rw [← c0]; simp [gI_pI, q1, q2]
                  · rcases c2 with ⟨d1, d2, d3, d4⟩ | ⟨bb, ff, hbb, hff, d1, d2, d3, d4⟩
                    · refine Or.inl ⟨d1, ?_, ?_, d4⟩
                      · rw [← d2]; simp [gI_pI, q1, q2]
                      · rw [← d3]; simp [gI_pI, q1, q2]
                    · have z1 : ¬ 4 * bb + ff = 4 * i + f := fun z => by
                        rw [z, a21] at d4
                        exact nI_ne0 (by omega) (by omega) d4.symm
                      have z2 : ¬ 4 * bb + ff = 4 * i' + f' := fun z => by
                        rw [z, b21] at d4
                        exact nI_ne0 (by omega) (by omega) d4.symm
                      refine Or.inr ⟨bb, ff, hbb, hff, d1, ?_, ?_, ?_⟩
                      · rw [← d2]; simp [gI_pI, q1, q2]
                      · rw [← d3]; simp [gI_pI, q1, q2]
                      · rw [← d4]; simp [mu_at, z1, z2]
            · rw [lfO_at hi' hf'] at h2; cases h2; exact absurd b22 c
          · have p2 : ¬ u 74 (4 * i' + f') ≤ 0 := by rw [b21, nI_le0 (by omega)]; omega
            refine ⟨0, u, fun Z hz => hmod Z ⟨fun _ => hz, fun _ => ⟨fun _ => hz, fun c => absurd c p2⟩⟩, fun X Z hz => hlf X Z ⟨fun _ => hz g hr0, fun e1 h1 => ⟨fun _ => hz g hr0, fun e2 h2 => ⟨fun _ => hz g hr0, fun _ => ⟨fun _ => hz g hr0, fun _ => ⟨fun c => ?_, fun _ => hz g hr0⟩⟩⟩⟩⟩⟩
            rw [lfO_at hi' hf'] at h2; cases h2
            rw [b22] at c
            exact absurd c (nI_m1 (by omega))
        · have p1 : (0 : Int32) < u 74 (4 * i + f) := by rw [a21, nl_0, nI_ltI (by omega) (by omega)]; omega
          refine ⟨0, u, fun Z hz => hmod Z ⟨fun _ => hz, fun c => absurd p1 c⟩, fun X Z hz => hlf X Z ⟨fun _ => hz g hr0, fun e1 h1 => ⟨fun _ => hz g hr0, fun e2 h2 => ⟨fun _ => hz g hr0, fun _ => ⟨fun _ => hz g hr0, fun c => ?_⟩⟩⟩⟩⟩
          rw [lfO_at hi hf] at h1; cases h1
          rw [a22] at c
          exact absurd c (nI_m1 (by omega))
