theorem nackc_p {S P N R Q i F p : Nat} {g : sg} {u : MS} {a b c d : Int32} (h : rl9 S P N R Q g u) (hi : i < 5) (hF : F < 5) (hp : pkv N R g u p 2 a b c d) :
    ∃ v, (∀ Z : MS → Prop, Z v → mMT M_Mod_nack [qr 1 (some 0), qi (nI i), qi (nI F), qi a, qi b, qi c] u (mV Z)) ∧ ∀ (X : Nat × (Nat → Int32)) (Z : sg → Prop), (∀ g', rl9 S P N R Q g' v → pkS g g' → Z g') → nnMT X M_Net_nackComes 5 [qr 0 (some 0), qr 6 (some i), qi (nI F), qr 7 (some p)] g (zV Z) := by
  have hP6 := h.2.2.2.2.2.2.2.1.2.1
  obtain ⟨c0, ε, hen⟩ := h.2.2.2.2.2.2.2.1.2.2.2 i hi
  have hen0 := hen
  obtain ⟨e1, e2, e3, e4, e5, e6, e7⟩ := hen
  have h388 := (h.1.1.2.2.2 i hi).2.2.1
  have hA512 := (h.1.2.2.1 i hi).2.2.2.2.1
  obtain ⟨hpp, -, ⟨q, -⟩ | ⟨q, -⟩ | ⟨-, p1, p2, p3, hz⟩ | ⟨q, -⟩⟩ := hp
  · exact absurd q (by decide)
  · exact absurd q (by decide)
  rotate_left
  · exact absurd q (by decide)
  have hzn : ¬ c = -1 := by obtain ⟨q, hq, e⟩ := hz; rw [e]; exact nI_1000 hq
  by_cases hex : ∃ j, j < c0 ∧ u 93 (6 * i + j) = a ∧ u 94 (6 * i + j) = b
  rotate_left
  · refine ⟨u, fun Z hZ => mt_Mod_nack (c_Mod_entry hi (by omega) e3 ⟨fun j hj q1 q2 => absurd ⟨j, hj, q1, q2⟩ hex, fun _ => ⟨fun _ => hZ, fun q => absurd (by decide) q⟩⟩), fun X Z hZ => t_Net_nackComes ⟨i, rfl, p, rfl, i, h388, ?_⟩⟩
    rw [p1, p2]
    exact c_Pending_find hP6 hA512 hen0 ⟨fun j hj q1 q2 => absurd ⟨j, hj, q1, q2⟩ hex, fun _ _ => ⟨fun _ => hZ g h pkS.rf, fun a4 q => (by cases q)⟩⟩
  obtain ⟨j, hj, ja, jb⟩ := hex
  have huq : ∀ j', j' < c0 → u 93 (6 * i + j') = a → u 94 (6 * i + j') = b → j' = j := fun j' hj' q1 q2 => e7 j' j hj' hj (by rw [q1, ja]) (by rw [q2, jb])
  obtain ⟨n1, n2, n3, ⟨nm, hnm, n4⟩, ⟨fl, hfl, n5⟩, n6, nf⟩ := e6 j hj
  have hA := h.1.en hi (e4 j (by omega)).2.1 (e4 j (by omega)).2.2
  have e5k : (5 : Int32) * nI (6 * i + j) + nI F = nI (5 * (6 * i + j) + F) := by rw [nl_5, pk_mul, nI_add]
  have ck : (nI (5 * (6 * i + j) + F)).toNatClampNeg = 5 * (6 * i + j) + F := nI_clamp (by omega)
  have c6 : (nI (6 * i + j)).toNatClampNeg = 6 * i + j := nI_clamp (by omega)
  have hmod : ∀ Z : MS → Prop, ((¬ (u 99 (5 * (6 * i + j) + F) = 1 ∧ u 100 (5 * (6 * i + j) + F) = c) → Z u) ∧ (u 99 (5 * (6 * i + j) + F) = 1 ∧ u 100 (5 * (6 * i + j) + F) = c → mMT M_Mod_passOn [qr 1 (some 0), qi (nI i), qi a, qi b, qi c, qi (u 95 (6 * i + j))] (mu u 99 (5 * (6 * i + j) + F) 2) (mV fun u3 => Z u3))) → mMT M_Mod_nack [qr 1 (some 0), qi (nI i), qi (nI F), qi a, qi b, qi c] u (mV Z) := by
    intro Z hh
    refine mt_Mod_nack (c_Mod_entry hi (by omega) e3 ⟨fun j' hj' q1 q2 => ?_, fun hno => absurd ⟨ja, jb⟩ (hno j hj)⟩)
    have := huq j' hj' q1 q2
    subst this
    rw [e5k, ck, c6]
    refine ⟨fun q => absurd q (nI_pos (by omega)), fun _ => ⟨(vpi (by omega)).mpr (by omega), fun q => hh.1 (fun z => q z.1), fun q => ⟨fun q2 u2 h2 => ⟨(vpi (by omega)).mpr (by omega), ?_⟩, fun q2 => hh.1 (fun z => q2 z.2)⟩⟩⟩
    rw [h2]
    exact hh.2 ⟨q, q2⟩
  have haw : (gI g 133 (ε j) F = c ∧ gI g 134 (ε j) F = 0) ↔ (u 99 (5 * (6 * i + j) + F) = 1 ∧ u 100 (5 * (6 * i + j) + F) = c) := by
    rcases (nf F hF).2 with ⟨z1, z2⟩ | ⟨-, z2, ⟨z3, z4⟩ | ⟨z3, z4⟩⟩
    · rw [z1, z2]; exact ⟨fun q => absurd q.1.symm hzn, fun q => absurd q.1 (by decide)⟩
    · rw [z2, z3, z4]; exact ⟨fun q => ⟨rfl, q.1⟩, fun q => ⟨q.2, rfl⟩⟩
    · rw [z3, z4]; exact ⟨fun q => absurd q.2 (by decide), fun q => absurd q.1 (by decide)⟩
  have hcls : ∀ (X : Nat × (Nat → Int32)) (Z : sg → Prop), ((¬ (u 99 (5 * (6 * i + j) + F) = 1 ∧ u 100 (5 * (6 * i + j) + F) = c) → Z g) ∧ (u 99 (5 * (6 * i + j) + F) = 1 ∧ u 100 (5 * (6 * i + j) + F) = c → nnMT X M_Net_passOn 5 [qr 0 (some 0), qr 6 (some i), qr 2 (some (ε j)), qi c] (pI g 134 (ε j) F 1) (zV fun g4 => gExt (pI g 134 (ε j) F 1) g4 → Z g4))) → nnMT X M_Net_nackComes 5 [qr 0 (some 0), qr 6 (some i), qi (nI F), qr 7 (some p)] g (zV Z) := by
    intro X Z hh
    refine t_Net_nackComes ⟨i, rfl, p, rfl, i, h388, ?_⟩
    rw [p1, p2]
    refine c_Pending_find hP6 hA512 hen0 ⟨fun j' hj' q1 q2 _ => ⟨fun q => (by cases q), fun a4 ha4 => ?_⟩, fun hno => absurd ⟨ja, jb⟩ (hno j hj)⟩
    have := huq j' hj' q1 q2
    subst this
    cases ha4
    rw [p3]
    refine t_Entry_awaits ?_
    rw [nI_clamp (show F < 2 ^ 31 by omega)]
    refine ⟨hA.2.2.1, (vpi (by omega)).mpr hF, fun q _ => ⟨fun _ => hh.1 (fun z => q (haw.mpr z).1), fun q => absurd rfl q⟩, fun q => ⟨hA.2.2.2, fun q2 _ => ⟨fun _ => hh.1 (fun z => q2 (haw.mpr z).2), fun q => absurd rfl q⟩, fun q2 _ => ⟨fun q => absurd q (by decide), fun _ => ?_⟩⟩⟩
    refine c_Entry_nackErrand hA hF fun _ => ⟨Nat.le_refl _, ?_⟩
    have e451 : gI (pI g 134 (ε j') F 1) 451 p 0 = c := by rw [gI_pI, if_neg (by omega)]; exact p3
    rw [e451]
    have := hh.2 (haw.mp ⟨q, q2⟩)
    exact this
  by_cases hh : u 99 (5 * (6 * i + j) + F) = 1 ∧ u 100 (5 * (6 * i + j) + F) = c
  rotate_left
  · exact ⟨u, fun Z hZ => hmod Z ⟨fun _ => hZ, fun q => absurd q hh⟩, fun X Z hZ => hcls X Z ⟨fun _ => hZ g h pkS.rf, fun q => absurd q hh⟩⟩
  obtain ⟨c', rfl⟩ : ∃ c', c0 = c' + 1 := ⟨c0 - 1, by omega⟩
  obtain ⟨q1, q2, q3⟩ := nr_p h hi hen0 hj hF (by rw [hh.1]; decide)
  obtain ⟨-, s1, s2⟩ := pass_p (z := c) q1 hi q2 (show j ≤ c' by omega) hz hnm hfl n4 n5
  refine ⟨_, fun Z hZ => hmod Z ⟨fun q => absurd hh q, fun _ => ?_⟩, fun X Z hZ => hcls X Z ⟨fun q => absurd hh q, fun _ => s2 X _ fun g' l1 l2 _ => hZ g' l1 (q3.tr l2)⟩⟩
  rw [← ja, ← jb, n4, n5]
  exact s1 Z hZ
