theorem d4_p : ∀ b, b < 5 → ∀ f, f < 4 → (nI (4 * b + f + 1) - 1) / 4 = nI b ∧ (nI (4 * b + f + 1) - 1) - (nI (4 * b + f + 1) - 1) / 4 * 4 = nI f := by decide
theorem pair_carry (g : sg) (u : MS) (x y : Int32) (hr : RL g u) : PairI 5 M_Net_carry M_Mod_carry [qi x, qi y] g u := by
  have hr0 := hr
  obtain ⟨S, P, N, R, Q, hr9⟩ := hr
  have hr9' := hr9
  obtain ⟨hsh, hT, hN, hW, h⟩ := hr9
  cases hb1 : (inN x 5 && inN y 4) with
  | false => exact ⟨-1, u, fun Z hz => mt_Mod_carry (c_Mod_isWire ⟨fun _ => hz, fun c => absurd (b2_f hb1) c⟩), fun X Z hz => t_Net_carry (c_Net_linkFace hsh fun _ => ⟨fun _ => hz g hr0, fun a h1 => by rw [lfO_no hb1] at h1; cases h1⟩)⟩
  | true =>
    have n1 : ¬ b2 (inN x 5 && inN y 4) = 0 := by rw [b2_t hb1]; decide
    obtain ⟨i, f, hi, hf, rfl, rfl⟩ := wire_of hb1
    obtain ⟨e, he0⟩ : ∃ e, e = 4 * i + f := ⟨_, rfl⟩
    have he : e < 20 := by omega
    have v1 : vp_in (nI e) 20 := (vpi (by omega)).mpr he
    have l1 : (nI e).toNatClampNeg = e := nI_clamp (by omega)
    have hlf := lfO_at hi hf
    have ee := e4 i f
    rw [← he0] at hlf ee
    have hA := hsh.2.2.2.1 e he
    obtain ⟨a0, a1, a2, w, a3, a4, a5, a6, a7⟩ := hW e he
    by_cases c0 : w = 0
    · subst c0
      refine ⟨-1, u, fun Z hz => mt_Mod_carry (c_Mod_isWire ⟨fun c => absurd c n1, fun _ => ?_⟩), fun X Z hz => t_Net_carry (c_Net_linkFace hsh fun _ => ⟨fun _ => hz g hr0, fun a h1 => ?_⟩)⟩
      · rw [ee, l1]
        exact ⟨v1, fun c => absurd a5 c, fun _ => hz⟩
      · rw [hlf] at h1; cases h1
        exact c_Net_isNode fun _ => ⟨fun _ => c_Face_first (w := 0) (by omega) hA a4 fun _ => ⟨fun _ => hz g hr0, fun a2 h2 => by cases h2⟩, fun _ => hz g hr0⟩
    · obtain ⟨w', rfl⟩ : ∃ w', w = w' + 1 := ⟨w - 1, by omega⟩
      obtain ⟨p, p1, p2⟩ := a7 0 (by omega)
      have n76 : ¬ u 76 e = 0 := by rw [a5]; exact nI_ne0 (by omega) (by omega)
      have u75 : u 75 e = 1 := a6 (by omega)
      have g194 : ¬ gI g 194 e 0 = 0 := by rw [a0, u75]; decide
      rcases a2 with ⟨-, -, -, q⟩ | ⟨b, fb, hb, hfb, u74, g192, g193, -⟩
      · rw [q] at u75; exact absurd u75 (by decide)
      have hrt := rl_take hr9' he (show w' < 8 by omega) a5
      have d192 : gI (dropG g e w' w') 192 e 0 = nI b := g192
      have d193 : gI (dropG g e w' w') 193 e 0 = nI fb := g193
      have d6 : gR (dropG g e w' w') 6 0 b = some b := hsh.1.2.1 b hb
      have t74 : takeU u e w' 74 e = nI (4 * b + fb + 1) := u74
      obtain ⟨d41, d42⟩ := d4_p b hb fb hfb
      have hpd : pkv N R (dropG g e w' w') (takeU u e w') p (u 77 (40 * e)) (u 77 (40 * e + 1)) (u 77 (40 * e + 2)) (u 77 (40 * e + 3)) (u 77 (40 * e + 4)) := p2
      have t78 : ∀ k, k < 5 → takeU u e w' 78 k = u 77 (40 * e + k) := fun k hk => if_pos ⟨rfl, hk⟩
      have hmd : ∀ (Z : Int32 → MS → Prop) (k a b' c d : Int32), u 77 (40 * e) = k → u 77 (40 * e + 1) = a → u 77 (40 * e + 2) = b' → u 77 (40 * e + 3) = c → u 77 (40 * e + 4) = d →
          ((¬ k = 0 → (¬ k = 1 → (¬ k = 2 → mMT M_Mod_hear [qr 1 (some 0), qi (nI b), qi (nI fb), qi a, qi b', qi c, qi d] (takeU u e w') (mV fun u3 => Z k u3)) ∧ (k = 2 → mMT M_Mod_nack [qr 1 (some 0), qi (nI b), qi (nI fb), qi a, qi b', qi c] (takeU u e w') (mV fun u3 => Z k u3))) ∧ (k = 1 → mMT M_Mod_data [qr 1 (some 0), qi (nI b), qi (nI fb), qi a, qi b', qi c] (takeU u e w') (mV fun u3 => Z k u3))) ∧ (k = 0 → mMT M_Mod_interest [qr 1 (some 0), qi (nI b), qi (nI fb), qi a, qi b', qi c, qi d] (takeU u e w') (mV fun u3 => Z k u3))) →
          mMT M_Mod_carry [qr 1 (some 0), qi (nI i), qi (nI f)] u (mI Z) := by
        rintro Z _ _ _ _ _ rfl rfl rfl rfl rfl hh
        refine mt_Mod_carry (c_Mod_isWire ⟨fun c => absurd c n1, fun _ => ?_⟩)
        rw [ee, l1]
        refine ⟨v1, fun _ => c_Mod_take he (by omega) a5 ?_, fun c => absurd c n76⟩
        have z0 := t78 0 (by omega)
        have z1 := t78 1 (by omega)
        have z2 := t78 2 (by omega)
        have z3 := t78 3 (by omega)
        have z4 := t78 4 (by omega)
        rw [show (0 : Int32).toNatClampNeg = 0 from rfl, show (1 : Int32).toNatClampNeg = 1 from rfl, show (2 : Int32).toNatClampNeg = 2 from rfl, show (3 : Int32).toNatClampNeg = 3 from rfl, show (4 : Int32).toNatClampNeg = 4 from rfl, z0, z1, z2, z3, z4, t74, d42, d41]
        exact hh
      have hcl : ∀ (X : Nat × (Nat → Int32)) (Z : Int32 → sg → Prop), nnMT X M_Net_arrive 5 [qr 0 (some 0), qr 6 (some b), qi (nI fb), qr 7 (some p)] (dropG g e w' w') (zV fun g5 => gExt (dropG g e w' w') g5 → Z (gI g5 448 p 0) g5) → nnMT X M_Net_carry 5 [qr 0 (some 0), qi (nI i), qi (nI f)] g (zI Z) := by
        intro X Z hh
        refine t_Net_carry (c_Net_linkFace hsh fun _ => ⟨fun c => ?_, fun a h1 => ?_⟩)
        · rw [hlf] at c; cases c
        · rw [hlf] at h1; cases h1
          rw [g192]
          refine c_Net_isNode fun _ => ⟨fun _ => c_Face_first (w := w' + 1) a3 hA a4 fun _ => ?_, fun q => ?_⟩
          · rw [if_neg (by omega), p1]
            refine ⟨fun q => (by cases q), fun a2 h2 => ?_⟩
            cases h2
            refine c_Face_dropFirst (by omega) hA a4 fun _ => ?_
            rw [d192, d193, nI_clamp (show b < 2 ^ 31 by omega), d6]
            exact ⟨hsh.2.1.2.2.1, (vpi (by omega)).mpr hb, Nat.le_refl _, hh⟩
          · rw [b2_t (inN_nI hb (by omega))] at q
            exact absurd q (by decide)
      have hk0 := hpd.2.1
      have hpp := hpd.1
      obtain ⟨k, hk⟩ : ∃ k, k = u 77 (40 * e) := ⟨_, rfl⟩
      rcases hpd.2.2 with ⟨q, q1, q2, q3, q4, ⟨n, hn, q5⟩, ⟨fl, hfl, q6⟩, hz, h0, hh0, q7⟩ | ⟨q, q1, q2, q3, n, hn, q5⟩ | ⟨q, -⟩ | ⟨q, -⟩
      · rw [q5] at q1
        rw [q6] at q2
        rw [q7] at q4
        rw [q] at hk0
        obtain ⟨-, r2, r3⟩ := inter_p (F := fb) hrt hb (by omega) hpp q1 q2 q3 q4 hn hfl hz hh0
        refine ⟨0, _, fun Z hz => hmd Z 0 _ _ _ _ q q5 q6 rfl q7 ⟨fun c => absurd rfl c, fun _ => r2 _ hz⟩, fun X Z hz => hcl X Z (t_Net_arrive ⟨p, rfl, fun _ => ⟨Nat.le_refl _, r3 X _ fun g' l1 l2 _ _ => ?_⟩, fun c => absurd (hk0.symm.trans c) (by decide), fun c => absurd (hk0.symm.trans c) (by decide), fun c => absurd hk0 c.1⟩)⟩
        rw [l2.2 448 p 0 rfl hpp, hk0]
        exact hz g' ⟨S, P, N, R, Q, l1⟩
      · rw [q5] at q1
        rw [q] at hk0
        obtain ⟨-, r2, r3⟩ := data_p (F := fb) hrt hb (by omega) hn ⟨hpp, hk0, q1, q2, q3, n, hn, rfl⟩
        refine ⟨1, _, fun Z hz => hmd Z 1 _ _ _ _ q q5 rfl rfl rfl ⟨fun _ => ⟨fun c => absurd rfl c, fun _ => r2 _ hz⟩, fun c => absurd c (by decide)⟩, fun X Z hz => hcl X Z (t_Net_arrive ⟨p, rfl, fun c => absurd (hk0.symm.trans c) (by decide), fun _ => r3 X _ fun g' l1 l2 _ _ => ?_, fun c => absurd (hk0.symm.trans c) (by decide), fun c => absurd hk0 c.2.1⟩)⟩
        rw [l2.2 448 p 0 rfl hpp, hk0]
        exact hz g' ⟨S, P, N, R, Q, l1⟩
      · rw [q] at hpd hk0
        obtain ⟨v, r2, r3⟩ := nackc_p (F := fb) hrt hb (by omega) hpd
        refine ⟨2, v, fun Z hz => hmd Z 2 _ _ _ _ q rfl rfl rfl rfl ⟨fun _ => ⟨fun _ => ⟨fun c => absurd rfl c, fun _ => r2 _ hz⟩, fun c => absurd c (by decide)⟩, fun c => absurd c (by decide)⟩, fun X Z hz => hcl X Z (t_Net_arrive ⟨p, rfl, fun c => absurd (hk0.symm.trans c) (by decide), fun c => absurd (hk0.symm.trans c) (by decide), fun _ => ⟨Nat.le_refl _, r3 X _ fun g' l1 l2 _ _ => ?_⟩, fun c => absurd hk0 c.2.2⟩)⟩
        rw [l2.2 448 p 0 rfl hpp, hk0]
        exact hz g' ⟨S, P, N, R, Q, l1⟩
      · rw [q] at hpd hk0
        obtain ⟨v, r2, r3⟩ := hear_p (F := fb) hrt hb (by omega) hpd
        refine ⟨3, v, fun Z hz => hmd Z 3 _ _ _ _ q rfl rfl rfl rfl ⟨fun _ => ⟨fun _ => ⟨fun _ => r2 _ hz, fun c => absurd c (by decide)⟩, fun c => absurd c (by decide)⟩, fun c => absurd c (by decide)⟩, fun X Z hz => hcl X Z (t_Net_arrive ⟨p, rfl, fun c => absurd (hk0.symm.trans c) (by decide), fun c => absurd (hk0.symm.trans c) (by decide), fun c => absurd (hk0.symm.trans c) (by decide), fun _ => ⟨by omega, b, rfl, r3 X _ fun g' l1 l2 _ _ => ?_⟩⟩)⟩
        rw [l2.2 448 p 0 rfl hpp, hk0]
        exact hz g' ⟨S, P, N, R, Q, l1⟩
