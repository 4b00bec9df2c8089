theorem lfO_m1 : lfO (-1) (-1) = none := by decide
theorem nI_sub1 (n : Nat) : nI (n + 1) - 1 = nI n := nI_pred n
theorem c_Face_set {X : Nat × (Nat → Int32)} {k e : Nat} {g : sg} {z : Int32} {Z : sg → Prop} (hz : z = 0 ∨ z = 1) (h : Z (if z = 0 then pI (pI g 194 e 0 0) 196 e 0 0 else pI g 194 e 0 1)) : nnMT X M_Face_set k [qr 3 (some e), qi z] g (zV Z) := by
  rcases hz with rfl | rfl
  · exact t_Face_set ⟨okI_2 (Or.inl rfl), fun g1 hg1 => ⟨fun c => absurd rfl c, fun _ g2 hg2 => by subst hg1 hg2; exact h⟩⟩
  · exact t_Face_set ⟨okI_2 (Or.inr rfl), fun g1 hg1 => ⟨fun _ => by subst hg1; exact h, fun c => absurd c (by decide)⟩⟩
theorem pair_turn (g : sg) (u : MS) (x y z : Int32) (hr : RL g u) (hz01 : z = 0 ∨ z = 1) : PairI 0 M_Net_turn M_Mod_turn [qi x, qi y, qi z] g u := by
  have hr0 := hr
  obtain ⟨S, P, N, R, Q, hsh, hT, hN, hW, h⟩ := hr
  cases hb1 : (inN x 5 && inN y 4) with
  | false => exact ⟨0, u, fun Z hz => mt_Mod_turn (c_Mod_isWire ⟨fun _ => hz, fun c => absurd (b2_f hb1) c⟩), fun X Z hz => t_Net_turn (c_Net_linkFace hsh fun _ => ⟨fun _ => hz g hr0, fun a h1 => by rw [lfO_no hb1] at h1; cases h1⟩)⟩
  | true =>
    have n1 : ¬ b2 (inN x 5 && inN y 4) = 0 := by rw [b2_t hb1]; decide
    obtain ⟨i, f, hi, hf, rfl, rfl⟩ := wire_of hb1
    obtain ⟨e, he0⟩ : ∃ e, e = 4 * i + f := ⟨_, rfl⟩
    have he : e < 20 := by omega
    have v1 : vp_in (nI e) 20 := (vpi (by omega)).mpr he
    have l1 : (nI e).toNatClampNeg = e := nI_clamp (by omega)
    have hlf := lfO_at hi hf
    have ee := e4 i f
    rw [← he0] at hlf ee
    obtain ⟨a0, a1, a2, wa, a3, a4, a5, a6, a7⟩ := hW e he
    rcases a2 with ⟨a21, a22, a23, a24⟩ | ⟨b, ff, hb, hff, a21, a22, a23, a24⟩
    · refine ⟨0, u, fun Z hz => mt_Mod_turn (c_Mod_isWire ⟨fun c => absurd c n1, fun _ => ?_⟩), fun X Z hz => t_Net_turn (c_Net_linkFace hsh fun _ => ⟨fun _ => hz g hr0, fun a h1 => ⟨fun c => ?_, fun _ => hz g hr0⟩⟩)⟩
      · rw [ee, l1]
        exact ⟨v1, fun _ => hz, fun c => absurd a21 c⟩
      · rw [hlf] at h1; cases h1
        rw [a22, a23]
        refine c_Net_linkFace hsh fun _ => ⟨fun _ => hz g hr0, fun a2 h2 => ?_⟩
        rw [lfO_m1] at h2; cases h2
    · obtain ⟨o, ho0⟩ : ∃ o, o = 4 * b + ff := ⟨_, rfl⟩
      have ho : o < 20 := by omega
      have v2 : vp_in (nI o) 20 := (vpi (by omega)).mpr ho
      have l2 : (nI o).toNatClampNeg = o := nI_clamp (by omega)
      have hlo := lfO_at hb hff
      rw [← ho0] at hlo a21 a24
      have m0 : ¬ u 74 e = 0 := by rw [a21]; exact nI_ne0 (by omega) (by omega)
      by_cases c1 : u 75 e = z
      · refine ⟨0, u, fun Z hz => mt_Mod_turn (c_Mod_isWire ⟨fun c => absurd c n1, fun _ => ?_⟩), fun X Z hz => t_Net_turn (c_Net_linkFace hsh fun _ => ⟨fun _ => hz g hr0, fun a h1 => ⟨fun c => ?_, fun _ => hz g hr0⟩⟩)⟩
        · rw [ee, l1]
          exact ⟨v1, fun c => absurd c m0, fun _ => ⟨fun c => absurd c1 c, fun _ => hz⟩⟩
        · rw [hlf] at h1; cases h1
          exact absurd (a0.trans c1) c
      · have hcl : ∀ (X : Nat × (Nat → Int32)) (Z : Int32 → sg → Prop), Z 1 (if z = 0 then pI (pI (pI (pI g 194 e 0 0) 196 e 0 0) 194 o 0 0) 196 o 0 0 else pI (pI g 194 e 0 1) 194 o 0 1) → nnMT X M_Net_turn 0 [qr 0 (some 0), qi (nI i), qi (nI f), qi z] g (zI Z) := by
          intro X Z hh
          refine t_Net_turn (c_Net_linkFace hsh fun _ => ⟨fun c => ?_, fun a h1 => ⟨fun _ => ?_, fun c => ?_⟩⟩)
          · rw [hlf] at c; cases c
          · rw [hlf] at h1; cases h1
            rw [a22, a23]
            refine c_Net_linkFace hsh fun _ => ⟨fun c => ?_, fun a2 h2 => ?_⟩
            · rw [hlo] at c; cases c
            · rw [hlo] at h2; cases h2
              refine c_Face_set hz01 fun _ => c_Face_set hz01 fun _ => ?_
              rcases hz01 with rfl | rfl
              · exact hh
              · exact hh
          · rw [hlf] at h1; cases h1
            exact absurd (a0.symm.trans c) c1
        rcases hz01 with rfl | rfl
        · refine ⟨1, mu (mu (mu (mu u 75 e 0) 75 o 0) 76 e 0) 76 o 0, fun Z hz => mt_Mod_turn (c_Mod_isWire ⟨fun c => absurd c n1, fun _ => ?_⟩), fun X Z hz => hcl X Z (hz _ ⟨S, P, N, R, Q, hsh, hT, hN, ?_, h⟩)⟩
          · rw [ee, l1]
            refine ⟨v1, fun c => absurd c m0, fun _ => ⟨fun _ => ⟨okI_2 (Or.inl rfl), fun u2 hu2 => ?_⟩, fun c => absurd c c1⟩⟩
            rw [a21, nI_sub1, l2]
            refine ⟨v2, okI_2 (Or.inl rfl), fun u3 hu3 => ⟨fun _ => mb_Mod_turn_97 ?_, fun c => absurd rfl c⟩⟩
            rw [l1, l2]
            refine ⟨v1, fun u4 hu4 => ⟨fun _ => ⟨v2, fun u5 hu5 => ?_⟩, fun c => absurd rfl c⟩⟩
            subst hu2 hu3 hu4 hu5
            exact hz
          · intro e' he'
            obtain ⟨c0, c1', c2, wc, c3, c4, c5, c6, c7⟩ := hW e' he'
            by_cases q : e' = e ∨ e' = o
            · have r75 : mu (mu (mu (mu u 75 e 0) 75 o 0) 76 e 0) 76 o 0 75 e' = 0 := by rcases q with rfl | rfl <;> simp [mu_at]
              have r76 : mu (mu (mu (mu u 75 e 0) 75 o 0) 76 e 0) 76 o 0 76 e' = 0 := by rcases q with rfl | rfl <;> simp [mu_at]
              have s194 : gI (pI (pI (pI (pI g 194 e 0 0) 196 e 0 0) 194 o 0 0) 196 o 0 0) 194 e' 0 = 0 := by rcases q with rfl | rfl <;> simp [gI_pI]
              have s196 : gI (pI (pI (pI (pI g 194 e 0 0) 196 e 0 0) 194 o 0 0) 196 o 0 0) 196 e' 0 = 0 := by rcases q with rfl | rfl <;> simp [gI_pI]
              rw [r75, r76]
              refine ⟨s194, Or.inl rfl, ?_, 0, by omega, s196, rfl, fun hh => by omega, fun j hj => by omega⟩
              rcases c2 with ⟨d1, d2, d3, d4⟩ | hd
              · exact Or.inl ⟨d1, d2, d3, rfl⟩
              · exact Or.inr hd
            · have q1 : ¬ e' = e := fun z => q (Or.inl z)
              have q2 : ¬ e' = o := fun z => q (Or.inr z)
              have r75 : mu (mu (mu (mu u 75 e 0) 75 o 0) 76 e 0) 76 o 0 75 e' = u 75 e' := by simp [mu_at, q1, q2]
              have r76 : mu (mu (mu (mu u 75 e 0) 75 o 0) 76 e 0) 76 o 0 76 e' = u 76 e' := by simp [mu_at, q1, q2]
              have s194 : gI (pI (pI (pI (pI g 194 e 0 0) 196 e 0 0) 194 o 0 0) 196 o 0 0) 194 e' 0 = gI g 194 e' 0 := by simp [gI_pI, q1, q2]
              have s196 : gI (pI (pI (pI (pI g 194 e 0 0) 196 e 0 0) 194 o 0 0) 196 o 0 0) 196 e' 0 = gI g 196 e' 0 := by simp [gI_pI, q1, q2]
              rw [r75, r76]
              exact ⟨s194.trans c0, c1', c2, wc, c3, s196.trans c4, c5, c6, c7⟩
        · refine ⟨1, mu (mu (mu (mu u 75 e 1) 75 o 1) 76 e (u 76 e)) 76 o (u 76 o), fun Z hz => mt_Mod_turn (c_Mod_isWire ⟨fun c => absurd c n1, fun _ => ?_⟩), fun X Z hz => hcl X Z (hz _ ⟨S, P, N, R, Q, hsh, hT, hN, ?_, h⟩)⟩
          · rw [ee, l1]
            refine ⟨v1, fun c => absurd c m0, fun _ => ⟨fun _ => ⟨okI_2 (Or.inr rfl), fun u2 hu2 => ?_⟩, fun c => absurd c c1⟩⟩
            rw [a21, nI_sub1, l2]
            refine ⟨v2, okI_2 (Or.inr rfl), fun u3 hu3 => ⟨fun c => absurd c (by decide), fun _ => mb_Mod_turn_97 ?_⟩⟩
            rw [l1, l2]
            refine ⟨v1, fun u4 hu4 => ⟨fun c => absurd c (by decide), fun _ => ⟨v2, fun u5 hu5 => ?_⟩⟩⟩
            have e3 : u3 76 e = u 76 e := by rw [hu3, hu2]; rfl
            have e4' : u4 76 o = u 76 o := by
              rw [hu4, mu_at]
              by_cases hoe : o = e
              · rw [if_pos ⟨rfl, hoe⟩, e3, hoe]
              · rw [if_neg (fun z => hoe z.2), hu3, hu2]; rfl
            rw [e4'] at hu5
            rw [e3] at hu4
            subst hu2 hu3 hu4 hu5
            exact hz
          · intro e' he'
            obtain ⟨c0, c1', c2, wc, c3, c4, c5, c6, c7⟩ := hW e' he'
            have r76 : mu (mu (mu (mu u 75 e 1) 75 o 1) 76 e (u 76 e)) 76 o (u 76 o) 76 e' = u 76 e' := by
              simp only [mu_at]
              by_cases q2 : e' = o
              · subst q2; simp
              · by_cases q1 : e' = e
                · subst q1; simp [q2]
                · simp [q1, q2]
            by_cases q : e' = e ∨ e' = o
            · have r75 : mu (mu (mu (mu u 75 e 1) 75 o 1) 76 e (u 76 e)) 76 o (u 76 o) 75 e' = 1 := by rcases q with rfl | rfl <;> simp [mu_at]
              have s194 : gI (pI (pI g 194 e 0 1) 194 o 0 1) 194 e' 0 = 1 := by rcases q with rfl | rfl <;> simp [gI_pI]
              rw [r75, r76]
              refine ⟨s194, Or.inr rfl, ?_, wc, c3, c4, c5, fun _ => rfl, c7⟩
              rcases c2 with ⟨d1, d2, d3, d4⟩ | hd
              · exfalso
                rcases q with rfl | rfl
                · exact m0 d1
                · rw [a24] at d1
                  exact nI_ne0 (by omega) (by omega) d1
              · exact Or.inr hd
            · have q1 : ¬ e' = e := fun z => q (Or.inl z)
              have q2 : ¬ e' = o := fun z => q (Or.inr z)
              have r75 : mu (mu (mu (mu u 75 e 1) 75 o 1) 76 e (u 76 e)) 76 o (u 76 o) 75 e' = u 75 e' := by simp [mu_at, q1, q2]
              have s194 : gI (pI (pI g 194 e 0 1) 194 o 0 1) 194 e' 0 = gI g 194 e' 0 := by simp [gI_pI, q1, q2]
              rw [r75, r76]
              exact ⟨s194.trans c0, c1', c2, wc, c3, c4, c5, c6, c7⟩
