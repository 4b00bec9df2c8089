theorem c_Net_isNode {X : Nat × (Nat → Int32)} {k : Nat} {g : sg} {x : Int32} {Z : Int32 → sg → Prop} (h : Z (b2 (inN x 5)) g) : nnMT X M_Net_isNode k [qi x] g (zI Z) := by
  refine t_Net_isNode ⟨fun h1 => ?_, fun h1 => ⟨fun h2 => ?_, fun h2 => ?_⟩⟩
  · simpa [b2, inN, h1] using h
  · have h2 : nI 5 ≤ x := h2
    simpa [b2, inN, h2] using h
  · have h2 : ¬ nI 5 ≤ x := h2
    simpa [b2, inN, h1, h2] using h
theorem b2_f {b : Bool} (h : b = false) : b2 b = 0 := by rw [h]; rfl
theorem b2_t {b : Bool} (h : b = true) : b2 b = 1 := by rw [h]; rfl
theorem le_lt (x y : Int32) : ¬ x ≤ y ↔ y < x := Int32.not_le
theorem pair_write (g : sg) (u : MS) (x : Int32) (hr : RL g u) (hok : okI 1 x) : PairI 0 M_Net_write M_Mod_write [qi x] g u := by
  have hr0 := hr
  obtain ⟨S, P, N, R, Q, hsh, ⟨hl, hn, t, ht, h3, h68, htx⟩, h⟩ := hr
  by_cases c1 : t = 24
  · subst c1
    exact ⟨0, u, fun Z hz => mt_Mod_write ⟨fun _ => hz, fun c => absurd h68 c⟩, fun X Z hz => t_Net_write ⟨fun _ => hz g hr0, fun c => absurd (show (24 : Int32) ≤ gI g 3 0 0 by rw [h3]; decide) c⟩⟩
  · have e68 : ¬ u 68 0 = 24 := by
      rw [h68, nl_24, nI_eq (by omega) (by omega)]; exact c1
    have e3 : ¬ (24 : Int32) ≤ gI g 3 0 0 := by
      rw [h3, nl_24, nI_leI (by omega) (by omega)]; omega
    by_cases c2 : x < 32
    · exact ⟨0, u, fun Z hz => mt_Mod_write ⟨fun c => absurd c e68, fun _ => ⟨fun _ => hz, fun c => absurd c2 c⟩⟩, fun X Z hz => t_Net_write ⟨fun c => absurd c e3, fun _ => ⟨fun _ => hz g hr0, fun c => absurd c2 c⟩⟩⟩
    · by_cases c3 : x ≤ 126
      · have vi : vp_in (nI t) 24 := (vpi (by omega)).mpr (by omega)
        refine ⟨1, mu (mu u 69 t x) 68 0 (nI (t + 1)), fun Z hz => mt_Mod_write ⟨fun c => absurd c e68, fun _ => ⟨fun c => absurd c c2, fun _ => ⟨fun _ => ⟨by rw [h68]; exact vi, hok, fun u1 hu1 u2 hu2 => ?_⟩, fun c => absurd c3 c⟩⟩⟩,
          fun X Z hz => t_Net_write ⟨fun c => absurd c e3, fun _ => ⟨fun c => absurd c c2, fun _ => ⟨fun _ => ⟨hsh.2.1.1, by rw [h3]; exact vi, hok, fun g1 hg1 g2 hg2 => ?_⟩, fun c => absurd c3 c⟩⟩⟩⟩
        · have e : u1 68 0 = nI t := by rw [hu1]; exact h68
          rw [e, show (1 : Int32) = nI 1 from rfl, nI_add] at hu2
          rw [h68, nI_clamp (by omega)] at hu1
          subst hu1
          subst hu2
          exact hz
        · have e : gI g1 3 0 0 = nI t := by rw [hg1]; exact h3
          rw [e, show (1 : Int32) = nI 1 from rfl, nI_add] at hg2
          rw [h3, nI_clamp (by omega)] at hg1
          subst hg1
          subst hg2
          refine hz _ ⟨S, P, N, R, Q, hsh, ⟨hl, hn, t + 1, by omega, rfl, rfl, ?_⟩, h⟩
          intro i hi
          by_cases hit : i = t
          · subst hit
            refine ⟨?_, ?_⟩
            · show gI (pI (pI g 2 0 i x) 3 0 0 (nI (i + 1))) 2 0 i = mu (mu u 69 i x) 68 0 (nI (i + 1)) 69 i
              simp [gI_pI, mu_at]
            · have h0 : ¬ x < 0 := fun hc => c2 (Int32.lt_trans hc (by decide))
              obtain ⟨c, hc, hx⟩ := nI_of2 (n := 126) (by decide) h0 c3
              refine ⟨c, ?_, hc, ?_⟩
              · rw [hx, nl_32, nI_ltI (by omega) (by omega)] at c2
                omega
              · show mu (mu u 69 i x) 68 0 (nI (i + 1)) 69 i = nI c
                rw [← hx]
                simp [mu_at]
          · obtain ⟨a1, c, a2, a3, a4⟩ := htx i (by omega)
            refine ⟨?_, c, a2, a3, ?_⟩
            · show gI (pI (pI g 2 0 t x) 3 0 0 (nI (t + 1))) 2 0 i = mu (mu u 69 t x) 68 0 (nI (t + 1)) 69 i
              simp [gI_pI, mu_at, hit, a1]
            · show mu (mu u 69 t x) 68 0 (nI (t + 1)) 69 i = nI c
              simp [mu_at, hit, a4]
      · exact ⟨0, u, fun Z hz => mt_Mod_write ⟨fun c => absurd c e68, fun _ => ⟨fun c => absurd c c2, fun _ => ⟨fun c => absurd c c3, fun _ => hz⟩⟩⟩, fun X Z hz => t_Net_write ⟨fun c => absurd c e3, fun _ => ⟨fun c => absurd c c2, fun _ => ⟨fun c => absurd c c3, fun _ => hz g hr0⟩⟩⟩⟩
