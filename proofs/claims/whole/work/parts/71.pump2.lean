theorem pair_pump (g : sg) (u : MS) (x : Int32) (hr : RL g u) : PairI 70 M_Net_pump M_Mod_pump [qi x] g u := by
  have hr0 := hr
  obtain ⟨S, P, N, R, Q, h⟩ := hr
  have hsh := h.1
  cases hb : inN x 5 with
  | false => exact ⟨-1, u, fun Z hz => mt_Mod_pump (c_Mod_isNode ⟨fun _ => hz, fun c => absurd (b2_f hb) c⟩), fun X Z hz => t_Net_pump (c_Net_isNode fun _ => ⟨fun _ => hz g hr0, fun c => absurd (b2_f hb) c⟩)⟩
  | true =>
    have m0 : ¬ b2 (inN x 5) = 0 := by rw [b2_t hb]; decide
    obtain ⟨i, hi, rfl⟩ := inN_of (by decide) hb
    have vi : vp_in (nI i) 5 := (vpi (by omega)).mpr hi
    have li : (nI i).toNatClampNeg = i := nI_clamp (by omega)
    have e10 : (10 : Int32) * nI i = nI (10 * i + 0) := by rw [nl_10, pk_mul]; rfl
    obtain ⟨c, w0, f1, f2, f3, f4, f5, f6, f7, f8, f9⟩ := h.2.2.2.2.2.2.2.2.2.1 i hi
    have hnd := hsh.1.2.1 i hi
    have hft := (hsh.1.2.2.2 i hi).2.2.2.1
    obtain ⟨-, A260, -, -⟩ := fe_A h hi
    have hs : ∀ j, j < c → gI g 260 i j = u 113 (10 * i + j) := fun j hj => (f9 j hj).2.2.1
    have c0 : nI c = 0 ↔ c = 0 := by rw [← nI_0]; exact nI_eq (by omega) (by omega)
    have hmd : ∀ Z : Int32 → MS → Prop, ((¬ c = 0 → (u 111 i = 0 → (¬ cntI u i 2 c = nI c → mMT M_Mod_collect [qr 1 (some 0), qi (nI i)] u (mV fun u3 => (¬ u3 111 i = 0 → mWP M_Mod_pump 76 [qr 1 (some 0), qi (nI i), qi 0, qi 0, qi (nI (10 * i + 0)), none] [] u3 (mI Z)) ∧ (u3 111 i = 0 → mWP M_Mod_pump 76 [qr 1 (some 0), qi (nI i), qi 0, qi 1, qi (nI (10 * i + 0)), none] [] u3 (mI Z)))) ∧ (cntI u i 2 c = nI c → Z (-3) u)) ∧ (¬ u 111 i = 0 → Z (-2) u)) ∧ (c = 0 → Z (-1) u)) → mMT M_Mod_pump [qr 1 (some 0), qi (nI i)] u (mI Z) := by
      intro Z hZ
      refine mt_Mod_pump (c_Mod_isNode ⟨fun q => absurd q m0, fun _ => ⟨vi, ?_⟩⟩)
      rw [li, f4, c0, e10]
      refine ⟨fun q => ⟨fun z => c_Mod_inState hi f1 f4 ?_, (hZ.1 q).2⟩, hZ.2⟩
      rw [f4]
      exact (hZ.1 q).1 z
    have hcl : ∀ (X : Nat × (Nat → Int32)) (Z : Int32 → sg → Prop), ((¬ c = 0 → (u 111 i = 0 → (¬ cntI u i 2 c = nI c → nnMT X M_Fetch_settle 0 [qr 4 (some i)] g (zV fun g4 => gExt g g4 → (gI g4 258 i 0 = 0 → nnMT X M_Fetch_countOf 0 [qr 4 (some i), qi 1] g4 (zI fun r4 g5 => gExt g4 g5 → nnWP X M_Net_pump 70 91 [qr 0 (some 0), qi (nI i), qr 4 (some i), qi 0, qi (gI g4 257 i 0 - r4), qi 0, none] [] g5 (zI Z))) ∧ (¬ gI g4 258 i 0 = 0 → nnWP X M_Net_pump 70 91 [qr 0 (some 0), qi (nI i), qr 4 (some i), qi 0, qi 0, qi 0, none] [] g4 (zI Z)))) ∧ (cntI u i 2 c = nI c → Z (-3) g)) ∧ (¬ u 111 i = 0 → Z (-2) g)) ∧ (c = 0 → Z (-1) g)) → nnMT X M_Net_pump 70 [qr 0 (some 0), qi (nI i)] g (zI Z) := by
      intro X Z hZ
      refine t_Net_pump (c_Net_isNode fun _ => ⟨fun q => absurd q m0, fun _ => ⟨hsh.2.1.2.2.1, vi, i, by rw [li]; exact hnd, i, hft, c_Fetch_isThere f1 f3 fun _ => ⟨fun q => ?_, fun q => ?_⟩⟩⟩)
      · have hc : ¬ c = 0 := fun z => q (by rw [z]; rfl)
        refine ⟨i, by rw [li]; exact hnd, i, hft, ?_⟩
        rw [f7, hft]
        refine ⟨fun z => c_Fetch_countOf f1 A260 f3 hs fun _ => ?_, (hZ.1 hc).2⟩
        rw [f3]
        exact (hZ.1 hc).1 z
      · refine hZ.2 ?_
        by_cases z : 0 < c
        · rw [b2_t (decide_eq_true z)] at q
          exact absurd q (by decide)
        · omega
    by_cases hc0 : c = 0
    · exact ⟨-1, u, fun Z hz => hmd Z ⟨fun q => absurd hc0 q, fun _ => hz⟩, fun X Z hz => hcl X Z ⟨fun q => absurd hc0 q, fun _ => hz g hr0⟩⟩
    · by_cases h111 : u 111 i = 0
      · by_cases h2 : cntI u i 2 c = nI c
        · exact ⟨-3, u, fun Z hz => hmd Z ⟨fun _ => ⟨fun _ => ⟨fun q => absurd h2 q, fun _ => hz⟩, fun q => absurd h111 q⟩, fun q => absurd q hc0⟩, fun X Z hz => hcl X Z ⟨fun _ => ⟨fun _ => ⟨fun q => absurd h2 q, fun _ => hz g hr0⟩, fun q => absurd h111 q⟩, fun q => absurd q hc0⟩⟩
        · obtain ⟨v, y1, ⟨gw, y2⟩, y3, y4⟩ := collect_p hi f1 c 0 u (by omega) ⟨g, h⟩ f4
          obtain ⟨-, -, v01, ⟨w, hw, -, v110⟩, -⟩ := fe_c y2 hi f1 y1
          by_cases v111 : v 111 i = 0
          · obtain ⟨r, v', z1, z2⟩ := pump_loop hi f1 hw (show cntN v i 1 c ≤ 10 by have := (cntN_I v i 1 c).2; omega) c 0 0 v Q (by omega) (by omega) ⟨gw, y2⟩ y1 v110 v111 rfl
            refine ⟨r, v', fun Z hz => hmd Z ⟨fun _ => ⟨fun _ => ⟨fun _ => mt_Mod_collect ?_, fun q => absurd q h2⟩, fun q => absurd h111 q⟩, fun q => absurd q hc0⟩, fun X Z hz => hcl X Z ⟨fun _ => ⟨fun _ => ⟨fun _ => t_Fetch_settle (y4 g h X 0 _ fun g4 hg4 _ => ?_), fun q => absurd q h2⟩, fun q => absurd h111 q⟩, fun q => absurd q hc0⟩⟩
            · rw [e10]
              exact y3 _ ⟨fun q => absurd v111 q, fun _ => z1 Z hz⟩
            · obtain ⟨k1, k2, -, ⟨w', hw', k3, k4⟩, k5⟩ := fe_c hg4 hi f1 y1
              have e : w' = w := by
                rw [v110, nI_eq (by omega) (by omega)] at k4
                exact k4.symm
              subst e
              obtain ⟨-, B260, -, -⟩ := fe_A hg4 hi
              rw [k2, k3]
              refine ⟨fun _ => c_Fetch_countOf f1 B260 k1 (fun j hj => (k5 j hj).2.2.1) fun _ => ?_, fun q => absurd v111 q⟩
              rw [(cntN_I v i 1 c).1]
              exact z2 g4 hg4 X 70 Z (by omega) hz
          · refine ⟨0, v, fun Z hz => hmd Z ⟨fun _ => ⟨fun _ => ⟨fun _ => mt_Mod_collect ?_, fun q => absurd q h2⟩, fun q => absurd h111 q⟩, fun q => absurd q hc0⟩, fun X Z hz => hcl X Z ⟨fun _ => ⟨fun _ => ⟨fun _ => t_Fetch_settle (y4 g h X 0 _ fun g4 hg4 _ => ?_), fun q => absurd q h2⟩, fun q => absurd h111 q⟩, fun q => absurd q hc0⟩⟩
            · rw [e10]
              exact y3 _ ⟨fun _ => mb_Mod_pump_76 ⟨vi, fun _ => hz, fun _ => ⟨fun _ => hz, fun q => absurd rfl q⟩⟩, fun q => absurd q v111⟩
            · rw [(fe_c hg4 hi f1 y1).2.1]
              exact ⟨fun q => absurd q v111, fun _ => b_Net_pump_91 ⟨i, rfl, fun _ => hz g4 ⟨S, P, N, R, Q, hg4⟩, fun _ => ⟨fun _ => hz g4 ⟨S, P, N, R, Q, hg4⟩, fun q => absurd (by decide) q⟩⟩⟩
      · exact ⟨-2, u, fun Z hz => hmd Z ⟨fun _ => ⟨fun q => absurd q h111, fun _ => hz⟩, fun q => absurd q hc0⟩, fun X Z hz => hcl X Z ⟨fun _ => ⟨fun q => absurd q h111, fun _ => hz g hr0⟩, fun q => absurd q hc0⟩⟩
theorem prs_all : prs := ⟨pair_write, pair_name, pair_parent, pair_link, pair_turn, pair_announce, pair_publish, pair_ask, pair_carry, pair_alter, pair_tick, pair_fetch, pair_pump, pair_fetched, pair_cost, pair_waiting, pair_stored, pair_request⟩
