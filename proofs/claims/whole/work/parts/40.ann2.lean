theorem m53 {i R : Nat} {u : MS} {n l3 l4 : Int32} {Z : Int32 → MS → Prop} (hi : i < 5) (hR : R ≤ 50) (h79 : u 79 0 = nI R)
    (hx : (0 ≤ l4 → mWP M_Mod_announce 142 [qr 1 (some 0), qi (nI i), none, qi l3, qi l4, none, none] [] u (mI Z)) ∧ (¬ 0 ≤ l4 → (¬ cn (fun r => decide (u 80 r = nI i)) R = 10 → R < 50 ∧ mWP M_Mod_announce 142 [qr 1 (some 0), qi (nI i), none, qi l3, qi (nI R), none, none] [] (nrU u R (nI i) n) (mI Z)) ∧ (cn (fun r => decide (u 80 r = nI i)) R = 10 → Z (-3) u))) :
    mWP M_Mod_announce 53 [qr 1 (some 0), qi (nI i), qi n, qi l3, qi l4, qi 0, qi 0] [] u (mI Z) := by
  have key : ∀ r, r ≤ R → mWP M_Mod_announce 53 [qr 1 (some 0), qi (nI i), qi n, qi l3, qi l4, qi (nI (cn (fun r => decide (u 80 r = nI i)) r)), qi (nI r)] [] u (mI Z) := by
    refine dn R ?_ ?_
    · have hcl := cn_le (fun r => decide (u 80 r = nI i)) R
      refine mb_Mod_announce_53 ⟨fun _ => ⟨fun q => ⟨fun _ => hx.1 q, fun q2 => absurd q q2⟩, fun q => ⟨fun q2 => ⟨fun q3 => absurd q3 q, fun _ => ?_⟩, fun q2 => ?_⟩⟩, fun hc => absurd ?_ hc⟩
      · rw [nl_10, nI_eq (by omega) (by omega)] at q2
        obtain ⟨k1, k2⟩ := (hx.2 q).1 q2
        rw [h79, nI_clamp (by omega)]
        refine ⟨(vpi (by omega)).mpr k1, fun u1 h1 u2 h2 u3 h3 => ?_⟩
        have e : u2 79 0 = nI R := by rw [h2, h1]; exact h79
        rw [e, nI_1] at h3
        subst h1 h2 h3
        exact k2
      · rw [nl_10, nI_eq (by omega) (by omega)] at q2
        exact (hx.2 q).2 q2
      · rw [h79]; exact nI_le (Nat.le_refl _) (by omega)
    · intro r hr ih
      refine mb_Mod_announce_53 ⟨fun hc => ?_, fun _ => ⟨(vpi (by omega)).mpr (by omega), ?_, ?_⟩⟩
      · rw [h79] at hc
        exact absurd hc (nI_ge hr (by omega))
      · rw [nI_clamp (by omega), nI_1]
        intro q
        simpa [cn, q] using ih
      · rw [nI_clamp (by omega), nI_1, nI_1]
        intro q
        simpa [cn, q] using ih
  exact key 0 (Nat.zero_le _)
theorem own_eq {R i m : Nat} {ρ π : Nat → Nat} {g : sg} {u : MS} (h : rRn R i m ρ π g u) : cn (fun j => decide (u 80 (π j) = nI i)) m = cn (fun r => decide (u 80 r = nI i)) R := by
  obtain ⟨h1, h2, h3, h4, h5, h6⟩ := h
  refine Nat.le_antisymm ?_ ?_
  · exact cn_inj (f := π) (fun k hk hp => ⟨(h3 k hk).2.2.2.1, hp⟩) (fun j k hj hk _ _ e => h4 j k hj hk e)
  · have hch : ∀ r, ∃ j, r < R → u 80 r = nI i → j < m ∧ π j = r := by
      intro r
      by_cases hh : r < R ∧ u 80 r = nI i
      · obtain ⟨⟨j, hj, e⟩, -⟩ := h6 r hh.1 hh.2
        exact ⟨j, fun _ _ => ⟨hj, e⟩⟩
      · exact ⟨0, fun a b => absurd ⟨a, b⟩ hh⟩
    have sp := fun r => Classical.choose_spec (hch r)
    refine cn_inj (f := fun r => Classical.choose (hch r)) (fun r hr hp => ?_) (fun r s hr hs hp hq e => ?_)
    · simp only [decide_eq_true_eq] at hp
      obtain ⟨a1, a2⟩ := sp r hr hp
      refine ⟨a1, ?_⟩
      show decide (u 80 (π (Classical.choose (hch r))) = nI i) = true
      rw [a2]
      simp [hp]
    · simp only [decide_eq_true_eq] at hp hq
      obtain ⟨a1, a2⟩ := sp r hr hp
      obtain ⟨b1, b2'⟩ := sp s hs hq
      rw [← a2, ← b2', e]
theorem pair_announce (g : sg) (u : MS) (x y z : Int32) (hr : RL g u) (hz01 : z = 0 ∨ z = 1) : PairI 3 M_Net_announce M_Mod_announce [qi x, qi y, qi z] g u := by
  have hr0 := hr
  obtain ⟨S, P, N, R, Q, h9⟩ := hr
  have h90 := h9
  obtain ⟨hsh, hT, hN, hW, hG, hRR, h'⟩ := h9
  have n3 := hN.2.2.1
  have n4 := hN.2.2.2.1
  have n48 := hN.2.1
  have hR := hG.1
  have h79 := hG.2.1
  cases hb : inN x 5 with
  | false => exact ⟨-1, u, fun Z hz => mt_Mod_announce (c_Mod_isNode ⟨fun _ => hz, fun c => absurd (b2_f hb) c⟩), fun X Z hz => t_Net_announce (c_Net_isNode fun _ => ⟨fun _ => hz g hr0, fun c => absurd (b2_f hb) c⟩)⟩
  | true =>
    have m0 : ¬ b2 (inN x 5) = 0 := by rw [b2_t hb]; decide
    cases hc : inN y N with
    | false => exact ⟨-1, u, fun Z hz => mt_Mod_announce (c_Mod_isNode ⟨fun c => absurd c m0, fun _ => c_Mod_isName n4 ⟨fun c => absurd (b2_f hc) c, fun _ => hz⟩⟩), fun X Z hz => t_Net_announce (c_Net_isNode fun _ => ⟨fun c => absurd c m0, fun _ => ⟨0, hsh.1.1, c_Names_has n3 fun _ => ⟨fun c => absurd (b2_f hc) c, fun _ => hz g hr0⟩⟩⟩)⟩
    | true =>
      have m1 : ¬ b2 (inN y N) = 0 := by rw [b2_t hc]; decide
      obtain ⟨i, hi, rfl⟩ := inN_of (by decide) hb
      obtain ⟨n, hn, rfl⟩ := inN_of (by omega) hc
      have vi : vp_in (nI i) 5 := (vpi (by omega)).mpr hi
      have cl : (nI i).toNatClampNeg = i := nI_clamp (by omega)
      have hnd := hsh.1.2.1 i hi
      have hrt := (hsh.1.2.2.2 i hi).1
      have h704 := (hsh.2.2.1 i hi).2.1
      obtain ⟨m, ρ, π, hrn⟩ := hRR.1 i hi
      have hrn0 := hrn
      obtain ⟨k1, k2, k3, k4, k5, k6⟩ := hrn
      have hcls : ∀ (X : Nat × (Nat → Int32)) (Z : Int32 → sg → Prop), ((∀ j, j < m → u 80 (π j) = nI i → u 81 (π j) = nI n → (z = 1 → nnWP X M_Net_announce 3 80 [none, qi (nI i), qi (nI n), qi z, qr 6 (some i), qr 10 (some (ρ j))] [] g (zI Z)) ∧ (z = 0 → (¬ gI g 643 (ρ j) 4 = -1 → nnWP X M_Net_announce 3 80 [none, qi (nI i), qi (nI n), qi z, qr 6 (some i), qr 10 (some (ρ j))] [] g (zI Z)) ∧ (gI g 643 (ρ j) 4 = -1 → Z (-2) g))) ∧ ((∀ j, j < m → ¬ (u 80 (π j) = nI i ∧ u 81 (π j) = nI n)) → (z = 0 → Z (-2) g) ∧ (z = 1 → nnMT X M_Routes_make 2 [qr 11 (some i), qi (nI i), qi (nI n)] g (zR 10 fun r4 g4 => gExt g g4 → nnWP X M_Net_announce 1 80 [none, qi (nI i), qi (nI n), qi z, qr 6 (some i), qr 10 r4] [] g4 (zI Z))))) → nnMT X M_Net_announce 3 [qr 0 (some 0), qi (nI i), qi (nI n), qi z] g (zI Z) := by
        intro X Z hh
        refine t_Net_announce (c_Net_isNode fun _ => ⟨fun c => absurd c m0, fun _ => ⟨0, hsh.1.1, c_Names_has n3 fun _ => ⟨fun _ => ?_, fun c => absurd c m1⟩⟩⟩)
        rw [cl, hnd]
        refine ⟨hsh.2.1.2.2.1, vi, i, rfl, i, hrt, c_Routes_find hR h704 hrn0 ⟨fun j hj e1 e2 _ => ?_, fun hno _ => ?_⟩⟩
        · obtain ⟨a1, a2⟩ := hh.1 j hj e1 e2
          refine ⟨fun q => ⟨fun q2 => (by cases q2), fun a _ => a1 (by rcases hz01 with z0 | z0; exact absurd z0 q; exact z0)⟩, fun q => ⟨fun q2 => (by cases q2), fun a ha => ?_⟩⟩
          cases ha
          exact ⟨(k3 j hj).2.2.1, (a2 q).1, (a2 q).2⟩
        · obtain ⟨a1, a2⟩ := hh.2 hno
          exact ⟨fun q => ⟨fun _ => ⟨by omega, i, hrt, a2 (by rcases hz01 with z0 | z0; exact absurd z0 q; exact z0)⟩, fun a ha => (by cases ha)⟩, fun q => ⟨fun _ => a1 q, fun a ha => (by cases ha)⟩⟩
      have hmod : ∀ Z : Int32 → MS → Prop, ((z = 1 → mWP M_Mod_announce 53 [qr 1 (some 0), qi (nI i), qi (nI n), qi z, qi (fst (fun r => decide (u 80 r = nI i) && decide (u 81 r = nI n)) 0 R), qi 0, qi 0] [] u (mI Z)) ∧ (z = 0 → (fst (fun r => decide (u 80 r = nI i) && decide (u 81 r = nI n)) 0 R < 0 → Z (-2) u) ∧ (¬ fst (fun r => decide (u 80 r = nI i) && decide (u 81 r = nI n)) 0 R < 0 → mMT M_Mod_least [qr 1 (some 0), qi (nI i), qi (fst (fun r => decide (u 80 r = nI i) && decide (u 81 r = nI n)) 0 R)] u (mI fun r4 u4 => (¬ r4 = 0 → mWP M_Mod_announce 53 [qr 1 (some 0), qi (nI i), qi (nI n), qi z, qi (fst (fun r => decide (u 80 r = nI i) && decide (u 81 r = nI n)) 0 R), qi 0, qi 0] [] u4 (mI Z)) ∧ (r4 = 0 → Z (-2) u4))))) → mMT M_Mod_announce [qr 1 (some 0), qi (nI i), qi (nI n), qi z] u (mI Z) := by
        intro Z hh
        refine mt_Mod_announce (c_Mod_isNode ⟨fun c => absurd c m0, fun _ => c_Mod_isName n4 ⟨fun _ => c_Mod_route h79 hR ⟨fun q => hh.1 (by rcases hz01 with z0 | z0; exact absurd z0 q; exact z0), fun q => hh.2 q⟩, fun c => absurd c m1⟩⟩)
      by_cases hex : ∃ r, r < R ∧ u 80 r = nI i ∧ u 81 r = nI n
      · obtain ⟨r, hrR, e80, e81⟩ := hex
        obtain ⟨⟨j, hj, hjr⟩, hown⟩ := k6 r hrR e80
        have hfst : fst (fun r => decide (u 80 r = nI i) && decide (u 81 r = nI n)) 0 R = nI r := by
          refine fst_at r (Nat.zero_le _) (by omega) (by simp [e80, e81]) (fun s _ hs => ?_)
          cases hp : (decide (u 80 s = nI i) && decide (u 81 s = nI n)) with
          | false => rfl
          | true =>
            simp only [Bool.and_eq_true, decide_eq_true_eq] at hp
            have := hG.2.2.2.1 s r (by omega) hrR (hp.1.trans e80.symm) (hp.2.trans e81.symm)
            omega
        rw [hfst] at hmod
        rw [← hjr] at e80 e81 hmod hown hrR
        obtain ⟨v, t1, t2⟩ := ann_tail h90 hi hn hz01 hrn0 hj e80 e81
        have huniq : ∀ j', j' < m → u 80 (π j') = nI i → u 81 (π j') = nI n → j' = j := fun j' hj' q1 q2 => k4 j' j hj' hj (hG.2.2.2.1 _ _ (k3 j' hj').2.2.2.1 hrR (q1.trans e80.symm) (q2.trans e81.symm))
        have t53 : ∀ Z : Int32 → MS → Prop, Z (u 82 (50 * i + π j) + 1) v → mWP M_Mod_announce 53 [qr 1 (some 0), qi (nI i), qi (nI n), qi z, qi (nI (π j)), qi 0, qi 0] [] u (mI Z) := fun Z hZ => m53 hi hR h79 ⟨fun _ => t1 Z hZ, fun q => absurd (nI_pos' (by omega)) q⟩
        obtain ⟨c4, c41, c42, c43⟩ := (k3 j hj).2.2.2.2.2.2.2 4 (by omega)
        have hleast : mf (fun f => (u 83 (250 * i + 5 * π j + f)).toNatClampNeg) 5 = c4 := by
          rw [mf4 (fun f hf => by rw [hown f hf]; rfl)]
          try dsimp only
          rw [c42, nI_clamp (by omega)]
        rcases hz01 with rfl | rfl
        · by_cases hc4 : c4 = 0
          · refine ⟨-2, u, fun Z hz => hmod Z ⟨fun q => absurd q (by decide), fun _ => ⟨fun _ => hz, fun _ => c_Mod_least hi hrR hR hRR.okC ⟨fun q => ?_, fun _ => hz⟩⟩⟩, fun X Z hz => hcls X Z ⟨fun j' hj' q1 q2 => ⟨fun q => absurd q (by decide), fun _ => ⟨fun q => ?_, fun _ => hz g hr0⟩⟩, fun hno => absurd ⟨e80, e81⟩ (hno j hj)⟩⟩
            · rw [hleast, hc4] at q
              exact absurd rfl q
            · have := huniq j' hj' q1 q2
              subst this
              rw [c43, hc4] at q
              exact absurd (by decide) q
          · refine ⟨u 82 (50 * i + π j) + 1, v, fun Z hz => hmod Z ⟨fun q => absurd q (by decide), fun _ => ⟨fun q => absurd q (nI_pos (by omega)), fun _ => c_Mod_least hi hrR hR hRR.okC ⟨fun _ => t53 Z hz, fun q => ?_⟩⟩⟩, fun X Z hz => hcls X Z ⟨fun j' hj' q1 q2 => ⟨fun q => absurd q (by decide), fun _ => ⟨fun _ => ?_, fun q => ?_⟩⟩, fun hno => absurd ⟨e80, e81⟩ (hno j hj)⟩⟩
            · rw [hleast, nl_0, nI_eq (by omega) (by decide)] at q
              exact absurd q hc4
            · have := huniq j' hj' q1 q2
              subst this
              exact t2 X 3 Z (by omega) hz
            · have := huniq j' hj' q1 q2
              subst this
              rw [c43, cm1 (by omega)] at q
              exact absurd q hc4
        · refine ⟨u 82 (50 * i + π j) + 1, v, fun Z hz => hmod Z ⟨fun _ => t53 Z hz, fun q => absurd q (by decide)⟩, fun X Z hz => hcls X Z ⟨fun j' hj' q1 q2 => ⟨fun _ => ?_, fun q => absurd q (by decide)⟩, fun hno => absurd ⟨e80, e81⟩ (hno j hj)⟩⟩
          have := huniq j' hj' q1 q2
          subst this
          exact t2 X 3 Z (by omega) hz
      · have hno : ∀ r, r < R → ¬ (u 80 r = nI i ∧ u 81 r = nI n) := fun r hrR q => hex ⟨r, hrR, q⟩
        have hfst : fst (fun r => decide (u 80 r = nI i) && decide (u 81 r = nI n)) 0 R = -1 := by
          refine fst_no fun r _ hrR => ?_
          cases hp : (decide (u 80 r = nI i) && decide (u 81 r = nI n)) with
          | false => rfl
          | true =>
            simp only [Bool.and_eq_true, decide_eq_true_eq] at hp
            exact absurd hp (hno r (by omega))
        rw [hfst] at hmod
        have hnoj : ∀ j, j < m → ¬ (u 80 (π j) = nI i ∧ u 81 (π j) = nI n) := fun j hj => hno _ (k3 j hj).2.2.2.1
        have how := own_eq hrn0
        rcases hz01 with rfl | rfl
        · exact ⟨-2, u, fun Z hz => hmod Z ⟨fun q => absurd q (by decide), fun _ => ⟨fun _ => hz, fun q => absurd (by decide) q⟩⟩, fun X Z hz => hcls X Z ⟨fun j hj q1 q2 => absurd ⟨q1, q2⟩ (hnoj j hj), fun _ => ⟨fun _ => hz g hr0, fun q => absurd q (by decide)⟩⟩⟩
        · by_cases h10 : cn (fun r => decide (u 80 r = nI i)) R = 10
          · have hm10 : ¬ cn (fun j => decide (u 80 (π j) = nI i)) m < 10 := by omega
            refine ⟨-3, u, fun Z hz => hmod Z ⟨fun _ => m53 hi hR h79 ⟨fun q => absurd q (by decide), fun _ => ⟨fun q => absurd h10 q, fun _ => hz⟩⟩, fun q => absurd q (by decide)⟩, fun X Z hz => hcls X Z ⟨fun j hj q1 q2 => absurd ⟨q1, q2⟩ (hnoj j hj), fun _ => ⟨fun q => absurd q (by decide), fun _ => ?_⟩⟩⟩
            by_cases hm50 : m < 50
            · exact c_Routes_make (Nat.le_refl _) hR h704 hrn0 hm50 ⟨fun q => absurd q hm10, fun _ _ => b_Net_announce_80 ⟨fun _ => hz g hr0, fun a ha => (by cases ha)⟩⟩
            · refine t_Routes_make (c_Routes_countOf hR h704 hrn0 fun _ => ⟨fun _ _ => b_Net_announce_80 ⟨fun _ => hz g hr0, fun a ha => (by cases ha)⟩, fun q => absurd ?_ q⟩)
              have := cn_le (fun j => decide (u 80 (π j) = nI i)) m
              rw [nl_10, nI_leI (by omega) (by omega)]
              omega
          · have hlt : cn (fun r => decide (u 80 r = nI i)) R < 10 := by have := hG.2.2.2.2 i hi; omega
            have hR50 := hG.lt hi hlt
            have hnew := rl_new h90 hi hn hR50 hrn0 hno hlt
            have hrnew := rRn_new (n := n) hrn0 hG (hRR.2.2 i R hi (Nat.le_refl _) hR50) hi
            obtain ⟨v, t1, t2⟩ := ann_tail (j := m) hnew hi hn (Or.inr rfl) hrnew (by omega) (by rw [if_pos rfl, nrU_80, if_pos rfl]) (by rw [if_pos rfl, nrU_81, if_pos rfl])
            try dsimp only at t1 t2
            rw [if_pos rfl] at t1 t2
            rw [if_pos rfl] at t2
            refine ⟨nrU u R (nI i) (nI n) 82 (50 * i + R) + 1, v, fun Z hz => hmod Z ⟨fun _ => m53 hi hR h79 ⟨fun q => absurd q (by decide), fun _ => ⟨fun _ => ⟨hR50, t1 Z hz⟩, fun q => absurd q h10⟩⟩, fun q => absurd q (by decide)⟩, fun X Z hz => hcls X Z ⟨fun j hj q1 q2 => absurd ⟨q1, q2⟩ (hnoj j hj), fun _ => ⟨fun q => absurd q (by decide), fun _ => c_Routes_make (Nat.le_refl _) hR h704 hrn0 (by omega) ⟨fun _ _ => t2 X 1 Z (Nat.le_refl _) hz, fun q => absurd (by omega) q⟩⟩⟩⟩
