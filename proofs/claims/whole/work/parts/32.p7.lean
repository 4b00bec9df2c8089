theorem c_Packet_data {X : Nat × (Nat → Int32)} {kk : Nat} {g : sg} {n c t : Int32} {Z : Option Nat → sg → Prop} (hk : 1 ≤ kk) (h : ∀ g', agP g g' → gI g' 448 (gC g 7) 0 = 1 → gI g' 449 (gC g 7) 0 = n → gI g' 453 (gC g 7) 0 = c → gI g' 454 (gC g 7) 0 = t → Z (some (gC g 7)) g') : nnMT X M_Packet_data kk [qi n, qi c, qi t] g (zR 7 Z) := by
  refine t_Packet_data ⟨hk, fun g1 h1 => c_Packet_init fun _ g3 h3 g4 h4 => ?_⟩
  subst h1 h3 h4
  refine h _ (agP_pI (agP_pI (agP_pI (agP_pI (agP_new g) (by decide) _ _) (by decide) _ _) (by decide) _ _) (by decide) _ _) ?_ ?_ ?_ ?_ <;> simp [gI_pI]
theorem c_Packet_interest {X : Nat × (Nat → Int32)} {kk : Nat} {g : sg} {n f q o : Int32} {Z : Option Nat → sg → Prop} (hk : 1 ≤ kk) (h : ∀ g', agP g g' → gI g' 448 (gC g 7) 0 = 0 → gI g' 449 (gC g 7) 0 = n → gI g' 450 (gC g 7) 0 = f → gI g' 451 (gC g 7) 0 = q → gI g' 452 (gC g 7) 0 = o → Z (some (gC g 7)) g') : nnMT X M_Packet_interest kk [qi n, qi f, qi q, qi o] g (zR 7 Z) := by
  refine t_Packet_interest ⟨hk, fun g1 h1 => c_Packet_init fun _ g3 h3 g4 h4 g5 h5 => ?_⟩
  subst h1 h3 h4 h5
  refine h _ (agP_pI (agP_pI (agP_pI (agP_pI (agP_pI (agP_new g) (by decide) _ _) (by decide) _ _) (by decide) _ _) (by decide) _ _) (by decide) _ _) ?_ ?_ ?_ ?_ ?_ <;> simp [gI_pI]
theorem c_Packet_nack {X : Nat × (Nat → Int32)} {kk : Nat} {g : sg} {n f q : Int32} {Z : Option Nat → sg → Prop} (hk : 1 ≤ kk) (h : ∀ g', agP g g' → gI g' 448 (gC g 7) 0 = 2 → gI g' 449 (gC g 7) 0 = n → gI g' 450 (gC g 7) 0 = f → gI g' 451 (gC g 7) 0 = q → Z (some (gC g 7)) g') : nnMT X M_Packet_nack kk [qi n, qi f, qi q] g (zR 7 Z) := by
  refine t_Packet_nack ⟨hk, fun g1 h1 => c_Packet_init fun _ g3 h3 g4 h4 => ?_⟩
  subst h1 h3 h4
  refine h _ (agP_pI (agP_pI (agP_pI (agP_pI (agP_new g) (by decide) _ _) (by decide) _ _) (by decide) _ _) (by decide) _ _) ?_ ?_ ?_ ?_ <;> simp [gI_pI]
theorem c_Packet_notice {X : Nat × (Nat → Int32)} {kk : Nat} {g : sg} {o n s c : Int32} {Z : Option Nat → sg → Prop} (hk : 1 ≤ kk) (h : ∀ g', agP g g' → gI g' 448 (gC g 7) 0 = 3 → gI g' 455 (gC g 7) 0 = o → gI g' 449 (gC g 7) 0 = n → gI g' 456 (gC g 7) 0 = s → gI g' 457 (gC g 7) 0 = c → Z (some (gC g 7)) g') : nnMT X M_Packet_notice kk [qi o, qi n, qi s, qi c] g (zR 7 Z) := by
  refine t_Packet_notice ⟨hk, fun g1 h1 => c_Packet_init fun _ g3 h3 g4 h4 g5 h5 => ?_⟩
  subst h1 h3 h4 h5
  refine h _ (agP_pI (agP_pI (agP_pI (agP_pI (agP_pI (agP_new g) (by decide) _ _) (by decide) _ _) (by decide) _ _) (by decide) _ _) (by decide) _ _) ?_ ?_ ?_ ?_ ?_ <;> simp [gI_pI]
theorem pair_publish (g : sg) (u : MS) (x y z w : Int32) (hr : RL g u) : PairI 1 M_Net_publish M_Mod_publish [qi x, qi y, qi z, qi w] g u := by
  have hr0 := hr
  obtain ⟨S, P, N, R, Q, hr9⟩ := hr
  have hr9' := hr9
  obtain ⟨hsh, hT, hN, hW, hG, hRR, hS, hE, hQ, hF, hP⟩ := hr9
  have n3 := hN.2.2.1
  have n4 := hN.2.2.2.1
  have n48 := hN.2.1
  cases hb : inN x 5 with
  | false => exact ⟨0, u, fun Z hz => mt_Mod_publish (c_Mod_isNode ⟨fun _ => hz, fun c => absurd (b2_f hb) c⟩), fun X Z hz => t_Net_publish (c_Net_isNode fun _ => ⟨fun _ => hz g hr0, fun c => absurd (b2_f hb) c⟩)⟩
  | true =>
    have m0 : ¬ b2 (inN x 5) = 0 := by rw [b2_t hb]; decide
    cases hc : inN y N with
    | false => exact ⟨0, u, fun Z hz => mt_Mod_publish (c_Mod_isNode ⟨fun c => absurd c m0, fun _ => c_Mod_isName n4 ⟨fun _ => hz, fun c => absurd (b2_f hc) c⟩⟩), fun X Z hz => t_Net_publish (c_Net_isNode fun _ => ⟨fun c => absurd c m0, fun _ => ⟨0, hsh.1.1, c_Names_has n3 fun _ => ⟨fun _ => hz g hr0, fun c => absurd (b2_f hc) c⟩⟩⟩)⟩
    | true =>
      have m1 : ¬ b2 (inN y N) = 0 := by rw [b2_t hc]; decide
      have hmod : ∀ Z : Int32 → MS → Prop, ((w < 0 → Z 0 u) ∧ (¬ w < 0 → (20 < w → Z 0 u) ∧ (¬ 20 < w → vp_in y 48 ∧ (u 89 y.toNatClampNeg ≤ 0 → Z 1 (mu (mu (mu u 89 y.toNatClampNeg (x + 1)) 90 y.toNatClampNeg z) 91 y.toNatClampNeg w)) ∧ (¬ u 89 y.toNatClampNeg ≤ 0 → Z 0 u)))) → mMT M_Mod_publish [qr 1 (some 0), qi x, qi y, qi z, qi w] u (mI Z) := by
        intro Z hh
        refine mt_Mod_publish (c_Mod_isNode ⟨fun c => absurd c m0, fun _ => c_Mod_isName n4 ⟨fun c => absurd c m1, fun _ => ⟨hh.1, fun c1 => ⟨(hh.2 c1).1, fun c2 => ?_⟩⟩⟩⟩)
        obtain ⟨k1, k2, k3⟩ := (hh.2 c1).2 c2
        exact ⟨k1, fun c3 u3 h3 u4 h4 u5 h5 => by subst h3 h4 h5; exact k2 c3, k3⟩
      have hcls : ∀ (X : Nat × (Nat → Int32)) (Z : Int32 → sg → Prop), ((w < 0 → Z 0 g) ∧ (¬ w < 0 → (20 < w → Z 0 g) ∧ (¬ 20 < w → vp_in y 48 ∧ (gR g 7 0 y.toNatClampNeg = none → nnMT X M_Packet_data 1 [qi y, qi z, qi w] g (zR 7 fun r3 g3 => gExt g g3 → ∀ g4, g4 = pR g3 7 0 y.toNatClampNeg r3 → gA g4 8 0 = some 48 ∧ ∀ g5, g5 = pI g4 8 0 y.toNatClampNeg x → Z 1 g5)) ∧ (∀ a2, gR g 7 0 y.toNatClampNeg = some a2 → Z 0 g)))) → nnMT X M_Net_publish 1 [qr 0 (some 0), qi x, qi y, qi z, qi w] g (zI Z) := by
        intro X Z hh
        refine t_Net_publish (c_Net_isNode fun _ => ⟨fun c => absurd c m0, fun _ => ⟨0, hsh.1.1, c_Names_has n3 fun _ => ⟨fun c => absurd c m1, fun _ => ⟨hh.1, fun c1 => ⟨(hh.2 c1).1, fun c2 => ?_⟩⟩⟩⟩⟩)
        obtain ⟨k1, k2, k3⟩ := (hh.2 c1).2 c2
        exact ⟨hsh.2.1.2.2.2.1, k1, fun c => ⟨Nat.le_refl _, k2 c⟩, k3⟩
      by_cases c1 : w < 0
      · exact ⟨0, u, fun Z hz => hmod Z ⟨fun _ => hz, fun c => absurd c1 c⟩, fun X Z hz => hcls X Z ⟨fun _ => hz g hr0, fun c => absurd c1 c⟩⟩
      · by_cases c2 : 20 < w
        · exact ⟨0, u, fun Z hz => hmod Z ⟨fun c => absurd c c1, fun _ => ⟨fun _ => hz, fun c => absurd c2 c⟩⟩, fun X Z hz => hcls X Z ⟨fun c => absurd c c1, fun _ => ⟨fun _ => hz g hr0, fun c => absurd c2 c⟩⟩⟩
        · obtain ⟨i, hi, rfl⟩ := inN_of (by decide) hb
          obtain ⟨n, hn, rfl⟩ := inN_of (by omega) hc
          have vi : vp_in (nI n) 48 := (vpi (by omega)).mpr (by omega)
          have cl : (nI n).toNatClampNeg = n := nI_clamp (by omega)
          rw [cl, nI_1] at hmod
          rw [cl] at hcls
          rcases hP n (by omega) with ⟨z1, z2⟩ | ⟨z0, i', p, z1, z2, z3, z4, z5⟩
          · refine ⟨1, _, fun Z hz => hmod Z ⟨fun c => absurd c c1, fun _ => ⟨fun c => absurd c c2, fun _ => ⟨vi, fun _ => hz, fun c => absurd (by rw [z1]; decide) c⟩⟩⟩, fun X Z hz => hcls X Z ⟨fun c => absurd c c1, fun _ => ⟨fun c => absurd c c2, fun _ => ⟨vi, fun _ => c_Packet_data (Nat.le_refl _) fun g3 ha f1 f2 f3 f4 hx g4 h4 => ?_, fun a2 ha2 => by rw [z2] at ha2; cases ha2⟩⟩⟩⟩
            have h9 := rl_agP hr9' ha
            obtain ⟨ksh, kT, kN, kW, kG, kRR, kS, kE, kQ, kF, kP⟩ := h9
            subst h4
            refine ⟨ksh.2.1.2.2.2.2.1, fun g5 h5 => ?_⟩
            subst h5
            refine hz _ ⟨S, P, N, R, Q, ksh, kT, kN, kW, kG, kRR, kS, kE, kQ, kF, ?_⟩
            intro m hm
            by_cases hmn : m = n
            · subst hmn
              refine Or.inr ⟨hn, i, gC g 7, hi, ?_, ?_, ?_, ?_⟩
              · simp [mu_at]
              · simp [gI_pI]
              · rw [gR_pI, gR_pR, if_pos ⟨rfl, rfl, rfl⟩]
              · have e90 : mu (mu (mu u 89 m (nI (i + 1))) 90 m z) 91 m w 90 m = z := by simp [mu_at]
                have e91 : mu (mu (mu u 89 m (nI (i + 1))) 90 m z) 91 m w 91 m = w := by simp [mu_at]
                rw [e90, e91]
                exact ⟨by show gC g 7 < gC g3 7; rw [ha.2.1]; omega, f1, f2, f3, f4, m, hn, rfl⟩
            · have e89 : mu (mu (mu u 89 n (nI (i + 1))) 90 n z) 91 n w 89 m = u 89 m := by simp [mu_at, hmn]
              have e90 : mu (mu (mu u 89 n (nI (i + 1))) 90 n z) 91 n w 90 m = u 90 m := by simp [mu_at, hmn]
              have e91 : mu (mu (mu u 89 n (nI (i + 1))) 90 n z) 91 n w 91 m = u 91 m := by simp [mu_at, hmn]
              have e7 : gR (pI (pR g3 7 0 n (some (gC g 7))) 8 0 n (nI i)) 7 0 m = gR g3 7 0 m := by rw [gR_pI, gR_pR, if_neg (fun z => hmn z.2.2)]
              have e8 : gI (pI (pR g3 7 0 n (some (gC g 7))) 8 0 n (nI i)) 8 0 m = gI g3 8 0 m := by rw [gI_pI, if_neg (fun z => hmn z.2.2)]; rfl
              rw [e89, e90, e91, e7, e8]
              exact kP m hm
          · refine ⟨0, u, fun Z hz => hmod Z ⟨fun c => absurd c c1, fun _ => ⟨fun c => absurd c c2, fun _ => ⟨vi, fun c => ?_, fun _ => hz⟩⟩⟩, fun X Z hz => hcls X Z ⟨fun c => absurd c c1, fun _ => ⟨fun c => absurd c c2, fun _ => ⟨vi, fun c => ?_, fun _ _ => hz g hr0⟩⟩⟩⟩
            · rw [z2, nI_le0 (by omega)] at c
              omega
            · rw [z4] at c; cases c
