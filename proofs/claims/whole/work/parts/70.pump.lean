theorem fe_c {S P N R Q i c : Nat} {g : sg} {u : MS} (h : rl9 S P N R Q g u) (hi : i < 5) (hc : c ≤ 10) (h109 : u 109 i = nI c) : gI g 256 i 0 = nI c ∧ gI g 258 i 0 = u 111 i ∧ (u 111 i = 0 ∨ u 111 i = 1) ∧ (∃ w, w ≤ 4 ∧ gI g 257 i 0 = nI w ∧ u 110 i = nI w) ∧ ∀ j, j < c → gI g 259 i j = u 112 (10 * i + j) ∧ (∃ n, n < N ∧ u 112 (10 * i + j) = nI n) ∧ gI g 260 i j = u 113 (10 * i + j) ∧ ∃ t, t ≤ 3 ∧ gI g 261 i j = nI t ∧ u 114 (10 * i + j) = nI t ∧
    ((u 113 (10 * i + j) = 0 ∧ (u 111 i = 0 → t < 3)) ∨ ∃ q, q < Q ∧ gR g 262 i j = some q ∧ u 115 (10 * i + j) = nI q ∧ (u 113 (10 * i + j) = 1 ∨ (u 113 (10 * i + j) = 2 ∧ u 105 q = 1))) := by
  obtain ⟨c', w, f1, f2, f3, f4, f5, f6, f7, f8, f9⟩ := h.2.2.2.2.2.2.2.2.2.1 i hi
  have : c' = c := by
    rw [h109, nI_eq (by omega) (by omega)] at f4
    exact f4.symm
  subst this
  exact ⟨f3, f7, f8, ⟨w, f2, f5, f6⟩, f9⟩
theorem fe_A {S P N R Q i : Nat} {g : sg} {u : MS} (h : rl9 S P N R Q g u) (hi : i < 5) : gA g 259 i = some 10 ∧ gA g 260 i = some 10 ∧ gA g 261 i = some 10 ∧ gA g 262 i = some 10 := (h.1.2.2.1 i hi).2.2.2.2.2
theorem collect_p {S P N R Q i c : Nat} (hi : i < 5) (hc : c ≤ 10) : ∀ d j (u : MS), j + d = c → (∃ g, rl9 S P N R Q g u) → u 109 i = nI c →
    ∃ v, v 109 i = nI c ∧ (∃ g, rl9 S P N R Q g v) ∧ (∀ Z : MS → Prop, Z v → mWP M_Mod_collect 5 [qr 1 (some 0), qi (nI i), qi (nI (10 * i + j)), none] [] u (mV Z)) ∧
      ∀ g, rl9 S P N R Q g u → ∀ (X : Nat × (Nat → Int32)) (kk : Nat) (Z : sg → Prop), (∀ g', rl9 S P N R Q g' v → Z g') → nnWP X M_Fetch_settle kk 2 [qr 4 (some i), qi (nI j), none] [] g (zV Z) := by
  have vi : vp_in (nI i) 5 := (vpi (by omega)).mpr hi
  have li : (nI i).toNatClampNeg = i := nI_clamp (by omega)
  have e10 : (10 : Int32) * nI i = nI (10 * i) := by rw [nl_10, pk_mul]
  intro d
  induction d with
  | zero =>
    intro j u hj hw h109
    obtain rfl : j = c := by omega
    refine ⟨u, h109, hw, fun Z hZ => mb_Mod_collect_5 ⟨vi, fun _ => hZ, fun q => absurd ?_ q⟩, fun g h X kk Z hZ => b_Fetch_settle_2 ⟨fun _ => hZ g h, fun q => absurd ?_ q⟩⟩
    · rw [li, h109, e10, nI_add]; exact nI_le (Nat.le_refl _) (by omega)
    · rw [(fe_c h hi hc h109).1]; exact nI_le (Nat.le_refl _) (by omega)
  | succ d ih =>
    intro j u hj hw h109
    obtain ⟨g0, hg0⟩ := hw
    have hjc : j < c := by omega
    have hQ := hg0.2.2.2.2.2.2.2.2.1
    have hQ120 := hQ.1
    obtain ⟨-, -, h111, -, f9⟩ := fe_c hg0 hi hc h109
    obtain ⟨-, -, -, t, ht, -, k6, k7⟩ := f9 j hjc
    have l4 : (nI (10 * i + j)).toNatClampNeg = 10 * i + j := nI_clamp (by omega)
    have lj : (nI j).toNatClampNeg = j := nI_clamp (by omega)
    have v50 : vp_in (nI (10 * i + j)) 50 := (vpi (by omega)).mpr (by omega)
    have nm : ¬ nI (10 * i) + nI c ≤ nI (10 * i + j) := by rw [nI_add]; exact nI_ge (by omega) (by omega)
    have hd : ∀ Z : MS → Prop, ((¬ u 113 (10 * i + j) = 1 → mWP M_Mod_collect 45 [qr 1 (some 0), qi (nI i), qi (nI (10 * i + j)), none] [qi 0] u (mV Z)) ∧ (u 113 (10 * i + j) = 1 → vp_in (u 115 (10 * i + j)) 120 ∧ mWP M_Mod_collect 45 [qr 1 (some 0), qi (nI i), qi (nI (10 * i + j)), none] [qi (u 105 (u 115 (10 * i + j)).toNatClampNeg)] u (mV Z))) → mWP M_Mod_collect 5 [qr 1 (some 0), qi (nI i), qi (nI (10 * i + j)), none] [] u (mV Z) := by
      intro Z hZ
      refine mb_Mod_collect_5 ⟨vi, fun q => ?_, fun _ => ?_⟩
      · rw [li, h109, e10] at q; exact absurd q nm
      · rw [l4]; exact ⟨v50, hZ⟩
    have nc : ∀ {g : sg}, rl9 S P N R Q g u → ¬ gI g 256 i 0 ≤ nI j := fun h => by rw [(fe_c h hi hc h109).1]; exact nI_ge hjc (by omega)
    have same : (¬ u 113 (10 * i + j) = 1 ∨ ∃ q, q < Q ∧ u 113 (10 * i + j) = 1 ∧ u 115 (10 * i + j) = nI q ∧ u 105 q = 0) → ∃ v, v 109 i = nI c ∧ (∃ g, rl9 S P N R Q g v) ∧ (∀ Z : MS → Prop, Z v → mWP M_Mod_collect 5 [qr 1 (some 0), qi (nI i), qi (nI (10 * i + j)), none] [] u (mV Z)) ∧ ∀ g, rl9 S P N R Q g u → ∀ (X : Nat × (Nat → Int32)) (kk : Nat) (Z : sg → Prop), (∀ g', rl9 S P N R Q g' v → Z g') → nnWP X M_Fetch_settle kk 2 [qr 4 (some i), qi (nI j), none] [] g (zV Z) := by
      intro hcase
      obtain ⟨v, y1, y2, y3, y4⟩ := ih (j + 1) u (by omega) ⟨g0, hg0⟩ h109
      refine ⟨v, y1, y2, fun Z hZ => hd Z ⟨fun q => mb_Mod_collect_45 ⟨fun _ => ?_, fun q => absurd (by decide) q⟩, fun q => ?_⟩, fun g h X kk Z hZ => ?_⟩
      · rw [nI_1]; exact y3 Z hZ
      · rcases hcase with z | ⟨q', hq', z1, z2, z3⟩
        · exact absurd q z
        · rw [z2, nI_clamp (show q' < 2 ^ 31 by omega), z3]
          refine ⟨(vpi (by omega)).mpr (by omega), mb_Mod_collect_45 ⟨fun _ => ?_, fun q => absurd (by decide) q⟩⟩
          rw [nI_1]; exact y3 Z hZ
      · obtain ⟨-, -, -, -, f9'⟩ := fe_c h hi hc h109
        obtain ⟨-, -, k3, t', -, -, -, k7'⟩ := f9' j hjc
        obtain ⟨-, A260, A261, A262⟩ := fe_A h hi
        refine b_Fetch_settle_2 ⟨fun q => absurd q (nc h), fun _ => ⟨A262, (vpi (by omega)).mpr (by omega), A260, ?_⟩⟩
        rw [lj, k3, nI_1]
        refine ⟨fun _ => y4 g h X kk Z hZ, fun q => ⟨fun _ => y4 g h X kk Z hZ, fun a1 ha1 => ?_⟩⟩
        rcases hcase with z | ⟨q', hq', z1, z2, z3⟩
        · exact absurd q z
        · rcases k7' with ⟨z, -⟩ | ⟨q2, hq2, m1, m2, -⟩
          · rw [z] at q; exact absurd q (by decide)
          · have : q2 = q' := by
              rw [z2, nI_eq (by omega) (by omega)] at m2
              exact m2.symm
            subst this
            rw [m1] at ha1
            rw [← Option.some.inj ha1, (h.2.2.2.2.2.2.2.2.1.2.2.2.2.1 q2 hq2).2.2.2.2.2.1, z3]
            exact ⟨fun q => absurd rfl q, fun _ => y4 g h X kk Z hZ⟩
    by_cases c1 : u 113 (10 * i + j) = 1
    · rcases k7 with ⟨z, -⟩ | ⟨q, hq, -, z2, -⟩
      · rw [c1] at z; exact absurd z (by decide)
      obtain ⟨-, -, -, -, -, -, ⟨s, hs, hs2⟩, -⟩ := hQ.2.2.2.2.1 q hq
      have lq : (nI q).toNatClampNeg = q := nI_clamp (by omega)
      have hgq : ∀ {g : sg}, rl9 S P N R Q g u → gR g 262 i j = some q ∧ gI g 580 q 0 = nI s ∧ gI g 261 i j = nI t ∧ gI g 260 i j = 1 ∧ gI g 258 i 0 = u 111 i := by
        intro g h
        obtain ⟨-, k2, -, -, f9'⟩ := fe_c h hi hc h109
        obtain ⟨-, -, k3, t', ht', k5, k6', k7'⟩ := f9' j hjc
        have htt : t' = t := by
          rw [k6, nI_eq (by omega) (by omega)] at k6'
          exact k6'.symm
        subst htt
        rcases k7' with ⟨z, -⟩ | ⟨q2, hq2, m1, m2, -⟩
        · rw [z] at c1; exact absurd c1 (by decide)
        · have : q2 = q := by
            rw [z2, nI_eq (by omega) (by omega)] at m2
            exact m2.symm
          subst this
          exact ⟨m1, by rw [(h.2.2.2.2.2.2.2.2.1.2.2.2.2.1 q2 hq2).2.2.2.2.2.1, hs2], k5, by rw [k3, c1], k2⟩
      have hcl : ∀ {g : sg}, rl9 S P N R Q g u → ∀ (X : Nat × (Nat → Int32)) (kk : Nat) (Z : sg → Prop), ((¬ nI s = 0 → (¬ nI s = 1 → ∀ g1, g1 = pI g 260 i j 0 → (¬ u 111 i = 0 → nnWP X M_Fetch_settle kk 2 [qr 4 (some i), qi (nI (j + 1)), none] [] (pI g1 258 i 0 1) (zV Z)) ∧ (u 111 i = 0 → (t < 3 → nnWP X M_Fetch_settle kk 2 [qr 4 (some i), qi (nI (j + 1)), none] [] (pI g1 258 i 0 0) (zV Z)) ∧ (¬ t < 3 → nnWP X M_Fetch_settle kk 2 [qr 4 (some i), qi (nI (j + 1)), none] [] (pI g1 258 i 0 1) (zV Z)))) ∧ (nI s = 1 → nnWP X M_Fetch_settle kk 2 [qr 4 (some i), qi (nI (j + 1)), none] [] (pI g 260 i j 2) (zV Z))) ∧ (nI s = 0 → nnWP X M_Fetch_settle kk 2 [qr 4 (some i), qi (nI (j + 1)), none] [] g (zV Z))) → nnWP X M_Fetch_settle kk 2 [qr 4 (some i), qi (nI j), none] [] g (zV Z) := by
        intro g h X kk Z hZ
        obtain ⟨-, A260, A261, A262⟩ := fe_A h hi
        obtain ⟨p1, p2, p3, p4, p5⟩ := hgq h
        refine b_Fetch_settle_2 ⟨fun q => absurd q (nc h), fun _ => ⟨A262, (vpi (by omega)).mpr (by omega), A260, ?_⟩⟩
        rw [lj, p4, p1, nI_1]
        refine ⟨fun z => absurd rfl z, fun _ => ⟨fun z => (by cases z), fun a1 ha1 => ?_⟩⟩
        cases ha1
        rw [p2]
        refine ⟨fun z => ⟨fun z1 g1 y1 => ?_, fun z1 g5 y5 => by subst y5; exact (hZ.1 z).2 z1⟩, hZ.2⟩
        have e258 : gI g1 258 i 0 = u 111 i := by rw [y1, gI_pI, if_neg (by omega)]; exact p5
        have e261 : gI g1 261 i j = nI t := by rw [y1, gI_pI, if_neg (by omega)]; exact p3
        rw [e258, e261, show (3 : Int32) = nI 3 from rfl, nI_ltI (by omega) (by omega)]
        refine ⟨fun w g2 y2 => by subst y2; exact ((hZ.1 z).1 z1 g1 y1).1 w, fun w => ⟨by rw [y1]; exact A261, fun w2 g3 y3 => by subst y3; exact (((hZ.1 z).1 z1 g1 y1).2 w).1 w2, fun w2 g4 y4 => by subst y4; exact (((hZ.1 z).1 z1 g1 y1).2 w).2 w2⟩⟩
      obtain rfl | rfl | hs23 : s = 0 ∨ s = 1 ∨ 2 ≤ s := by omega
      · exact same (Or.inr ⟨q, hq, c1, z2, hs2⟩)
      · -- an answer
        have hrl : ∀ {g : sg}, rl9 S P N R Q g u → rl9 S P N R Q (pI g 260 i j 2) (mu u 113 (10 * i + j) 2) := by
          intro g h
          obtain ⟨p1, p2, p3, p4, p5⟩ := hgq h
          refine rl_seg h hi hjc hc h109 rfl rfl (fun f a y _ w => by rw [gI_pI, if_neg (by omega)]) (fun _ _ _ _ => rfl) (fun f y _ w => by rw [mu_at, if_neg (by omega)]) ⟨?_, ?_, ?_⟩ ⟨?_, t, ht, ?_, ?_, Or.inr ⟨q, hq, p1, ?_, Or.inr ⟨?_, hs2⟩⟩⟩
          · rw [gI_pI, if_neg (by omega), mu_at, if_neg (by omega)]; exact p5
          · rw [mu_at, if_neg (by omega)]; exact h111
          · rw [mu_at, if_neg (by omega)]; exact fun z => z
          · rw [gI_pI, if_pos ⟨rfl, rfl, rfl⟩, mu_at, if_pos ⟨rfl, rfl⟩]
          · rw [gI_pI, if_neg (by omega)]; exact p3
          · rw [mu_at, if_neg (by omega)]; exact k6
          · rw [mu_at, if_neg (by omega)]; exact z2
          · rw [mu_at, if_pos ⟨rfl, rfl⟩]
        obtain ⟨v, y1, y2, y3, y4⟩ := ih (j + 1) (mu u 113 (10 * i + j) 2) (by omega) ⟨_, hrl hg0⟩ (by rw [mu_at, if_neg (by omega)]; exact h109)
        refine ⟨v, y1, y2, fun Z hZ => hd Z ⟨fun z => absurd c1 z, fun _ => ?_⟩, fun g h X kk Z hZ => hcl h X kk Z ⟨fun _ => ⟨fun z => absurd rfl z, fun _ => y4 _ (hrl h) X kk Z hZ⟩, fun z => absurd z (by decide)⟩⟩
        rw [z2, lq, hs2]
        refine ⟨(vpi (by omega)).mpr (by omega), mb_Mod_collect_45 ⟨fun z => absurd z (by decide), fun _ => ⟨fun z => absurd rfl z, fun _ => ⟨v50, fun u6 y6 => ⟨vi, ?_⟩⟩⟩⟩⟩
        rw [l4] at y6
        subst y6
        rw [li, nI_1]
        have e111 : mu u 113 (10 * i + j) 2 111 i = u 111 i := by rw [mu_at, if_neg (by omega)]
        rw [e111]
        refine ⟨fun w u7 y7 => ?_, fun w => ⟨fun _ u8 y8 => ?_, fun z => absurd (by decide) z⟩⟩
        · rw [mu_id (e111.trans (h111.resolve_left w))] at y7
          subst y7
          exact y3 Z hZ
        · rw [mu_id (e111.trans w)] at y8
          subst y8
          exact y3 Z hZ
      · -- a failure
        have n0 : ¬ nI s = 0 := nI_ne0 (by omega) (by omega)
        have n1 : ¬ nI s = 1 := by rw [show (1 : Int32) = nI 1 from rfl, nI_eq (by omega) (by omega)]; omega
        have le0 : ¬ nI s ≤ 0 := by rw [nI_le0 (by omega)]; omega
        have le1 : ¬ nI s ≤ 1 := by rw [show (1 : Int32) = nI 1 from rfl, nI_leI (by omega) (by omega)]; omega
        have fin : ∀ x : Int32, (x = 0 ∨ x = 1) → (x = 0 → u 111 i = 0 ∧ t < 3) → ((¬ u 111 i = 0 → x = 1) ∧ (u 111 i = 0 → (t < 3 → x = 0) ∧ (¬ t < 3 → x = 1))) → ∃ v, v 109 i = nI c ∧ (∃ g, rl9 S P N R Q g v) ∧ (∀ Z : MS → Prop, Z v → mWP M_Mod_collect 5 [qr 1 (some 0), qi (nI i), qi (nI (10 * i + j)), none] [] u (mV Z)) ∧ ∀ g, rl9 S P N R Q g u → ∀ (X : Nat × (Nat → Int32)) (kk : Nat) (Z : sg → Prop), (∀ g', rl9 S P N R Q g' v → Z g') → nnWP X M_Fetch_settle kk 2 [qr 4 (some i), qi (nI j), none] [] g (zV Z) := by
          intro x hx01 hx hx2
          have hrl : ∀ {g : sg}, rl9 S P N R Q g u → rl9 S P N R Q (pI (pI g 260 i j 0) 258 i 0 x) (mu (mu u 113 (10 * i + j) 0) 111 i x) := by
            intro g h
            obtain ⟨p1, p2, p3, p4, p5⟩ := hgq h
            have e1 : mu (mu u 113 (10 * i + j) 0) 111 i x 111 i = x := by rw [mu_at, if_pos ⟨rfl, rfl⟩]
            have e2 : mu (mu u 113 (10 * i + j) 0) 111 i x 113 (10 * i + j) = 0 := by rw [mu_at, if_neg (by omega), mu_at, if_pos ⟨rfl, rfl⟩]
            refine rl_seg h hi hjc hc h109 rfl rfl (fun f a y w0 w => by rw [gI_pI, if_neg w0, gI_pI, if_neg (by omega)]) (fun _ _ _ _ => rfl) (fun f y w0 w => by rw [mu_at, if_neg w0, mu_at, if_neg (by omega)]) ⟨?_, ?_, ?_⟩ ⟨?_, t, ht, ?_, ?_, Or.inl ⟨e2, ?_⟩⟩
            · rw [gI_pI, if_pos ⟨rfl, rfl, rfl⟩, e1]
            · rw [e1]; exact hx01
            · rw [e1]; exact fun z => (hx z).1
            · rw [gI_pI, if_neg (by omega), gI_pI, if_pos ⟨rfl, rfl, rfl⟩, e2]
            · rw [gI_pI, if_neg (by omega), gI_pI, if_neg (by omega)]; exact p3
            · rw [mu_at, if_neg (by omega), mu_at, if_neg (by omega)]; exact k6
            · rw [e1]; exact fun z => (hx z).2
          obtain ⟨v, y1, y2, y3, y4⟩ := ih (j + 1) (mu (mu u 113 (10 * i + j) 0) 111 i x) (by omega) ⟨_, hrl hg0⟩ (by rw [mu_at, if_neg (by omega), mu_at, if_neg (by omega)]; exact h109)
          refine ⟨v, y1, y2, fun Z hZ => hd Z ⟨fun z => absurd c1 z, fun _ => ?_⟩, fun g h X kk Z hZ => hcl h X kk Z ⟨fun _ => ⟨fun _ g1 yy => ⟨fun w => ?_, fun w => ⟨fun w2 => ?_, fun w2 => ?_⟩⟩, fun z => absurd z n1⟩, fun z => absurd z n0⟩⟩
          · rw [z2, lq, hs2]
            refine ⟨(vpi (by omega)).mpr (by omega), mb_Mod_collect_45 ⟨fun z => absurd z le0, fun _ => ⟨fun _ => ⟨v50, fun u1 yy => ⟨vi, ?_⟩⟩, fun z => absurd z n1⟩⟩⟩
            rw [l4] at yy
            subst yy
            rw [li, l4, nI_1]
            have e111 : mu u 113 (10 * i + j) 0 111 i = u 111 i := by rw [mu_at, if_neg (by omega)]
            have e114 : mu u 113 (10 * i + j) 0 114 (10 * i + j) = nI t := by rw [mu_at, if_neg (by omega)]; exact k6
            rw [e111, e114, show (3 : Int32) = nI 3 from rfl, nI_eq (by omega) (by omega)]
            refine ⟨fun w u2 ya => ?_, fun w => ⟨fun z => absurd z le1, fun _ => ⟨fun w2 u4 ya => ?_, fun w2 u5 ya => ?_⟩⟩⟩
            · rw [hx2.1 w] at y3
              subst ya
              exact y3 Z hZ
            · rw [(hx2.2 w).1 (by omega)] at y3
              subst ya
              exact y3 Z hZ
            · rw [(hx2.2 w).2 (by omega)] at y3
              subst ya
              exact y3 Z hZ
          · have r := hrl h
            rw [hx2.1 w] at r y4
            subst yy
            exact y4 _ r X kk Z hZ
          · have r := hrl h
            rw [(hx2.2 w).1 w2] at r y4
            subst yy
            exact y4 _ r X kk Z hZ
          · have r := hrl h
            rw [(hx2.2 w).2 w2] at r y4
            subst yy
            exact y4 _ r X kk Z hZ
        by_cases w : u 111 i = 0
        · by_cases w2 : t < 3
          · exact fin 0 (Or.inl rfl) (fun _ => ⟨w, w2⟩) ⟨fun z => absurd w z, fun _ => ⟨fun _ => rfl, fun z => absurd w2 z⟩⟩
          · exact fin 1 (Or.inr rfl) (fun z => absurd z (by decide)) ⟨fun z => absurd w z, fun _ => ⟨fun z => absurd z w2, fun _ => rfl⟩⟩
        · exact fin 1 (Or.inr rfl) (fun z => absurd z (by decide)) ⟨fun _ => rfl, fun z => absurd z w⟩
    · exact same (Or.inl c1)
/-- how many segments are in a state -/
def cntN (u : MS) (i : Nat) (s : Int32) : Nat → Nat
  | 0 => 0
  | j + 1 => if u 113 (10 * i + j) = s then cntN u i s j + 1 else cntN u i s j
theorem cntN_I (u : MS) (i : Nat) (s : Int32) : ∀ n, cntI u i s n = nI (cntN u i s n) ∧ cntN u i s n ≤ n
  | 0 => ⟨rfl, Nat.le_refl _⟩
  | n + 1 => by
    obtain ⟨h1, h2⟩ := cntN_I u i s n
    show (if u 113 (10 * i + n) = s then cntI u i s n + 1 else cntI u i s n) = nI (if u 113 (10 * i + n) = s then cntN u i s n + 1 else cntN u i s n) ∧ (if u 113 (10 * i + n) = s then cntN u i s n + 1 else cntN u i s n) ≤ n + 1
    split
    · rw [h1, nI_1]; exact ⟨rfl, by omega⟩
    · exact ⟨h1, by omega⟩
theorem cntN_c {u v : MS} {i : Nat} {s : Int32} : ∀ n, (∀ j, j < n → v 113 (10 * i + j) = u 113 (10 * i + j)) → cntN v i s n = cntN u i s n
  | 0, _ => rfl
  | n + 1, h => by
    show (if v 113 (10 * i + n) = s then cntN v i s n + 1 else cntN v i s n) = (if u 113 (10 * i + n) = s then cntN u i s n + 1 else cntN u i s n)
    rw [cntN_c n (fun j hj => h j (by omega)), h n (by omega)]
theorem cntN_1 {u v : MS} {i x : Nat} (hu : u 113 (10 * i + x) = 0) (hv : v 113 (10 * i + x) = 1) (ho : ∀ j, j ≠ x → v 113 (10 * i + j) = u 113 (10 * i + j)) : ∀ n, x < n → cntN v i 1 n = cntN u i 1 n + 1
  | 0, h => absurd h (by omega)
  | n + 1, h => by
    show (if v 113 (10 * i + n) = 1 then cntN v i 1 n + 1 else cntN v i 1 n) = (if u 113 (10 * i + n) = 1 then cntN u i 1 n + 1 else cntN u i 1 n) + 1
    by_cases e : n = x
    · subst e
      rw [if_pos hv, hu, if_neg (by decide), cntN_c n (fun j hj => ho j (by omega))]
    · rw [ho n e, cntN_1 hu hv ho n (by omega)]
      split <;> rfl
theorem pump_full {i c w m : Nat} {u : MS} {l2 l3 : Int32} {Z : Int32 → MS → Prop} (hi : i < 5) (hc : c ≤ 10) (hw : w ≤ 4) (h109 : u 109 i = nI c) (h110 : u 110 i = nI w) (hm : cntN u i 1 c = m) (hf : w ≤ m) (hZ : Z l2 u) : ∀ d j, j + d = c → mWP M_Mod_pump 76 [qr 1 (some 0), qi (nI i), qi l2, qi l3, qi (nI (10 * i + j)), none] [] u (mI Z) := by
  have vi : vp_in (nI i) 5 := (vpi (by omega)).mpr hi
  have li : (nI i).toNatClampNeg = i := nI_clamp (by omega)
  have e10 : (10 : Int32) * nI i = nI (10 * i) := by rw [nl_10, pk_mul]
  intro d
  induction d with
  | zero =>
    intro j hj
    refine mb_Mod_pump_76 ⟨vi, fun _ => hZ, fun q => absurd ?_ q⟩
    rw [li, h109, e10, nI_add]; exact nI_le (by omega) (by omega)
  | succ d ih =>
    intro j hj
    have nx : mWP M_Mod_pump 76 [qr 1 (some 0), qi (nI i), qi l2, qi l3, qi (nI (10 * i + j) + 1), none] [] u (mI Z) := by
      rw [nI_1]; exact ih (j + 1) (by omega)
    refine mb_Mod_pump_76 ⟨vi, fun _ => hZ, fun _ => ⟨fun _ => hZ, fun _ => ⟨(vpi (by omega)).mpr (by omega), fun _ => nx, fun _ => c_Mod_inState hi hc h109 ⟨fun _ => nx, fun q => absurd ?_ q⟩⟩⟩⟩
    rw [li, h110, (cntN_I u i 1 c).1, hm]
    exact nI_le hf (by have := (cntN_I u i 1 c).2; omega)
theorem pump_loop {S P N R i c w a : Nat} (hi : i < 5) (hc : c ≤ 10) (hw : w ≤ 4) (ha : a ≤ 10) : ∀ d j k (u : MS) Q, j + d = c → k ≤ j → (∃ g, rl9 S P N R Q g u) → u 109 i = nI c → u 110 i = nI w → u 111 i = 0 → cntN u i 1 c = a + k →
    ∃ r v, (∀ Z : Int32 → MS → Prop, Z r v → mWP M_Mod_pump 76 [qr 1 (some 0), qi (nI i), qi (nI k), qi 1, qi (nI (10 * i + j)), none] [] u (mI Z)) ∧
      ∀ g, rl9 S P N R Q g u → ∀ (X : Nat × (Nat → Int32)) (kk : Nat) (Z : Int32 → sg → Prop), 7 * d ≤ kk → (∀ g', RL g' v → Z r g') → nnWP X M_Net_pump kk 91 [qr 0 (some 0), qi (nI i), qr 4 (some i), qi (nI k), qi (nI w - nI a), qi (nI j), none] [] g (zI Z) := by
  have vi : vp_in (nI i) 5 := (vpi (by omega)).mpr hi
  have li : (nI i).toNatClampNeg = i := nI_clamp (by omega)
  have e10 : (10 : Int32) * nI i = nI (10 * i) := by rw [nl_10, pk_mul]
  intro d
  induction d with
  | zero =>
    intro j k u Q hj hk hwit h109 h110 h111 hcnt
    obtain rfl : j = c := by omega
    refine ⟨nI k, u, fun Z hZ => mb_Mod_pump_76 ⟨vi, fun _ => hZ, fun q => absurd ?_ q⟩, fun g h X kk Z _ hZ => b_Net_pump_91 ⟨i, rfl, fun _ => hZ g ⟨S, P, N, R, Q, h⟩, fun q => absurd ?_ q⟩⟩
    · rw [li, h109, e10, nI_add]; exact nI_le (by omega) (by omega)
    · rw [(fe_c h hi hc h109).1]; exact nI_le (by omega) (by omega)
  | succ d ih =>
    intro j k u Q hj hk hwit h109 h110 h111 hcnt
    have hjc : j < c := by omega
    have hcle := (cntN_I u i 1 c).2
    have l4 : (nI (10 * i + j)).toNatClampNeg = 10 * i + j := nI_clamp (by omega)
    have lj : (nI j).toNatClampNeg = j := nI_clamp (by omega)
    have hroom : nI w - nI a ≤ nI k ↔ w ≤ a + k := by
      rw [Int32.le_iff_toInt_le, pk_sub_toInt (by omega) (by omega), nI_toInt (by omega)]
      omega
    by_cases hfull : w ≤ a + k
    · refine ⟨nI k, u, fun Z hZ => pump_full hi hc hw h109 h110 hcnt hfull hZ (d + 1) j hj, fun g h X kk Z _ hZ => b_Net_pump_91 ⟨i, rfl, fun _ => hZ g ⟨S, P, N, R, Q, h⟩, fun _ => ⟨fun _ => hZ g ⟨S, P, N, R, Q, h⟩, fun q => absurd (hroom.mpr hfull) q⟩⟩⟩
    · have nroom : ¬ nI w - nI a ≤ nI k := fun q => hfull (hroom.mp q)
      have nm : ¬ nI (10 * i) + nI c ≤ nI (10 * i + j) := by rw [nI_add]; exact nI_ge (by omega) (by omega)
      have hmd : ∀ Z : Int32 → MS → Prop, ((¬ u 113 (10 * i + j) = 0 → mWP M_Mod_pump 76 [qr 1 (some 0), qi (nI i), qi (nI k), qi 1, qi (nI (10 * i + (j + 1))), none] [] u (mI Z)) ∧ (u 113 (10 * i + j) = 0 → mMT M_Mod_newRequest [qr 1 (some 0), qi (nI i), qi (u 112 (10 * i + j)), qi 0, qi 9] u (mI fun r2 u2 => (r2 < 0 → mWP M_Mod_pump 76 [qr 1 (some 0), qi (nI i), qi (nI k), qi 0, qi (nI (10 * i + (j + 1))), none] [] u2 (mI Z)) ∧ (¬ r2 < 0 → mWP M_Mod_pump 76 [qr 1 (some 0), qi (nI i), qi (nI (k + 1)), qi 1, qi (nI (10 * i + (j + 1))), none] [] (mu (mu (mu u2 114 (10 * i + j) (u2 114 (10 * i + j) + 1)) 113 (10 * i + j) 1) 115 (10 * i + j) r2) (mI Z))))) → mWP M_Mod_pump 76 [qr 1 (some 0), qi (nI i), qi (nI k), qi 1, qi (nI (10 * i + j)), none] [] u (mI Z) := by
        intro Z hZ
        refine mb_Mod_pump_76 ⟨vi, fun q => ?_, fun _ => ⟨fun q => absurd q (by decide), fun _ => ?_⟩⟩
        · rw [li, h109, e10] at q; exact absurd q nm
        · rw [l4, nI_1, nI_1]
          refine ⟨(vpi (by omega)).mpr (by omega), hZ.1, fun q => c_Mod_inState hi hc h109 ⟨fun z => ?_, fun _ => mmono (hZ.2 q) ?_⟩⟩
          · rw [li, h110, (cntN_I u i 1 c).1, hcnt, nI_leI (by omega) (by omega)] at z
            exact absurd z hfull
          · rintro _ μ ⟨r, rfl, hr⟩
            refine ⟨r, rfl, fun z => ⟨fun _ => hr.1 z, fun z2 => absurd rfl z2⟩, fun z => ⟨fun z2 => absurd z2 (by decide), fun _ u6 y6 u7 y7 u8 y8 => ?_⟩⟩
            subst y8 y7 y6
            exact hr.2 z
      have nc : ∀ {g : sg}, rl9 S P N R Q g u → ¬ gI g 256 i 0 ≤ nI j := fun h => by rw [(fe_c h hi hc h109).1]; exact nI_ge hjc (by omega)
      by_cases h0 : u 113 (10 * i + j) = 0
      · obtain ⟨g0, hg0⟩ := hwit
        have hQ := hg0.2.2.2.2.2.2.2.2.1
        have hQ120 := hQ.1
        obtain ⟨-, -, -, -, f9⟩ := fe_c hg0 hi hc h109
        obtain ⟨-, ⟨n, hn, k2⟩, -, t, ht, -, k6, k7⟩ := f9 j hjc
        have ht3 : t < 3 := by
          rcases k7 with ⟨-, z⟩ | ⟨q, -, -, -, z | ⟨z, -⟩⟩
          · exact z h111
          · rw [h0] at z; exact absurd z (by decide)
          · rw [h0] at z; exact absurd z (by decide)
        have hcl : ∀ {g : sg}, rl9 S P N R Q g u → ∀ (X : Nat × (Nat → Int32)) (kk : Nat) (Z : Int32 → sg → Prop), 7 ≤ kk → nnMT X M_Net_openRequest 7 [qr 0 (some 0), qr 6 (some i), qi (nI n), qi (nI 0), qi (nI 9)] g (zI fun r1 g1 => gExt g g1 → (0 ≤ r1 → gA g1 9 0 = some 120 ∧ vp_in r1 120 ∧ nnMT X M_Fetch_markAsked 0 [qr 4 (some i), qi (nI j), qr 9 (gR g1 9 0 r1.toNatClampNeg)] g1 (zV fun g2 => gExt g1 g2 → nnWP X M_Net_pump (kk - 7) 91 [qr 0 (some 0), qi (nI i), qr 4 (some i), qi (nI k + 1), qi (nI w - nI a), qi (nI j + 1), none] [] g2 (zI Z))) ∧ (¬ 0 ≤ r1 → Z (nI k) g1)) → nnWP X M_Net_pump kk 91 [qr 0 (some 0), qi (nI i), qr 4 (some i), qi (nI k), qi (nI w - nI a), qi (nI j), none] [] g (zI Z) := by
          intro g h X kk Z hkk hZ
          obtain ⟨-, -, -, -, f9'⟩ := fe_c h hi hc h109
          obtain ⟨m1, -, m3, -⟩ := f9' j hjc
          obtain ⟨A259, A260, -, -⟩ := fe_A h hi
          refine b_Net_pump_91 ⟨i, rfl, fun q => absurd q (nc h), fun _ => ⟨fun q => absurd q nroom, fun _ => ⟨A260, (vpi (by omega)).mpr (by omega), fun _ => ⟨h.1.2.1.2.2.1, vi, A259, hkk, ?_⟩, fun q => ?_⟩⟩⟩
          · rw [lj, li, h.1.1.2.1 i hi, m1, k2]
            exact hZ
          · rw [lj, m3] at q
            exact absurd h0 q
        by_cases hQlt : Q < 120
        · obtain ⟨⟨gw, hgw⟩, mo, co⟩ := open_p (f := 0) (h0 := 9) hg0 hQlt hi hn (by omega) (by omega)
          obtain ⟨V, hV⟩ : ∃ V, V = orU u Q R N i n 0 9 := ⟨_, rfl⟩
          have hi9 : hi9 u V := by rw [hV]; exact hi9_or
          rw [← hV] at hgw mo
          have V114 : V 114 (10 * i + j) = nI t := by rw [hi9 _ _ (by omega)]; exact k6
          have V109 : V 109 i = nI c := by rw [hi9 _ _ (by omega)]; exact h109
          have V110 : V 110 i = nI w := by rw [hi9 _ _ (by omega)]; exact h110
          have V111 : V 111 i = 0 := by rw [hi9 _ _ (by omega)]; exact h111
          obtain ⟨W, hW⟩ : ∃ W, W = mu (mu (mu V 114 (10 * i + j) (V 114 (10 * i + j) + 1)) 113 (10 * i + j) 1) 115 (10 * i + j) (nI Q) := ⟨_, rfl⟩
          have W114 : W 114 (10 * i + j) = nI (t + 1) := by rw [hW, mu_at, if_neg (by omega), mu_at, if_neg (by omega), mu_at, if_pos ⟨rfl, rfl⟩, V114, nI_1]
          have W113 : W 113 (10 * i + j) = 1 := by rw [hW, mu_at, if_neg (by omega), mu_at, if_pos ⟨rfl, rfl⟩]
          have W115 : W 115 (10 * i + j) = nI Q := by rw [hW, mu_at, if_pos ⟨rfl, rfl⟩]
          have WU : ∀ f y, ¬ (113 ≤ f ∧ f ≤ 115 ∧ y = 10 * i + j) → W f y = V f y := fun f y q => by rw [hW, mu_at, if_neg (by omega), mu_at, if_neg (by omega), mu_at, if_neg (by omega)]
          have hrl : ∀ {g : sg}, rl9 S P N R (Q + 1) g V → rl9 S P N R (Q + 1) (pR (pI (pI g 260 i j 1) 261 i j (nI (t + 1))) 262 i j (some Q)) W := by
            intro g h
            obtain ⟨-, q2, -, -, -⟩ := fe_c h hi hc V109
            refine rl_seg h hi hjc hc V109 rfl rfl (fun f a y _ w => by rw [gI_pR, gI_pI, if_neg (by omega), gI_pI, if_neg (by omega)]) (fun f a y q => by rw [gR_pR, if_neg q]; rfl) (fun f y _ q => WU f y q) ⟨?_, ?_, ?_⟩ ⟨?_, t + 1, by omega, ?_, W114, Or.inr ⟨Q, by omega, ?_, W115, Or.inl W113⟩⟩
            · rw [gI_pR, gI_pI, if_neg (by omega), gI_pI, if_neg (by omega), WU 111 i (by omega)]; exact q2
            · rw [WU 111 i (by omega)]; exact Or.inl V111
            · exact fun _ => V111
            · rw [gI_pR, gI_pI, if_neg (by omega), gI_pI, if_pos ⟨rfl, rfl, rfl⟩, W113]
            · rw [gI_pR, gI_pI, if_pos ⟨rfl, rfl, rfl⟩]
            · rw [gR_pR, if_pos ⟨rfl, rfl, rfl⟩]
          have Wc : cntN W i 1 c = a + (k + 1) := by
            have e1 : cntN V i 1 c = cntN u i 1 c := cntN_c c fun j' _ => hi9 _ _ (by omega)
            rw [cntN_1 (u := V) (x := j) (by rw [hi9 _ _ (by omega)]; exact h0) W113 (fun j' hj' => WU _ _ (by omega)) c hjc, e1, hcnt]
            omega
          obtain ⟨r, v, y1, y2⟩ := ih (j + 1) (k + 1) W (Q + 1) (by omega) (by omega) ⟨_, hrl hgw⟩ (by rw [WU 109 i (by omega)]; exact V109) (by rw [WU 110 i (by omega)]; exact V110) (by rw [WU 111 i (by omega)]; exact V111) Wc
          refine ⟨r, v, fun Z hZ => hmd Z ⟨fun q => absurd h0 q, fun _ => ?_⟩, fun g h X kk Z hkk hZ => hcl h X kk Z (by omega) ?_⟩
          · rw [k2]
            refine mo _ ⟨fun q => absurd q (nI_pos (by omega)), fun _ => ?_⟩
            rw [← hW]
            exact y1 Z hZ
          · obtain ⟨-, -, co'⟩ := open_p (f := 0) (h0 := 9) h hQlt hi hn (by omega) (by omega)
            rw [← hV] at co'
            refine co' X _ fun g1 hg1 _ => ⟨fun _ => ⟨hg1.1.2.1.2.2.2.2.2.1, (vpi (by omega)).mpr (by omega), ?_⟩, fun q => absurd (nI_pos' (by omega)) q⟩
            rw [nI_clamp (show Q < 2 ^ 31 by omega), (hg1.2.2.2.2.2.2.2.2.1.2.2.2.2.1 Q (by omega)).1, nI_1, nI_1]
            obtain ⟨-, B260, B261, B262⟩ := fe_A hg1 hi
            obtain ⟨-, -, -, -, f9'⟩ := fe_c hg1 hi hc V109
            obtain ⟨-, -, -, t', ht', k5', k6', -⟩ := f9' j hjc
            have htt : t' = t := by
              rw [V114, nI_eq (by omega) (by omega)] at k6'
              exact k6'.symm
            subst htt
            refine t_Fetch_markAsked ⟨B260, (vpi (by omega)).mpr (by omega), fun x1 z1 => ⟨by subst z1; exact B261, fun x2 z2 => ⟨by subst z2 z1; exact B262, fun x3 z3 _ => ?_⟩⟩⟩
            rw [lj] at z1 z2 z3
            have e261 : gI x1 261 i j = nI t' := by rw [z1, gI_pI, if_neg (by omega)]; exact k5'
            rw [e261, nI_1] at z2
            subst z3 z2 z1
            exact y2 _ (hrl hg1) X (kk - 7) Z (by omega) hZ
        · obtain rfl : Q = 120 := by omega
          refine ⟨nI k, u, fun Z hZ => hmd Z ⟨fun q => absurd h0 q, fun _ => mt_Mod_newRequest ⟨fun q => absurd hQ.2.2.2.1 q, fun _ => ⟨fun _ => ?_, fun q => absurd (by decide) q⟩⟩⟩, fun g h X kk Z hkk hZ => hcl h X kk Z (by omega) (t_Net_openRequest ⟨fun q => ?_, fun _ _ => ⟨fun q => absurd q (by decide), fun _ => hZ g ⟨S, P, N, R, 120, h⟩⟩⟩)⟩
          · exact mb_Mod_pump_76 ⟨vi, fun _ => hZ, fun _ => ⟨fun _ => hZ, fun q => absurd rfl q⟩⟩
          · rw [h.2.2.2.2.2.2.2.2.1.2.2.1] at q
            exact absurd q (by decide)
      · obtain ⟨r, v, y1, y2⟩ := ih (j + 1) k u Q (by omega) (by omega) hwit h109 h110 h111 hcnt
        refine ⟨r, v, fun Z hZ => hmd Z ⟨fun _ => y1 Z hZ, fun q => absurd q h0⟩, fun g h X kk Z hkk hZ => ?_⟩
        obtain ⟨-, -, -, -, f9'⟩ := fe_c h hi hc h109
        obtain ⟨-, -, m3, -⟩ := f9' j hjc
        obtain ⟨-, A260, -, -⟩ := fe_A h hi
        refine b_Net_pump_91 ⟨i, rfl, fun q => absurd q (nc h), fun _ => ⟨fun q => absurd q nroom, fun _ => ⟨A260, (vpi (by omega)).mpr (by omega), fun q => ?_, fun _ => ?_⟩⟩⟩
        · rw [lj, m3] at q
          exact absurd q h0
        · rw [nI_1]
          exact y2 g h X kk Z (by omega) hZ
