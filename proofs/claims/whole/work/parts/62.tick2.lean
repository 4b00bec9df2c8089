theorem rEn_row {N P i c : Nat} {ε : Nat → Nat} {g : sg} {u v : MS} (h : rEn N P i c ε g u) (h92 : v 92 i = u 92 i) (hr : ∀ j, j < c → rowF v i j = rowF u i j) : rEn N P i c ε g v := by
  have h3 : ∀ k j, j < c → 93 ≤ k → k ≤ 95 → v k (6 * i + j) = u k (6 * i + j) := by
    intro k j hj k1 k2
    have := congrFun (congrFun (hr j hj) k) 0
    rw [row_3 k1 k2, row_3 k1 k2] at this
    exact this
  have h6 : ∀ k j f, j < c → 96 ≤ k → k ≤ 100 → f < 5 → v k (5 * (6 * i + j) + f) = u k (5 * (6 * i + j) + f) := by
    intro k j f hj k1 k2 hf
    have := congrFun (congrFun (hr j hj) k) f
    rw [row_6 k1 k2 hf, row_6 k1 k2 hf] at this
    exact this
  obtain ⟨e1, e2, e3, e4, e5, e6, e7⟩ := h
  refine ⟨e1, e2, by rw [h92]; exact e3, e4, e5, fun j hj => ?_, fun j k hj hk z1 z2 => ?_⟩
  · exact en1_congr (e6 j hj) (fun _ _ _ => rfl) (fun k k1 k2 => h3 k j hj k1 k2) (fun k f k1 k2 hf => h6 k j f hj k1 k2 hf)
  · rw [h3 93 j hj (by omega) (by omega), h3 93 k hk (by omega) (by omega)] at z1
    rw [h3 94 j hj (by omega) (by omega), h3 94 k hk (by omega) (by omega)] at z2
    exact e7 j k hj hk z1 z2
theorem isR_e {u v : MS} {i c c' : Nat} {L : List (Nat → Nat → Int32)} (h : isR u i c L) (k : isR v i c' L) : c' = c ∧ ∀ j, j < c → rowF v i j = rowF u i j := by
  have : c' = c := by rw [← h.1, ← k.1]
  refine ⟨this, fun j hj => ?_⟩
  have a := h.2 j hj
  have b := k.2 j (by omega)
  rw [a] at b
  exact (Option.some.inj b).symm
theorem node_p {i c : Nat} {u : MS} (hi : i < 5) (hc : c ≤ 6) (h92 : u 92 i = nI c) : ∃ v c', c' ≤ c ∧ v 92 i = nI c' ∧ frN i u v ∧
    (∀ (r : Nat) (Z : Int32 → MS → Prop), mWP M_Mod_tick 14 [qr 1 (some 0), qi (nI (r + (c - c'))), qi (nI (i + 1)), none] [] v (mI Z) → mWP M_Mod_tick 24 [qr 1 (some 0), qi (nI r), qi (nI i), qi (nI (6 * i))] [] u (mI Z)) ∧
    ∀ S P N R Q g, rl9 S P N R Q g u → ∀ (X : Nat × (Nat → Int32)) (kk : Nat) (Z : Int32 → sg → Prop), (∀ g', rl9 S P N R Q g' v → Z (nI (c - c')) g') → nnMT X M_Pending_dropEnded kk [qr 8 (some i), qi (u 67 0)] g (zI Z) := by
  have hR : isR u i c ((List.range c).map (rowF u i)) := by
    refine ⟨by simp, fun j hj => ?_⟩
    rw [List.getElem?_map, List.getElem?_range hj]
    rfl
  obtain ⟨v, c', y1, y2, y3, y4, y5⟩ := mt_node hi ((List.range c).map (rowF u i)) [] u c hc h92 hR
  refine ⟨v, c', y1, y2, y4, y5, fun S P N R Q g h X kk Z hZ => t_Pending_dropEnded ?_⟩
  obtain ⟨c1, ε, hen⟩ := h.2.2.2.2.2.2.2.1.2.2.2 i hi
  have hP6 := h.2.2.2.2.2.2.2.1.2.1
  have : c1 = c := by
    have z := hen.2.2.1
    rw [h92, nI_eq (by omega) (by have := hen.1; omega)] at z
    exact z.symm
  subst this
  have hL : (((List.range c1).map (rowF u i)).reverse).length = c1 := by simp
  have key := c_node hi ((List.range c1).map (rowF u i)).reverse [] g u c1 ε h hen (by rw [List.reverse_reverse, List.append_nil]; exact hR) X kk (nI c1) Z
  rw [hL, List.reverse_reverse, List.append_nil] at key
  rw [hen.2.1]
  refine key fun g' u' c2 ε2 w1 w2 w3 w4 => ?_
  obtain ⟨q1, q2⟩ := isR_e w3 y3
  subst q1
  rw [pk_sub y1]
  refine hZ g' (rl9_E w1 ⟨fun k k1 _ => by rw [y4.1 k k1, w4.1 k k1], fun _ _ => ⟨rfl, rfl⟩, fun _ _ => rfl, fun _ => rfl⟩ ?_)
  have hE := w1.2.2.2.2.2.2.2.1
  refine ⟨hE.1, hE.2.1, ?_, fun i' hi' => ?_⟩
  · rw [y4.1 65 (by omega), ← w4.1 65 (by omega)]; exact hE.2.2.1
  · by_cases hii : i' = i
    · subst hii
      exact ⟨c', ε2, rEn_row w2 (by rw [y2, w2.2.2.1]) q2⟩
    · obtain ⟨c3, ε3, hen3⟩ := hE.2.2.2 i' hi'
      exact ⟨c3, ε3, rEn_row hen3 (by rw [y4.2.1 i' hii, w4.2.1 i' hii]) (fun j hj => by rw [y4.2.2 i' j hii (by have := hen3.1; omega), w4.2.2 i' j hii (by have := hen3.1; omega)])⟩
theorem tick_from : ∀ d i, i + d = 5 → ∀ u : MS, (∀ i', i' < 5 → ∃ c, c ≤ 6 ∧ u 92 i' = nI c) → ∃ v k, (∀ k, ¬ (92 ≤ k ∧ k ≤ 100) → v k = u k) ∧
    (∀ (r : Nat) (Z : Int32 → MS → Prop), mWP M_Mod_tick 73 [qr 1 (some 0), qi (nI (r + k)), qi 0, none] [] v (mI Z) → mWP M_Mod_tick 14 [qr 1 (some 0), qi (nI r), qi (nI i), none] [] u (mI Z)) ∧
    ∀ S P N R Q g, rl9 S P N R Q g u → ∀ (X : Nat × (Nat → Int32)) (kk r : Nat) (Z : Int32 → sg → Prop), (∀ g', rl9 S P N R Q g' v → nnWP X M_Net_tick kk 46 [qr 0 (some 0), qi (nI (r + k)), qi 0, none] [] g' (zI Z)) → nnWP X M_Net_tick kk 14 [qr 0 (some 0), qi (nI r), qi (nI i), none] [] g (zI Z) := by
  intro d
  induction d with
  | zero =>
    intro i hi u _
    obtain rfl : i = 5 := by omega
    exact ⟨u, 0, fun _ _ => rfl, fun r Z hZ => mb_Mod_tick_14 ⟨fun _ => hZ, fun q => absurd (by decide) q⟩, fun S P N R Q g h X kk r Z hZ => b_Net_tick_14 ⟨fun _ => hZ g h, fun q => absurd (by decide) q⟩⟩
  | succ d ih =>
    intro i hi u hu
    obtain ⟨c, hc, h92⟩ := hu i (by omega)
    obtain ⟨v, c', y1, y2, y3, y4, y5⟩ := node_p (show i < 5 by omega) hc h92
    obtain ⟨w, k, z1, z2, z3⟩ := ih (i + 1) (by omega) v (fun i' hi' => by
      by_cases hii : i' = i
      · subst hii; exact ⟨c', by omega, y2⟩
      · rw [y3.2.1 i' hii]; exact hu i' hi')
    have li : (nI i).toNatClampNeg = i := nI_clamp (by omega)
    have n5 : ¬ (5 : Int32) ≤ nI i := by rw [nl_5]; exact nI_ge (by omega) (by omega)
    refine ⟨w, (c - c') + k, fun k' hk' => (z1 k' hk').trans (y3.1 k' hk'), fun r Z hZ => mb_Mod_tick_14 ⟨fun q => absurd q n5, fun _ => ?_⟩, fun S P N R Q g h X kk r Z hZ => b_Net_tick_14 ⟨fun q => absurd q n5, fun _ => ?_⟩⟩
    · rw [show (6 : Int32) * nI i = nI (6 * i) by rw [show (6 : Int32) = nI 6 from rfl, pk_mul]]
      refine y4 r Z (z2 _ Z ?_)
      rw [show r + (c - c') + k = r + ((c - c') + k) by omega]
      exact hZ
    · rw [li, h.1.1.2.1 i (by omega), h.2.1.2.1]
      refine ⟨h.1.2.1.2.2.1, (vpi (by omega)).mpr (by omega), i, rfl, i, (h.1.1.2.2.2 i (by omega)).2.2.1, y5 S P N R Q g h X 0 _ fun g' w1 _ => ?_⟩
      rw [nI_add, nI_1]
      refine z3 S P N R Q g' w1 X kk _ Z fun g2 w2 => ?_
      rw [show r + (c - c') + k = r + ((c - c') + k) by omega]
      exact hZ g2 w2
/-- the requests that are late -/
def ltU (u : MS) (n : Nat) : MS := fun k y => if k = 105 ∧ y < n ∧ u 105 y = 0 ∧ ¬ u 67 0 - u 106 y < u 66 0 then 3 else u k y
theorem ltU_0 (u : MS) : ltU u 0 = u := by
  funext k y
  exact if_neg (by omega)
theorem ltU_s (u : MS) (n : Nat) (h : u 105 n = 0 ∧ ¬ u 67 0 - u 106 n < u 66 0) : ltU u (n + 1) = mu (ltU u n) 105 n 3 := by
  funext k y
  rw [mu_at]
  unfold ltU
  by_cases c : k = 105 ∧ y = n
  · obtain ⟨rfl, rfl⟩ := c
    rw [if_pos ⟨rfl, by omega, h⟩, if_pos ⟨rfl, rfl⟩]
  · rw [if_neg c]
    by_cases c2 : k = 105 ∧ y < n ∧ u 105 y = 0 ∧ ¬ u 67 0 - u 106 y < u 66 0
    · rw [if_pos c2, if_pos ⟨c2.1, by omega, c2.2.2⟩]
    · rw [if_neg c2, if_neg]
      rintro ⟨z1, z2, z3⟩
      exact c2 ⟨z1, by omega, z3⟩
theorem ltU_n (u : MS) (n : Nat) (h : ¬ (u 105 n = 0 ∧ ¬ u 67 0 - u 106 n < u 66 0)) : ltU u (n + 1) = ltU u n := by
  funext k y
  unfold ltU
  by_cases c2 : k = 105 ∧ y < n ∧ u 105 y = 0 ∧ ¬ u 67 0 - u 106 y < u 66 0
  · rw [if_pos c2, if_pos ⟨c2.1, by omega, c2.2.2⟩]
  · rw [if_neg c2, if_neg]
    rintro ⟨z1, z2, z3⟩
    by_cases q : y = n
    · rw [q] at z3; exact h z3
    · exact c2 ⟨z1, by omega, z3⟩
theorem ltU_at (u : MS) (n k : Nat) : ltU u n k n = u k n := if_neg (by omega)
theorem ltU_k (u : MS) (n k y : Nat) (h : k ≠ 105) : ltU u n k y = u k y := if_neg (fun z => h z.1)
theorem rl_late {S P N R Q q : Nat} {g : sg} {u : MS} (h : rl9 S P N R Q g u) (hq : q < Q) (h0 : u 105 q = 0) : rl9 S P N R Q (pI g 580 q 0 3) (mu u 105 q 3) := by
  obtain ⟨hsh, hT, hN, hW, hG, hRR, hS, hE, hQ, hF, hP⟩ := h
  obtain ⟨q1, q2, q3, q4, q5, q6⟩ := hQ
  refine ⟨hsh, hT, hN, hW, hG, hRR, hS, hE, ⟨q1, q2, q3, q4, fun q' hq' => ?_, q6⟩, fun i' hi' => ?_, hP⟩
  · obtain ⟨c0, c1, c2, c3, c4, c5, c6, c7⟩ := q5 q' hq'
    by_cases e : q' = q
    · subst e
      have e1 : mu u 105 q' 3 105 q' = 3 := by rw [mu_at, if_pos ⟨rfl, rfl⟩]
      refine ⟨c0, c1, c2, c3, c4, ?_, ⟨3, by omega, e1⟩, ?_⟩
      · rw [e1, gI_pI, if_pos ⟨rfl, rfl, rfl⟩]
      · rcases c7 with ⟨z1, z2, z3, z4⟩ | ⟨p, c, z1, z2, z3⟩
        · exact Or.inl ⟨z1, z2, z3, by rw [e1]; decide⟩
        · rw [h0] at z3; exact absurd z3 (by decide)
    · have e1 : mu u 105 q 3 105 q' = u 105 q' := by rw [mu_at, if_neg (fun z => e z.2)]
      rw [e1, gI_pI, gI_pI, gI_pI, gI_pI, gI_pI, if_neg (by omega), if_neg (by omega), if_neg (by omega), if_neg (by omega), if_neg (by omega)]
      exact ⟨c0, c1, c2, c3, c4, c5, c6, c7⟩
  · obtain ⟨c, w, f1, f2, f3, f4, f5, f6, f7, f8, f9⟩ := hF i' hi'
    refine ⟨c, w, f1, f2, f3, f4, f5, f6, f7, f8, fun j hj => ?_⟩
    obtain ⟨k1, k2, k3, t, k4, k5, k6, k7⟩ := f9 j hj
    refine ⟨k1, k2, k3, t, k4, k5, k6, ?_⟩
    rcases k7 with z | ⟨q', z1, z2, z3, z4 | ⟨z4, z5⟩⟩
    · exact Or.inl z
    · exact Or.inr ⟨q', z1, z2, z3, Or.inl z4⟩
    · refine Or.inr ⟨q', z1, z2, z3, Or.inr ⟨z4, ?_⟩⟩
      rw [mu_at, if_neg]
      · exact z5
      · rintro ⟨-, e⟩
        rw [e, h0] at z5
        exact absurd z5 (by decide)
theorem late_m {u : MS} {Q : Nat} {r : Int32} {Z : Int32 → MS → Prop} (hQ : Q ≤ 120) (h101 : u 101 0 = nI Q) (hZ : Z r (ltU u Q)) : mWP M_Mod_tick 73 [qr 1 (some 0), qi r, qi 0, none] [] u (mI Z) := by
  have key : ∀ n, n ≤ Q → mWP M_Mod_tick 73 [qr 1 (some 0), qi r, qi (nI n), none] [] (ltU u n) (mI Z) := by
    refine dn Q ?_ ?_
    · refine mb_Mod_tick_73 ⟨fun _ => hZ, fun c => absurd ?_ c⟩
      rw [ltU_k _ _ _ _ (by decide), h101]
      exact nI_le (Nat.le_refl _) (by omega)
    · intro n hn ih
      refine mb_Mod_tick_73 ⟨fun c => ?_, fun _ => ?_⟩
      · rw [ltU_k _ _ _ _ (by decide), h101] at c
        exact absurd c (nI_ge hn (by omega))
      · rw [nI_clamp (show n < 2 ^ 31 by omega), nI_1, ltU_at, ltU_k _ _ 67 _ (by decide), ltU_k _ _ 106 _ (by decide), ltU_k _ _ 66 _ (by decide)]
        refine ⟨(vpi (by omega)).mpr (by omega), fun q u1 hu1 => ?_, fun q => ⟨fun q2 u1 hu1 => ?_, fun q2 u1 hu1 => ?_⟩⟩
        · rw [mu_id (ltU_at u n 105), ← ltU_n u n (fun z => q z.1)] at hu1
          subst hu1
          exact ih
        · rw [mu_id (ltU_at u n 105), ← ltU_n u n (fun z => z.2 q2)] at hu1
          subst hu1
          exact ih
        · rw [← ltU_s u n ⟨q, q2⟩] at hu1
          subst hu1
          exact ih
  have := key 0 (Nat.zero_le _)
  rw [ltU_0] at this
  exact this
theorem late_c {X : Nat × (Nat → Int32)} {kk S P N R Q : Nat} {g : sg} {u : MS} {r : Int32} {Z : Int32 → sg → Prop} (h : rl9 S P N R Q g u) (hZ : ∀ g', rl9 S P N R Q g' (ltU u Q) → Z r g') : nnWP X M_Net_tick kk 46 [qr 0 (some 0), qi r, qi 0, none] [] g (zI Z) := by
  have hQ := h.2.2.2.2.2.2.2.2.1.1
  have key : ∀ d n, n + d = Q → ∀ g, rl9 S P N R Q g (ltU u n) → nnWP X M_Net_tick kk 46 [qr 0 (some 0), qi r, qi (nI n), none] [] g (zI Z) := by
    intro d
    induction d with
    | zero =>
      intro n hn g h
      obtain rfl : n = Q := by omega
      refine b_Net_tick_46 ⟨fun _ => hZ g h, fun c => absurd ?_ c⟩
      rw [h.2.2.2.2.2.2.2.2.1.2.2.1]
      exact nI_le (Nat.le_refl _) (by omega)
    | succ d ih =>
      intro n hn g h
      have hq := h.2.2.2.2.2.2.2.2.1
      obtain ⟨a1, a2, a3, a4, a5, a6, a7, a8⟩ := hq.2.2.2.2.1 n (by omega)
      refine b_Net_tick_46 ⟨fun c => ?_, fun _ => ?_⟩
      · rw [hq.2.2.1] at c
        exact absurd c (nI_ge (by omega) (by omega))
      · rw [nI_clamp (show n < 2 ^ 31 by omega), nI_1, a1]
        refine ⟨h.1.2.1.2.2.2.2.2.1, (vpi (by omega)).mpr (by omega), n, rfl, ?_⟩
        rw [a6, a5, h.2.1.1, h.2.1.2.1, ltU_at, ltU_k _ _ 67 _ (by decide), ltU_k _ _ 106 _ (by decide), ltU_k _ _ 66 _ (by decide)]
        refine ⟨fun q => ?_, fun q => ⟨fun q2 => ?_, fun q2 g1 hg1 => ?_⟩⟩
        · exact ih (n + 1) (by omega) g (by rw [ltU_n u n (fun z => q z.1)]; exact h)
        · exact ih (n + 1) (by omega) g (by rw [ltU_n u n (fun z => z.2 q2)]; exact h)
        · subst hg1
          exact ih (n + 1) (by omega) _ (by rw [ltU_s u n ⟨q, q2⟩]; exact rl_late h (by omega) (by rw [ltU_at]; exact q))
  exact key Q 0 (by omega) g (by rw [ltU_0]; exact h)
theorem pair_tick (g : sg) (u : MS) (hr : RL g u) : PairI 0 M_Net_tick M_Mod_tick [] g u := by
  obtain ⟨S, P, N, R, Q, h⟩ := hr
  have h1 : rl9 S P N R Q (pI g 1 0 0 (u 67 0 + 1)) (mu u 67 0 (u 67 0 + 1)) := by
    obtain ⟨hsh, hT, h'⟩ := h
    refine ⟨hsh, ⟨hT.1, ?_, hT.2.2⟩, h'⟩
    rw [gI_pI, if_pos ⟨rfl, rfl, rfl⟩, mu_at, if_pos ⟨rfl, rfl⟩]
  obtain ⟨v, k, y1, y2, y3⟩ := tick_from 5 0 rfl (mu u 67 0 (u 67 0 + 1)) (fun i' hi' => by
    obtain ⟨c, ε, hen⟩ := h1.2.2.2.2.2.2.2.1.2.2.2 i' hi'
    have hP6 := h1.2.2.2.2.2.2.2.1.2.1
    exact ⟨c, by have := hen.1; omega, hen.2.2.1⟩)
  have t101 : v 101 0 = nI Q := by
    rw [y1 101 (by omega)]
    exact h1.2.2.2.2.2.2.2.2.1.2.2.2.1
  refine ⟨nI (0 + k), ltU v Q, fun Z hz => mt_Mod_tick fun u1 hu1 => ?_, fun X Z hz => t_Net_tick fun g1 hg1 => ?_⟩
  · subst hu1
    exact y2 0 Z (late_m h.2.2.2.2.2.2.2.2.1.1 t101 hz)
  · rw [h.2.1.2.1] at hg1
    subst hg1
    exact y3 S P N R Q _ h1 X 0 0 Z fun g' w => late_c w fun g2 w2 => hz g2 ⟨S, P, N, R, Q, w2⟩
