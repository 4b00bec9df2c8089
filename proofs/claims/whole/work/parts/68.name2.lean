theorem nm7 {u : MS} {t N len s p idx d : Nat} {τ : Nat → Nat} {x : Nat × Nat × Nat} {L : List (Nat × Nat × Nat)} {Z : Int32 → MS → Prop} (hT : txT u t τ) (h1 : 1 ≤ N) (hN : N ≤ 48) (h70 : u 70 0 = nI N) (hp : p < N) (h72 : u 72 p = nI d) (hP : txP τ s (x :: L)) (hidx : idx < len) (hlen : len ≤ 4)
    (hZ : (∀ n, fdC u N p x = some n → mWP M_Mod_enter 7 [qr 1 (some 0), qi (nI len), qi (nI n), qi (nI (s + cl x + 1)), qi (nI (idx + 1)), none, none, none] [] u (mI Z)) ∧ (fdC u N p x = none → N < 48 ∧ mWP M_Mod_enter 7 [qr 1 (some 0), qi (nI len), qi (nI N), qi (nI (s + cl x + 1)), qi (nI (idx + 1)), none, none, none] [] (mkU u N (nI p) (nI x.1) (nI x.2.1) (nI x.2.2) (nI (d + 1))) (mI Z))) :
    mWP M_Mod_enter 7 [qr 1 (some 0), qi (nI len), qi (nI p), qi (nI s), qi (nI idx), none, none, none] [] u (mI Z) := by
  obtain ⟨s24, ho, x1, x2, x3, -⟩ := hP
  have lo := ho.lt
  have e2 : nI s + 2 = nI (s + 2) := nI_add s 2
  have e3 : nI s + 3 = nI (s + 3) := nI_add s 3
  have e4 : nI s + 4 = nI (s + 4) := nI_add s 4
  have go : mMT M_Mod_made [qr 1 (some 0), qi (nI p), qi (nI x.1), qi (nI x.2.1), qi (nI x.2.2)] u (mI fun r u' => mWP M_Mod_enter 7 [qr 1 (some 0), qi (nI len), qi r, qi (nI (s + cl x + 1)), qi (nI (idx + 1)), none, none, none] [] u' (mI Z)) := c_Mod_made h1 hN h70 hp h72 ho hZ
  refine mb_Mod_enter_7 ⟨fun q => absurd q (nI_ge (by omega) (by omega)), fun _ => c_Mod_at hT (by omega) ?_⟩
  rw [nI_1]
  refine c_Mod_at hT (by omega) ?_
  rw [x1]
  by_cases c1 : x.2.1 = 32
  · rw [x2 c1]
    have c2 : x.2.2 = 32 := by have := ho.2; unfold plN at this; omega
    have ecl : s + cl x + 1 = s + 2 := by unfold cl; rw [if_pos c1]
    rw [c1, c2, ecl] at go
    refine ⟨fun q => absurd rfl q, fun _ => mb_Mod_enter_44 ⟨fun _ => ?_, fun q => absurd rfl q⟩⟩
    rw [e2, nI_1]
    refine mmono go ?_
    rintro _ μ ⟨r, rfl, hr⟩
    exact ⟨r, rfl, fun q => absurd rfl q, fun _ => hr⟩
  · obtain ⟨y1, y2, y3⟩ := x3 c1
    rw [y1]
    have n47 : ¬ nI x.2.1 = 47 := by rw [b47 lo.2.1]; have := ho.2; unfold plN at this; omega
    have n32 : ¬ nI x.2.1 = 32 := fun q => c1 ((b32 lo.2.1).mp q)
    refine ⟨fun _ => c_Mod_at hT (by omega) ?_, fun q => absurd q n47⟩
    rw [y1]
    refine mb_Mod_enter_44 ⟨fun q => absurd q n32, fun _ => ?_⟩
    rw [e2, e3, e4, nI_1]
    refine c_Mod_at hT (by omega) ?_
    by_cases c2 : x.2.2 = 32
    · have ecl : s + cl x + 1 = s + 3 := by unfold cl; rw [if_neg c1, if_pos c2]
      rw [y2 c2]
      rw [c2, ecl] at go
      refine ⟨fun q => absurd rfl q, fun _ => mmono go ?_⟩
      rintro _ μ ⟨r, rfl, hr⟩
      exact ⟨r, rfl, fun _ => ⟨fun q => absurd rfl q, fun _ => hr⟩, fun q => absurd q n32⟩
    · have ecl : s + cl x + 1 = s + 4 := by unfold cl; rw [if_neg c1, if_neg c2]
      have y3' := y3 c2
      have m47 : ¬ nI x.2.2 = 47 := by rw [b47 lo.2.2]; have := ho.2; unfold plN at this; omega
      have m32 : ¬ nI x.2.2 = 32 := fun q => c2 ((b32 lo.2.2).mp q)
      rw [ecl] at go
      rw [y3']
      refine ⟨fun _ => c_Mod_at hT (by omega) ?_, fun q => absurd q m47⟩
      rw [y3']
      refine mmono go ?_
      rintro _ μ ⟨r, rfl, hr⟩
      exact ⟨r, rfl, fun _ => ⟨fun _ => hr, fun q => absurd q m32⟩, fun q => absurd q n32⟩
/-- the known components change nothing -/
theorem ent_pre {u : MS} {t N len : Nat} {τ : Nat → Nat} {g : sg} (hT : txT u t τ) (hN : rN N g u) (hlen : len ≤ 4) : ∀ L s p idx d, txP τ s L → idx + L.length = len → p < N → u 72 p = nI d → d + L.length ≤ 4 →
    (knR u N p L).1 < N ∧ (∃ d', u 72 (knR u N p L).1 = nI d' ∧ d' + (L.drop (knR u N p L).2).length ≤ 4) ∧ (∃ s', txP τ s' (L.drop (knR u N p L).2) ∧ ∀ Z : Int32 → MS → Prop, (mWP M_Mod_enter 7 [qr 1 (some 0), qi (nI len), qi (nI (knR u N p L).1), qi (nI s'), qi (nI (idx + (knR u N p L).2)), none, none, none] [] u (mI Z) → mWP M_Mod_enter 7 [qr 1 (some 0), qi (nI len), qi (nI p), qi (nI s), qi (nI idx), none, none, none] [] u (mI Z))) := by
  intro L
  induction L with
  | nil =>
    intro s p idx d hP hl hp h72 hd
    exact ⟨hp, ⟨d, h72, hd⟩, s, trivial, fun _ q => q⟩
  | cons x L ih =>
    intro s p idx d hP hl hp h72 hd
    rw [List.length_cons] at hl hd
    cases hf : fdC u N p x with
    | some n =>
      obtain ⟨hn, h72n⟩ := fdC_d hN hp hf h72 (by omega)
      obtain ⟨y1, y2, s', y3, y4⟩ := ih (s + cl x + 1) n (idx + 1) (d + 1) hP.2.2.2.2.2 (by omega) hn h72n (by omega)
      rw [knR_s hf]
      refine ⟨y1, y2, s', y3, fun Z q => nm7 hT hN.1 hN.2.1 hN.2.2.2.1 hp h72 hP (by omega) hlen ⟨fun n' hn' => ?_, fun q2 => ?_⟩⟩
      · rw [hf] at hn'; cases hn'
        refine y4 Z ?_
        rw [show idx + 1 + (knR u N n L).2 = idx + ((knR u N n L).2 + 1) by omega]
        exact q
      · rw [hf] at q2; cases q2
    | none =>
      rw [knR_n hf]
      exact ⟨hp, ⟨d, h72, by rw [List.drop_zero, List.length_cons]; exact hd⟩, s, hP, fun _ q => q⟩
theorem mk_68 {u : MS} {N : Nat} {p a b c d x : Int32} : mkU (mu u 68 0 x) N p a b c d = mu (mkU u N p a b c d) 68 0 x := by
  funext f y
  by_cases h : f = 68 ∧ y = 0
  · obtain ⟨rfl, rfl⟩ := h
    rw [mkU_lo (by omega), mu_at, mu_at, if_pos ⟨rfl, rfl⟩, if_pos ⟨rfl, rfl⟩]
  · rw [mu_at, if_neg h]
    unfold mkU
    simp only [mu_at, if_neg h]
theorem txT.mk {u : MS} {t N : Nat} {τ : Nat → Nat} {p a b c d : Int32} (h : txT u t τ) : txT (mkU u N p a b c d) t τ := by
  obtain ⟨h1, h2, h3, h4⟩ := h
  refine ⟨h1, by rw [mkU_lo (by omega)]; exact h2, fun k hk => by rw [mkU_lo (by omega)]; exact h3 k hk, h4⟩
theorem ent_mk {t len : Nat} {τ : Nat → Nat} (hlen : len ≤ 4) : ∀ L s p idx d (u : MS) N, txP τ s L → txT u t τ → idx + L.length = len → 1 ≤ N → N + L.length ≤ 48 → u 70 0 = nI N → p < N → u 72 p = nI d → d + L.length ≤ 4 → (∃ S P R Q g, rl9 S P N R Q g (mu u 68 0 0)) →
    ∃ v r, (∀ Z : Int32 → MS → Prop, Z (nI r) v → mWP M_Mod_enter 7 [qr 1 (some 0), qi (nI len), qi (nI p), qi (nI s), qi (nI idx), none, none, none] [] u (mI Z)) ∧
      ∀ S P R Q g, rl9 S P N R Q g (mu u 68 0 0) → tyG g idx L → ∀ (X : Nat × (Nat → Int32)) (kk : Nat) (Z : Int32 → sg → Prop), (∀ g', RL g' (mu v 68 0 0) → Z (nI r) g') → nnWP X M_Net_name kk 87 [qr 0 (some 0), qi (nI len), qi (nI p), none, qi (nI idx), none] [] g (zI Z) := by
  intro L
  induction L with
  | nil =>
    intro s p idx d u N hP hT hl h1 hN h70 hp h72 hd hw
    obtain rfl : idx = len := hl
    exact ⟨u, p, fun Z hZ => mb_Mod_enter_7 ⟨fun _ => hZ, fun q => absurd (nI_le (Nat.le_refl _) (by omega)) q⟩, fun S P R Q g h _ X kk Z hZ => b_Net_name_87 ⟨fun _ => hZ g ⟨S, P, N, R, Q, h⟩, fun q => absurd (nI_le (Nat.le_refl _) (by omega)) q⟩⟩
  | cons x L ih =>
    intro s p idx d u N hP hT hl h1 hN h70 hp h72 hd hw
    rw [List.length_cons] at hl hd hN
    have hcl : ∀ S P R Q g, rl9 S P N R Q g (mu u 68 0 0) → tyG g idx (x :: L) → ∀ (X : Nat × (Nat → Int32)) (kk : Nat) (Z : Int32 → sg → Prop), ((∀ n, fdC u N p x = some n → nnWP X M_Net_name kk 87 [qr 0 (some 0), qi (nI len), qi (nI n), none, qi (nI (idx + 1)), none] [] g (zI Z)) ∧ (fdC u N p x = none → nnWP X M_Net_name kk 87 [qr 0 (some 0), qi (nI len), qi (nI N), none, qi (nI (idx + 1)), none] [] (mkG g N (nI p) (nI (pk3 x.1 x.2.1 x.2.2)) (nI (d + 1))) (zI Z))) → nnWP X M_Net_name kk 87 [qr 0 (some 0), qi (nI len), qi (nI p), none, qi (nI idx), none] [] g (zI Z) := by
      intro S P R Q g h hY X kk Z hZ
      refine b_Net_name_87 ⟨fun q => absurd q (nI_ge (by omega) (by omega)), fun _ => ⟨h.1.2.1.2.1, (vpi (by omega)).mpr (by omega), 0, h.1.1.1, ?_⟩⟩
      rw [nI_clamp (show idx < 2 ^ 31 by omega), hY.hd, nI_1]
      exact c_Names_findOrMake h.1 h.2.2.1 hp h72 hP.2.1 ⟨fun n hn _ => hZ.1 n hn, fun hf => ⟨by omega, fun _ => hZ.2 hf⟩⟩
    cases hf : fdC u N p x with
    | some n =>
      have hn : n < N := (fdN_lt _ _ hf).1
      obtain ⟨S0, P0, R0, Q0, g0, hg0⟩ := hw
      have h72n : u 72 n = nI (d + 1) := (fdC_d (u := u) hg0.2.2.1 hp hf h72 (by omega)).2
      obtain ⟨v, r, w1, w2⟩ := ih (s + cl x + 1) n (idx + 1) (d + 1) u N hP.2.2.2.2.2 hT (by omega) h1 (by omega) h70 hn h72n (by omega) ⟨S0, P0, R0, Q0, g0, hg0⟩
      refine ⟨v, r, fun Z hZ => nm7 hT h1 (by omega) h70 hp h72 hP (by omega) hlen ⟨fun n' hn' => ?_, fun q2 => ?_⟩, fun S P R Q g h hY X kk Z hZ => hcl S P R Q g h hY X kk Z ⟨fun n' hn' => ?_, fun q2 => ?_⟩⟩
      · rw [hf] at hn'; cases hn'
        exact w1 Z hZ
      · rw [hf] at q2; cases q2
      · rw [hf] at hn'; cases hn'
        exact w2 S P R Q g h hY.tl X kk Z hZ
      · rw [hf] at q2; cases q2
    | none =>
      obtain ⟨v, r, w1, w2⟩ := ih (s + cl x + 1) N (idx + 1) (d + 1) (mkU u N (nI p) (nI x.1) (nI x.2.1) (nI x.2.2) (nI (d + 1))) (N + 1) hP.2.2.2.2.2 hT.mk (by omega) (by omega) (by omega) (by unfold mkU; rw [mu_at, if_pos ⟨rfl, rfl⟩]) (by omega) (by unfold mkU; simp [mu_at]) (by omega) (by
        obtain ⟨S0, P0, R0, Q0, g0, hg0⟩ := hw
        have hk := rl_mk hg0 (show N < 48 by omega) hp h72 (show d < 4 by omega) hP.2.1
        rw [mk_68] at hk
        exact ⟨S0, P0, R0, Q0, _, hk⟩)
      refine ⟨v, r, fun Z hZ => nm7 hT h1 (by omega) h70 hp h72 hP (by omega) hlen ⟨fun n' hn' => ?_, fun _ => ⟨by omega, w1 Z hZ⟩⟩, fun S P R Q g h hY X kk Z hZ => hcl S P R Q g h hY X kk Z ⟨fun n' hn' => ?_, fun _ => ?_⟩⟩
      · rw [hf] at hn'; cases hn'
      · rw [hf] at hn'; cases hn'
      · have hk := rl_mk h (show N < 48 by omega) hp h72 (show d < 4 by omega) hP.2.1
        rw [mk_68] at hk
        refine w2 S P R Q _ hk (fun j y hy => ?_) X kk Z hZ
        rw [mkG_lo (by omega)]
        exact hY.tl j y hy
theorem rl_t0 {S P N R Q : Nat} {g : sg} {u : MS} (h : rl9 S P N R Q g u) : rl9 S P N R Q (pI g 3 0 0 0) (mu u 68 0 0) := by
  obtain ⟨hsh, hT, h'⟩ := h
  exact ⟨hsh, ⟨hT.1, hT.2.1, 0, by omega, rfl, rfl, fun i hi => absurd hi (by omega)⟩, h'⟩
theorem pair_name (g : sg) (u : MS) (hr : RL g u) : PairI 0 M_Net_name M_Mod_name [] g u := by
  obtain ⟨S, P, N, R, Q, h⟩ := hr
  obtain ⟨t, τ, hT, hh⟩ := text_p h.1 h.2.1
  have hN := h.2.2.1
  have h1N := hN.1
  have hN48 := hN.2.1
  have h70 := hN.2.2.2.1
  rcases hh with ⟨w1, w2⟩ | ⟨L, w0, wl, w1, w2⟩
  · refine ⟨-1, mu u 68 0 0, fun Z hz => mt_Mod_name (w1 _ (mb_Mod_name_15 ⟨fun _ => ⟨fun q => absurd q (by decide), fun _ u4 y4 => ?_⟩, fun q => absurd (by decide) q⟩)), fun X Z hz => t_Net_name (w2 X 0 _ fun g1 hg1 _ g2 y2 => ⟨fun q => absurd rfl q, fun _ => ?_⟩)⟩
    · subst y4; exact hz
    · subst y2; exact hz _ ⟨S, P, N, R, Q, rl_t0 (rl_ty h hg1)⟩
  · have hkn := knR_le (u := u) (N := N) L 0
    obtain ⟨y1, ⟨d', y2, y3⟩, s1, hs1⟩ := ent_pre hT hN wl L 1 0 0 0 w0 (by omega) h1N hN.2.2.2.2.2.2.1 (by omega)
    have nl : ¬ nI L.length = -1 := nI_m1 (by omega)
    have hm15 : ∀ Z : Int32 → MS → Prop, ((N + (L.length - (knR u N 0 L).2) ≤ 48 → mMT M_Mod_enter [qr 1 (some 0), qi (nI L.length)] u (mI fun r1 u1 => ∀ u2, u2 = mu u1 68 0 0 → Z r1 u2)) ∧ (¬ N + (L.length - (knR u N 0 L).2) ≤ 48 → Z (-2) (mu u 68 0 0))) → mMT M_Mod_name [qr 1 (some 0)] u (mI Z) := by
      intro Z hZ
      refine mt_Mod_name (w1 _ (name15 hT h1N hN48 h70 wl L 1 0 0 w0 (by omega) fun p' s' => mb_Mod_name_15 ⟨fun _ => ⟨fun _ => ?_, fun q => absurd (nI_pos' (by omega)) q⟩, fun q => absurd (nI_le (Nat.le_refl _) (by omega)) q⟩))
      rw [h70, nI_add, show (48 : Int32) = nI 48 from rfl, nI_leI (by omega) (by omega)]
      exact ⟨hZ.1, fun q u3 y3 => by subst y3; exact hZ.2 q⟩
    have hc24 : ∀ (X : Nat × (Nat → Int32)) (Z : Int32 → sg → Prop), (∀ g1, rl9 S P N R Q g1 (mu u 68 0 0) → tyG g1 0 L → (N + (L.length - (knR u N 0 L).2) ≤ 48 → nnWP X M_Net_name 0 87 [qr 0 (some 0), qi (nI L.length), qi (nI (knR u N 0 L).1), none, qi (nI (0 + (knR u N 0 L).2)), none] [] g1 (zI Z)) ∧ (¬ N + (L.length - (knR u N 0 L).2) ≤ 48 → Z (-2) g1)) → nnMT X M_Net_name 0 [qr 0 (some 0)] g (zI Z) := by
      intro X Z hZ
      refine t_Net_name (w2 X 0 _ fun g1 hg1 hy _ g2 y2 => ⟨fun _ => ?_, fun q => absurd q nl⟩)
      have h2 : rl9 S P N R Q g2 (mu u 68 0 0) := by subst y2; exact rl_t0 (rl_ty h hg1)
      have hY : tyG g2 0 L := by
        intro j x hx
        rw [Nat.zero_add]
        subst y2
        exact hy j x hx
      exact name24 (u := u) h2.1 h2.2.2.1 wl L 1 0 0 w0 hY (by omega) (hZ g2 h2 hY)
    by_cases hroom : N + (L.length - (knR u N 0 L).2) ≤ 48
    · have hdl : (L.drop (knR u N 0 L).2).length = L.length - (knR u N 0 L).2 := List.length_drop
      obtain ⟨v, r, v1, v2⟩ := ent_mk wl (L.drop (knR u N 0 L).2) s1 (knR u N 0 L).1 (0 + (knR u N 0 L).2) d' u N hs1.1 hT (by omega) h1N (by omega) h70 y1 y2 y3 ⟨S, P, R, Q, _, rl_t0 h⟩
      refine ⟨nI r, mu v 68 0 0, fun Z hz => hm15 Z ⟨fun _ => mt_Mod_enter (hs1.2 _ (v1 _ fun u2 yy => by subst yy; exact hz)), fun q => absurd hroom q⟩, fun X Z hz => hc24 X Z fun g1 hg1 hY => ⟨fun _ => v2 S P R Q g1 hg1 (fun j x hx => ?_) X 0 Z hz, fun q => absurd hroom q⟩⟩
      rw [List.getElem?_drop] at hx
      have := hY _ x hx
      rw [← Nat.add_assoc] at this
      exact this
    · exact ⟨-2, mu u 68 0 0, fun Z hz => hm15 Z ⟨fun q => absurd q hroom, fun _ => hz⟩, fun X Z hz => hc24 X Z fun g1 hg1 _ => ⟨fun q => absurd q hroom, fun _ => hz g1 ⟨S, P, N, R, Q, hg1⟩⟩⟩
