/-- how many of a fetch's first segments are in a state, and the sum of what is had -/
def cntI (u : MS) (i : Nat) (s : Int32) : Nat → Int32
  | 0 => 0
  | j + 1 => if u 113 (10 * i + j) = s then cntI u i s j + 1 else cntI u i s j
def sumI (u : MS) (i : Nat) : Nat → Int32
  | 0 => 0
  | j + 1 => if u 113 (10 * i + j) = 2 then sumI u i j + u 108 (u 115 (10 * i + j)).toNatClampNeg else sumI u i j
theorem c_Mod_inState {u : MS} {i c : Nat} {s : Int32} {Z : Int32 → MS → Prop} (hi : i < 5) (hc : c ≤ 10) (h109 : u 109 i = nI c) (h : Z (cntI u i s c) u) : mMT M_Mod_inState [qr 1 (some 0), qi (nI i), qi s] u (mI Z) := by
  have vi : vp_in (nI i) 5 := (vpi (by omega)).mpr hi
  have cl : (nI i).toNatClampNeg = i := nI_clamp (by omega)
  have e10 : (10 : Int32) * nI i = nI (10 * i) := by rw [nl_10, pk_mul]
  refine mt_Mod_inState ?_
  rw [e10]
  have key : ∀ j, j ≤ c → mWP M_Mod_inState 8 [qr 1 (some 0), qi (nI i), qi s, qi (cntI u i s j), qi (nI (10 * i + j))] [] u (mI Z) := by
    refine dn c ?_ ?_
    · refine mb_Mod_inState_8 ⟨vi, fun _ => h, fun hc => absurd ?_ hc⟩
      rw [cl, h109, e10, nI_add]; exact nI_le (Nat.le_refl _) (by omega)
    · intro j hj ih
      refine mb_Mod_inState_8 ⟨vi, fun hc => ?_, fun _ => ⟨(vpi (by omega)).mpr (by omega), fun h1 => ?_, fun h1 => ?_⟩⟩
      · rw [cl, h109, e10, nI_add] at hc
        exact absurd hc (nI_ge (by omega) (by omega))
      · rw [nI_clamp (by omega)] at h1
        exact meq ih (by rw [nI_1]; simp [cntI, h1]; rfl)
      · rw [nI_clamp (by omega)] at h1
        exact meq ih (by rw [nI_1]; simp [cntI, h1]; rfl)
  exact key 0 (Nat.zero_le _)
theorem c_Fetch_countOf {X : Nat × (Nat → Int32)} {kk i c : Nat} {g : sg} {u : MS} {s : Int32} {Z : Int32 → sg → Prop} (hc : c ≤ 10) (hA : gA g 260 i = some 10) (h256 : gI g 256 i 0 = nI c) (hs : ∀ j, j < c → gI g 260 i j = u 113 (10 * i + j)) (h : Z (cntI u i s c) g) : nnMT X M_Fetch_countOf kk [qr 4 (some i), qi s] g (zI Z) := by
  refine t_Fetch_countOf ?_
  have key : ∀ j, j ≤ c → nnWP X M_Fetch_countOf kk 4 [qr 4 (some i), qi s, qi (cntI u i s j), qi (nI j)] [] g (zI Z) := by
    refine dn c ?_ ?_
    · refine b_Fetch_countOf_4 ⟨fun _ => h, fun hc => absurd ?_ hc⟩
      rw [h256]; exact nI_le (Nat.le_refl _) (by omega)
    · intro j hj ih
      refine b_Fetch_countOf_4 ⟨fun hc => ?_, fun _ => ⟨hA, (vpi (by omega)).mpr (by omega), fun h1 => ?_, fun h1 => ?_⟩⟩
      · rw [h256] at hc
        exact absurd hc (nI_ge hj (by omega))
      · rw [nI_clamp (by omega), hs j hj] at h1
        rw [nI_1]
        simpa [cntI, h1] using ih
      · rw [nI_clamp (by omega), hs j hj] at h1
        rw [nI_1]
        simpa [cntI, h1] using ih
  exact key 0 (Nat.zero_le _)
theorem c_Fetch_isThere {X : Nat × (Nat → Int32)} {kk i c : Nat} {g : sg} {Z : Int32 → sg → Prop} (hc : c ≤ 10) (h256 : gI g 256 i 0 = nI c) (h : Z (b2 (decide (0 < c))) g) : nnMT X M_Fetch_isThere kk [qr 4 (some i)] g (zI Z) := by
  refine t_Fetch_isThere ⟨fun q => ?_, fun q => ?_⟩
  · rw [h256, nI_le0 (by omega)] at q
    subst q; exact h
  · rw [h256, nI_le0 (by omega)] at q
    rw [b2_t (by simp; omega)] at h; exact h
theorem c_Fetch_sum {X : Nat × (Nat → Int32)} {kk i c N Q : Nat} {g : sg} {u : MS} {Z : Int32 → sg → Prop} (hc : c ≤ 10) (hA : gA g 260 i = some 10) (hA2 : gA g 262 i = some 10) (h256 : gI g 256 i 0 = nI c) (hQ : rQ N Q g u) (hs : ∀ j, j < c → gI g 260 i j = u 113 (10 * i + j) ∧ (u 113 (10 * i + j) = 2 → ∃ q, q < Q ∧ gR g 262 i j = some q ∧ u 115 (10 * i + j) = nI q ∧ u 105 q = 1)) (h : Z (sumI u i c) g) : nnMT X M_Fetch_sumOfContents kk [qr 4 (some i)] g (zI Z) := by
  refine t_Fetch_sumOfContents ?_
  have q120 := hQ.1
  have key : ∀ j, j ≤ c → nnWP X M_Fetch_sumOfContents kk 4 [qr 4 (some i), qi (sumI u i j), qi (nI j), none] [] g (zI Z) := by
    refine dn c ?_ ?_
    · refine b_Fetch_sumOfContents_4 ⟨fun _ => h, fun hc => absurd ?_ hc⟩
      rw [h256]; exact nI_le (Nat.le_refl _) (by omega)
    · intro j hj ih
      obtain ⟨s1, s2⟩ := hs j hj
      refine b_Fetch_sumOfContents_4 ⟨fun hc => ?_, fun _ => ⟨hA2, (vpi (by omega)).mpr (by omega), hA, fun h1 => ?_, fun h1 => ?_⟩⟩
      · rw [h256] at hc
        exact absurd hc (nI_ge hj (by omega))
      · rw [nI_clamp (by omega), s1] at h1
        rw [nI_1]
        simpa [sumI, h1] using ih
      · rw [nI_clamp (by omega), s1] at h1
        obtain ⟨q, hq, r1, r2, r3⟩ := s2 h1
        rw [nI_clamp (by omega), r1]
        refine ⟨fun z => (by cases z), fun a hza => ?_⟩
        cases hza
        obtain ⟨a1, a2, a3, a4, a5, a6, a7, a8⟩ := hQ.2.2.2.2.1 q hq
        rcases a8 with ⟨b1, b2', b3, b4⟩ | ⟨p, t, b1, b2', b3⟩
        · exact absurd r3 b4
        · rw [b1]
          refine ⟨fun z => (by cases z), fun a2 hz2 => ?_⟩
          cases hz2
          rw [b2'.2.2.2.1, nI_1]
          have e : sumI u i (j + 1) = sumI u i j + u 108 q := by
            show (if u 113 (10 * i + j) = 2 then sumI u i j + u 108 (u 115 (10 * i + j)).toNatClampNeg else sumI u i j) = _
            rw [if_pos h1, r2, nI_clamp (by omega)]
          rw [e] at ih
          exact ih
  exact key 0 (Nat.zero_le _)
theorem pair_fetched (g : sg) (u : MS) (x y : Int32) (hr : RL g u) : PairI 0 M_Net_fetched M_Mod_fetched [qi x, qi y] g u := by
  have hr0 := hr
  obtain ⟨S, P, N, R, Q, hsh, hT, hN, hW, hG, hRR, hS, hE, hQ, hF, hP⟩ := hr
  have q120 := hQ.1
  cases hb : inN x 5 with
  | false => exact ⟨-1, u, fun Z hz => mt_Mod_fetched (c_Mod_isNode ⟨fun _ => hz, fun c => absurd (b2_f hb) c⟩), fun X Z hz => t_Net_fetched (c_Net_isNode fun _ => ⟨fun _ => hz g hr0, fun c => absurd (b2_f hb) c⟩)⟩
  | true =>
    have m0 : ¬ b2 (inN x 5) = 0 := by rw [b2_t hb]; decide
    obtain ⟨i, hi, rfl⟩ := inN_of (by decide) hb
    have vi : vp_in (nI i) 5 := (vpi (by omega)).mpr hi
    have cl : (nI i).toNatClampNeg = i := nI_clamp (by omega)
    obtain ⟨c, w, f1, f2, f3, f4, f5, f6, f7, f8, f9⟩ := hF i hi
    have hnd := hsh.1.2.1 i hi
    have hft := (hsh.1.2.2.2 i hi).2.2.2.1
    have hlen := hsh.2.2.1 i hi
    by_cases c0 : c = 0
    · subst c0
      refine ⟨-1, u, fun Z hz => mt_Mod_fetched (c_Mod_isNode ⟨fun c => absurd c m0, fun _ => ⟨vi, fun _ => hz, fun c => ?_⟩⟩), fun X Z hz => t_Net_fetched (c_Net_isNode fun _ => ⟨fun c => absurd c m0, fun _ => ⟨hsh.2.1.2.2.1, vi, i, by rw [cl]; exact hnd, i, hft, c_Fetch_isThere (c := 0) (by omega) f3 fun _ => ⟨fun c => absurd rfl c, fun _ => hz g hr0⟩⟩⟩)⟩
      rw [cl] at c
      exact absurd f4 c
    · have n109 : ¬ u 109 (nI i).toNatClampNeg = 0 := by rw [cl, f4]; exact nI_ne0 (by omega) (by omega)
      have bt : ¬ b2 (decide (0 < c)) = 0 := by rw [b2_t (by simp; omega)]; decide
      have hcls : ∀ (X : Nat × (Nat → Int32)) (Z : Int32 → sg → Prop), ((y = 0 → Z (cntI u i 2 c) g) ∧ (y = 1 → Z (cntI u i 1 c) g) ∧ (y = 2 → (gI g 258 i 0 = 0 → Z 0 g) ∧ (¬ gI g 258 i 0 = 0 → Z 1 g)) ∧ (y = 3 → Z (sumI u i c) g) ∧ (¬ y = 0 ∧ ¬ y = 1 ∧ ¬ y = 2 ∧ ¬ y = 3 → Z (-1) g)) → nnMT X M_Net_fetched 0 [qr 0 (some 0), qi (nI i), qi y] g (zI Z) := by
        intro X Z hh
        refine t_Net_fetched (c_Net_isNode fun _ => ⟨fun c => absurd c m0, fun _ => ⟨hsh.2.1.2.2.1, vi, i, by rw [cl]; exact hnd, i, hft, c_Fetch_isThere f1 f3 fun _ => ⟨fun _ => ⟨i, by rw [cl]; exact hnd, fun e => ⟨i, hft, c_Fetch_countOf (u := u) f1 hlen.2.2.2.2.2.2.1 f3 (fun j hj => (f9 j hj).2.2.1) fun _ => hh.1 e⟩, fun e => ⟨i, hft, c_Fetch_countOf (u := u) f1 hlen.2.2.2.2.2.2.1 f3 (fun j hj => (f9 j hj).2.2.1) fun _ => hh.2.1 e⟩, fun e => ⟨i, hft, hh.2.2.1 e⟩, fun e => ⟨i, hft, c_Fetch_sum (u := u) f1 hlen.2.2.2.2.2.2.1 hlen.2.2.2.2.2.2.2.2 f3 hQ (fun j hj => ⟨(f9 j hj).2.2.1, fun h2 => ?_⟩) fun _ => hh.2.2.2.1 e⟩, hh.2.2.2.2⟩, fun c => absurd c bt⟩⟩⟩)
        obtain ⟨-, -, -, t, -, -, -, ht⟩ := f9 j hj
        rcases ht with ⟨z, -⟩ | ⟨q, z1, z2, z3, z4⟩
        · rw [h2] at z; cases z
        · rcases z4 with z4 | z4
          · rw [h2] at z4; cases z4
          · exact ⟨q, z1, z2, z3, z4.2⟩
      have hmod : ∀ Z : Int32 → MS → Prop, (¬ y < 0) → y ≤ 3 → ((¬ y = 0 → (¬ y = 1 → (¬ y = 2 → Z (sumI u i c) u) ∧ (y = 2 → (u 111 i = 0 → Z 0 u) ∧ (¬ u 111 i = 0 → Z 1 u))) ∧ (y = 1 → Z (cntI u i 1 c) u)) ∧ (y = 0 → Z (cntI u i 2 c) u)) → mMT M_Mod_fetched [qr 1 (some 0), qi (nI i), qi y] u (mI Z) := by
        intro Z y0 y3 hh
        refine mt_Mod_fetched (c_Mod_isNode ⟨fun c => absurd c m0, fun _ => ⟨vi, fun c => absurd c n109, fun _ => ⟨fun c => absurd c y0, fun _ => ⟨fun _ => ?_, fun c => absurd y3 c⟩⟩⟩⟩)
        have e10 : (10 : Int32) * nI i = nI (10 * i) := by rw [nl_10, pk_mul]
        rw [e10]
        have key : ∀ j, j ≤ c → mWP M_Mod_fetched 35 [qr 1 (some 0), qi (nI i), qi y, qi (sumI u i j), qi (nI (10 * i + j))] [] u (mI Z) := by
          refine dn c ?_ ?_
          · refine mb_Mod_fetched_35 ⟨vi, fun _ => ?_, fun hc => absurd ?_ hc⟩
            · rw [cl]
              exact ⟨fun k1 => ⟨(hh.1 k1).1, fun k2 => c_Mod_inState hi f1 f4 ((hh.1 k1).2 k2)⟩, fun k1 => c_Mod_inState hi f1 f4 (hh.2 k1)⟩
            · rw [cl, f4, e10, nI_add]; exact nI_le (Nat.le_refl _) (by omega)
          · intro j hj ih
            refine mb_Mod_fetched_35 ⟨vi, fun hc => ?_, fun _ => ⟨(vpi (by omega)).mpr (by omega), fun h1 => ?_, fun h1 => ?_⟩⟩
            · rw [cl, f4, e10, nI_add] at hc
              exact absurd hc (nI_ge (by omega) (by omega))
            · rw [nI_clamp (by omega)] at h1
              exact meq ih (by rw [nI_1]; simp [sumI, h1]; rfl)
            · rw [nI_clamp (by omega)] at h1 ⊢
              obtain ⟨-, -, -, t, -, -, -, ht⟩ := f9 j hj
              rcases ht with ⟨z, -⟩ | ⟨q, z1, z2, z3, z4⟩
              · rw [h1] at z; cases z
              · refine ⟨by rw [z3]; exact (vpi (by omega)).mpr (by omega), meq ih ?_⟩
                rw [nI_1]
                have e : sumI u i (j + 1) = sumI u i j + u 108 (u 115 (10 * i + j)).toNatClampNeg := if_pos h1
                rw [e]; rfl
        exact key 0 (Nat.zero_le _)
      by_cases y0 : y = 0
      · subst y0
        exact ⟨cntI u i 2 c, u, fun Z hz => hmod Z (by decide) (by decide) ⟨fun c => absurd rfl c, fun _ => hz⟩, fun X Z hz => hcls X Z ⟨fun _ => hz g hr0, fun c => absurd c (by decide), fun c => absurd c (by decide), fun c => absurd c (by decide), fun c => absurd rfl c.1⟩⟩
      · by_cases y1 : y = 1
        · subst y1
          exact ⟨cntI u i 1 c, u, fun Z hz => hmod Z (by decide) (by decide) ⟨fun _ => ⟨fun c => absurd rfl c, fun _ => hz⟩, fun c => absurd c (by decide)⟩, fun X Z hz => hcls X Z ⟨fun c => absurd c (by decide), fun _ => hz g hr0, fun c => absurd c (by decide), fun c => absurd c (by decide), fun c => absurd rfl c.2.1⟩⟩
        · by_cases y2 : y = 2
          · subst y2
            refine ⟨if u 111 i = 0 then 0 else 1, u, fun Z hz => hmod Z (by decide) (by decide) ⟨fun _ => ⟨fun _ => ⟨fun c => absurd rfl c, fun _ => ⟨fun c => ?_, fun c => ?_⟩⟩, fun c => absurd c (by decide)⟩, fun c => absurd c (by decide)⟩, fun X Z hz => hcls X Z ⟨fun c => absurd c (by decide), fun c => absurd c (by decide), fun _ => ⟨fun c => ?_, fun c => ?_⟩, fun c => absurd c (by decide), fun c => absurd rfl c.2.2.1⟩⟩
            · rw [if_pos c] at hz; exact hz
            · rw [if_neg c] at hz; exact hz
            · have := hz g hr0
              rw [f7] at c
              rw [if_pos c] at this; exact this
            · have := hz g hr0
              rw [f7] at c
              rw [if_neg c] at this; exact this
          · by_cases y3 : y = 3
            · subst y3
              exact ⟨sumI u i c, u, fun Z hz => hmod Z (by decide) (by decide) ⟨fun _ => ⟨fun _ => ⟨fun _ => hz, fun c => absurd c (by decide)⟩, fun c => absurd c (by decide)⟩, fun c => absurd c (by decide)⟩, fun X Z hz => hcls X Z ⟨fun c => absurd c (by decide), fun c => absurd c (by decide), fun c => absurd c (by decide), fun _ => hz g hr0, fun c => absurd rfl c.2.2.2⟩⟩
            · have hy : y < 0 ∨ ¬ y ≤ 3 := by
                by_cases hn : y < 0
                · exact Or.inl hn
                · refine Or.inr fun hle => ?_
                  obtain ⟨j, hj, rfl⟩ := nI_of2 (n := 3) (by decide) hn hle
                  rcases (show j = 0 ∨ j = 1 ∨ j = 2 ∨ j = 3 by omega) with rfl | rfl | rfl | rfl
                  · exact y0 rfl
                  · exact y1 rfl
                  · exact y2 rfl
                  · exact y3 rfl
              refine ⟨-1, u, fun Z hz => mt_Mod_fetched (c_Mod_isNode ⟨fun c => absurd c m0, fun _ => ⟨vi, fun c => absurd c n109, fun _ => ⟨fun _ => hz, fun k1 => ⟨fun k2 => ?_, fun _ => hz⟩⟩⟩⟩), fun X Z hz => hcls X Z ⟨fun c => absurd c y0, fun c => absurd c y1, fun c => absurd c y2, fun c => absurd c y3, fun _ => hz g hr0⟩⟩
              rcases hy with hy | hy
              · exact absurd hy k1
              · exact absurd k2 hy
