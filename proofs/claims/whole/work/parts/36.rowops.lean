def addG (g : sg) (i m : Nat) (x y : Int32) : sg := pI (pR (newRj g x y 5) 704 i m (some (gC g 10))) 705 i 0 (nI (m + 1))
theorem c_Routes_make {X : Nat × (Nat → Int32)} {kk R i m : Nat} {ρ π : Nat → Nat} {g : sg} {u : MS} {x y : Int32} {Z : Option Nat → sg → Prop} (hk : 2 ≤ kk) (hR : R ≤ 50) (hA : gA g 704 i = some 50) (hn : rRn R i m ρ π g u) (hm : m < 50) (h : (cn (fun j => decide (u 80 (π j) = x)) m < 10 → Z (some (gC g 10)) (addG g i m x y)) ∧ (¬ cn (fun j => decide (u 80 (π j) = x)) m < 10 → Z none g)) : nnMT X M_Routes_make kk [qr 11 (some i), qi x, qi y] g (zR 10 Z) := by
  have h2 := hn.2.1
  have hcl := cn_le (fun j => decide (u 80 (π j) = x)) m
  refine t_Routes_make (c_Routes_countOf hR hA hn fun _ => ⟨fun c => h.2 ?_, fun c => ⟨hA, fun c2 => ⟨by omega, fun g2 hg2 => ?_⟩, fun c2 => absurd ?_ c2⟩⟩)
  · rw [nl_10, nI_leI (by omega) (by omega)] at c
    omega
  · rw [nl_10, nI_leI (by omega) (by omega)] at c
    subst hg2
    refine ⟨by omega, c_Route_init (Nat.le_refl _) fun _ => ?_⟩
    have e705 : gI (newRj g x y 5) 705 i 0 = nI m := h2
    rw [e705, nI_clamp (by omega)]
    refine ⟨(vpi (by omega)).mpr hm, fun g4 h4 g5 h5 => ?_⟩
    have e705' : gI g4 705 i 0 = nI m := by rw [h4]; exact h2
    rw [e705', nI_1] at h5
    subst h4 h5
    exact h.1 (by omega)
  · rw [h2, nI_ltI (by omega) (by omega)]; exact hm
theorem addG_old {g : sg} {i m : Nat} {x y : Int32} {a : Nat} (ha : a < gC g 10) (f k : Nat) (hf : f ≠ 705) : gI (addG g i m x y) f a k = gI g f a k := by
  unfold addG
  rw [gI_pI, if_neg (fun z => hf z.1)]
  show (if f / 64 = 10 ∧ a = g.1 10 then _ else g.2.1 f a k) = _
  rw [if_neg (fun z => by have : a = gC g 10 := z.2; omega)]
  rfl
theorem addG_oldA {g : sg} {i m : Nat} {x y : Int32} {a : Nat} (ha : a < gC g 10) (f : Nat) : gA (addG g i m x y) f a = gA g f a := by
  show (if f / 64 = 10 ∧ a = g.1 10 then _ else g.2.2.2 f a) = _
  rw [if_neg (fun z => by have : a = gC g 10 := z.2; omega)]
  rfl
theorem addG_704 {g : sg} {i m : Nat} {x y : Int32} (a k : Nat) : gR (addG g i m x y) 704 a k = if a = i ∧ k = m then some (gC g 10) else gR g 704 a k := by
  unfold addG
  rw [gR_pI, gR_pR]
  by_cases h : a = i ∧ k = m
  · rw [if_pos ⟨rfl, h⟩, if_pos h]
  · rw [if_neg (fun z => h z.2), if_neg h]
    rfl
theorem addG_705 {g : sg} {i m : Nat} {x y : Int32} (a : Nat) : gI (addG g i m x y) 705 a 0 = if a = i then nI (m + 1) else gI g 705 a 0 := by
  unfold addG
  rw [gI_pI]
  by_cases h : a = i
  · rw [if_pos ⟨rfl, h, rfl⟩, if_pos h]
  · rw [if_neg (fun z => h z.2.1), if_neg h]
    rfl
/-- rows that the reference has and the node hasn't: the node has fewer -/
theorem rRn.less {R i m r : Nat} {ρ π : Nat → Nat} {g : sg} {u : MS} (h : rRn R i m ρ π g u) (hr : r < R) (hno : ∀ j, j < m → π j ≠ r) : m < R ∧ ∀ x, u 80 r = x → cn (fun j => decide (u 80 (π j) = x)) m < cn (fun r => decide (u 80 r = x)) R := by
  obtain ⟨h1, h2, h3, h4, h5, h6⟩ := h
  constructor
  · have := cn_inj (f := π) (n := m) (m := R) (p := fun _ => true) (q := fun k => true && !decide (k = r)) (fun k hk _ => ⟨(h3 k hk).2.2.2.1, by simp [hno k hk]⟩) (fun j k hj hk _ _ e => h4 j k hj hk e)
    have e := cn_rm (q := fun _ => true) (x := r) rfl R hr
    rw [cn_all] at this e
    omega
  · intro x hx
    have e := cn_rm (q := fun r => decide (u 80 r = x)) (x := r) (by simp [hx]) R hr
    have := cn_inj (f := π) (n := m) (m := R) (p := fun j => decide (u 80 (π j) = x)) (q := fun k => decide (u 80 k = x) && !decide (k = r)) (fun k hk hp => ⟨(h3 k hk).2.2.2.1, by simp only [decide_eq_true_eq] at hp; simp [hp, hno k hk]⟩) (fun j k hj hk _ _ e => h4 j k hj hk e)
    omega
theorem rRn_add {R i m r : Nat} {ρ π : Nat → Nat} {g : sg} {u : MS} {x y : Int32} (h : rRn R i m ρ π g u) (hr : r < R) (hno : ∀ j, j < m → π j ≠ r) (hx : x = u 80 r) (hy : y = u 81 r) : rRn R i (m + 1) (fun j => if j = m then gC g 10 else ρ j) (fun j => if j = m then r else π j) (addG g i m x y) u := by
  have hless := (h.less hr hno).1
  obtain ⟨h1, h2, h3, h4, h5, h6⟩ := h
  obtain ⟨z1, z2⟩ := h5 r hr hno
  refine ⟨by omega, by rw [addG_705, if_pos rfl], fun j hj => ?_, fun j k hj hk e => ?_, fun r' hr' hno' => ?_, fun r' hr' ho => ?_⟩
  · by_cases hjm : j = m
    · subst hjm
      dsimp only
      rw [if_pos rfl, if_pos rfl, addG_704, if_pos ⟨rfl, rfl⟩]
      have eI : ∀ f k, f / 64 = 10 → f ≠ 705 → gI (addG g i j x y) f (gC g 10) k = (if f = 640 ∧ k = 0 then x else if f = 641 ∧ k = 0 then y else if f = 643 ∧ k < 5 then -1 else 0) := by
        intro f k hf h705
        unfold addG
        rw [gI_pI, if_neg (fun z => h705 z.1)]
        show (if f / 64 = 10 ∧ gC g 10 = g.1 10 then _ else _) = _
        rw [if_pos ⟨hf, rfl⟩]
      refine ⟨rfl, ?_, ?_, hr, ?_, ?_, ?_, fun f hf => ⟨0, by omega, z2 f hf, ?_⟩⟩
      · show gC g 10 < if 10 = 10 then g.1 10 + 1 else g.1 10
        rw [if_pos rfl]; exact Nat.lt_succ_self _
      · show (if 643 / 64 = 10 ∧ gC g 10 = g.1 10 then (if (643 : Nat) = 643 then some 5 else none) else _) = some 5
        rw [if_pos ⟨rfl, rfl⟩, if_pos rfl]
      · rw [eI 640 0 rfl (by decide), if_pos ⟨rfl, rfl⟩]; exact hx
      · rw [eI 641 0 rfl (by decide), if_neg (by omega), if_pos ⟨rfl, rfl⟩]; exact hy
      · rw [eI 642 0 rfl (by decide), if_neg (by omega), if_neg (by omega), if_neg (by omega)]; exact z1.symm
      · rw [eI 643 f rfl (by decide), if_neg (by omega), if_neg (by omega), if_pos ⟨rfl, hf⟩]; decide
    · have hj' : j < m := by omega
      obtain ⟨r1, r2, r3, r4, r5, r6, r7, r8⟩ := h3 j hj'
      dsimp only
      rw [if_neg hjm, if_neg hjm, addG_704, if_neg (fun z => hjm z.2), addG_oldA r2, addG_old r2 _ _ (by decide), addG_old r2 _ _ (by decide), addG_old r2 _ _ (by decide)]
      refine ⟨r1, ?_, r3, r4, r5, r6, r7, fun f hf => ?_⟩
      · show ρ j < if 10 = 10 then g.1 10 + 1 else g.1 10
        rw [if_pos rfl]; exact Nat.lt_succ_of_lt r2
      · rw [addG_old r2 _ _ (by decide)]; exact r8 f hf
  · dsimp only at e
    by_cases hjm : j = m <;> by_cases hkm : k = m
    · omega
    · rw [if_pos hjm, if_neg hkm] at e
      exact absurd e.symm (hno k (by omega))
    · rw [if_neg hjm, if_pos hkm] at e
      exact absurd e (hno j (by omega))
    · rw [if_neg hjm, if_neg hkm] at e
      exact h4 j k (by omega) (by omega) e
  · refine h5 r' hr' fun j hj e => hno' j (by omega) ?_
    show (if j = m then r else π j) = r'
    rw [if_neg (by omega)]; exact e
  · obtain ⟨⟨j, hj, e⟩, k2⟩ := h6 r' hr' ho
    exact ⟨⟨j, by omega, by show (if j = m then r else π j) = r'; rw [if_neg (by omega)]; exact e⟩, k2⟩
theorem rRn_other {R i i' m m' : Nat} {ρ π : Nat → Nat} {g : sg} {u : MS} {x y : Int32} (h : rRn R i' m' ρ π g u) (hne : i' ≠ i) : rRn R i' m' ρ π (addG g i m x y) u := by
  obtain ⟨h1, h2, h3, h4, h5, h6⟩ := h
  refine ⟨h1, by rw [addG_705, if_neg hne]; exact h2, fun j hj => ?_, h4, h5, h6⟩
  obtain ⟨r1, r2, r3, r4, r5, r6, r7, r8⟩ := h3 j hj
  rw [addG_704, if_neg (fun z => hne z.1), addG_oldA r2, addG_old r2 _ _ (by decide), addG_old r2 _ _ (by decide), addG_old r2 _ _ (by decide)]
  refine ⟨r1, ?_, r3, r4, r5, r6, r7, fun f hf => ?_⟩
  · show ρ j < if 10 = 10 then g.1 10 + 1 else g.1 10
    rw [if_pos rfl]; exact Nat.lt_succ_of_lt r2
  · rw [addG_old r2 _ _ (by decide)]; exact r8 f hf
/-- all rows stand at different places -/
def injR (g : sg) : Prop := ∀ i j i' j' a m m', i < 5 → i' < 5 → gI g 705 i 0 = nI m → gI g 705 i' 0 = nI m' → m ≤ 50 → m' ≤ 50 → j < m → j' < m' → gR g 704 i j = some a → gR g 704 i' j' = some a → i = i' ∧ j = j'
theorem injR_add {g : sg} {i m : Nat} {x y : Int32} (h : injR g) (hm : m < 50) (h705 : gI g 705 i 0 = nI m) (hold : ∀ i' j' m' a, i' < 5 → gI g 705 i' 0 = nI m' → m' ≤ 50 → j' < m' → gR g 704 i' j' = some a → a < gC g 10) : injR (addG g i m x y) := by
  intro i1 j1 i2 j2 a m1 m2 hi1 hi2 e1 e2 l1 l2 hj1 hj2 r1 r2
  rw [addG_705] at e1 e2
  rw [addG_704] at r1 r2
  by_cases c1 : i1 = i ∧ j1 = m <;> by_cases c2 : i2 = i ∧ j2 = m
  · exact ⟨c1.1.trans c2.1.symm, c1.2.trans c2.2.symm⟩
  · rw [if_pos c1] at r1
    rw [if_neg c2] at r2
    cases r1
    by_cases c3 : i2 = i
    · rw [if_pos c3, nI_eq (by omega) (by omega)] at e2
      have hne : ¬ j2 = m := fun z => c2 ⟨c3, z⟩
      have := hold i2 j2 m _ hi2 (by rw [c3]; exact h705) (by omega) (by omega) r2
      omega
    · rw [if_neg c3] at e2
      have := hold i2 j2 m2 _ hi2 e2 l2 hj2 r2
      omega
  · rw [if_neg c1] at r1
    rw [if_pos c2] at r2
    cases r2
    by_cases c3 : i1 = i
    · rw [if_pos c3, nI_eq (by omega) (by omega)] at e1
      have hne : ¬ j1 = m := fun z => c1 ⟨c3, z⟩
      have := hold i1 j1 m _ hi1 (by rw [c3]; exact h705) (by omega) (by omega) r1
      omega
    · rw [if_neg c3] at e1
      have := hold i1 j1 m1 _ hi1 e1 l1 hj1 r1
      omega
  · rw [if_neg c1] at r1
    rw [if_neg c2] at r2
    have f1 : ∃ n1, gI g 705 i1 0 = nI n1 ∧ n1 ≤ 50 ∧ j1 < n1 := by
      by_cases c3 : i1 = i
      · rw [if_pos c3, nI_eq (by omega) (by omega)] at e1
        have : ¬ j1 = m := fun z => c1 ⟨c3, z⟩
        exact ⟨m, by rw [c3]; exact h705, by omega, by omega⟩
      · rw [if_neg c3] at e1
        exact ⟨m1, e1, l1, hj1⟩
    have f2 : ∃ n2, gI g 705 i2 0 = nI n2 ∧ n2 ≤ 50 ∧ j2 < n2 := by
      by_cases c3 : i2 = i
      · rw [if_pos c3, nI_eq (by omega) (by omega)] at e2
        have : ¬ j2 = m := fun z => c2 ⟨c3, z⟩
        exact ⟨m, by rw [c3]; exact h705, by omega, by omega⟩
      · rw [if_neg c3] at e2
        exact ⟨m2, e2, l2, hj2⟩
    obtain ⟨n1, a1, a2, a3⟩ := f1
    obtain ⟨n2, b1, b2, b3⟩ := f2
    exact h i1 j1 i2 j2 a n1 n2 hi1 hi2 a1 b1 a2 b2 a3 b3 r1 r2
theorem rR.hold {R : Nat} {g : sg} {u : MS} (hR : R ≤ 50) (h : rR R g u) : ∀ i' j' m' a, i' < 5 → gI g 705 i' 0 = nI m' → m' ≤ 50 → j' < m' → gR g 704 i' j' = some a → a < gC g 10 := by
  intro i j m' a hi e l hj hr
  obtain ⟨m, ρ, π, h1, h2, h3, -⟩ := h.1 i hi
  rw [h2, nI_eq (by omega) (by omega)] at e
  obtain ⟨r1, r2, -⟩ := h3 j (by omega)
  rw [r1] at hr
  cases hr
  exact r2
theorem rR_add {R i m r : Nat} {ρ π : Nat → Nat} {g : sg} {u : MS} {x y : Int32} (h : rR R g u) (hR : R ≤ 50) (hi : i < 5) (hn : rRn R i m ρ π g u) (hr : r < R) (hno : ∀ j, j < m → π j ≠ r) (hx : x = u 80 r) (hy : y = u 81 r) : rR R (addG g i m x y) u := by
  refine ⟨fun i' hi' => ?_, injR_add h.2.1 (by have := (hn.less hr hno).1; omega) hn.2.1 (h.hold hR), h.2.2⟩
  by_cases hc : i' = i
  · subst hc
    exact ⟨m + 1, _, _, rRn_add hn hr hno hx hy⟩
  · obtain ⟨m', ρ', π', hn'⟩ := h.1 i' hi'
    exact ⟨m', ρ', π', rRn_other hn' hc⟩
