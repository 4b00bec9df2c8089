/-! the beginning: what a new object leaves -/
def sm (g g' : sg) (f x : Nat) : Prop := (∀ y, gI g' f x y = gI g f x y) ∧ (∀ y, gR g' f x y = gR g f x y) ∧ gA g' f x = gA g f x
theorem sm.rf {g : sg} {f x : Nat} : sm g g f x := ⟨fun _ => rfl, fun _ => rfl, rfl⟩
theorem sm.tr {g g1 g2 : sg} {f x : Nat} (h : sm g g1 f x) (k : sm g1 g2 f x) : sm g g2 f x := ⟨fun y => (k.1 y).trans (h.1 y), fun y => (k.2.1 y).trans (h.2.1 y), k.2.2.trans h.2.2⟩
def odn (c a : Nat) (g g' : sg) : Prop := (∀ k, gC g k ≤ gC g' k) ∧ ∀ f x, x < gC g (f / 64) → ¬ (f / 64 = c ∧ x = a) → sm g g' f x
theorem odn.rf {c a : Nat} {g : sg} : odn c a g g := ⟨fun _ => Nat.le_refl _, fun _ _ _ _ => sm.rf⟩
theorem odn.tr {c a : Nat} {g g1 g2 : sg} (h : odn c a g g1) (k : odn c a g1 g2) : odn c a g g2 := ⟨fun i => Nat.le_trans (h.1 i) (k.1 i), fun f x h1 h2 => (h.2 f x h1 h2).tr (k.2 f x (Nat.lt_of_lt_of_le h1 (h.1 _)) h2)⟩
theorem odn.ch {c a c' a' : Nat} {g g' : sg} (h : odn c a g g') (ha : gC g c ≤ a) : odn c' a' g g' := ⟨h.1, fun f x h1 _ => h.2 f x h1 (fun z => by rw [z.1] at h1; omega)⟩
theorem odn.N {c a k : Nat} {g g' : sg} (h : odn c a g g') : odn c a g (pN g' k) := by
  refine ⟨fun i => ?_, fun f x h1 h2 => (h.2 f x h1 h2).tr ?_⟩
  · rw [gC_pN]
    have := h.1 i
    split <;> omega
  · have : ¬ (f / 64 = k ∧ x = gC g' k) := fun z => by
      have := h.1 (f / 64)
      rw [z.1] at h1 this
      omega
    exact ⟨fun y => by rw [gI_pN, if_neg this], fun y => by rw [gR_pN, if_neg this], by rw [gA_pN, if_neg this]⟩
theorem odn.I {c a f x y : Nat} {v : Int32} {g g' : sg} (h : odn c a g g') (hx : gC g (f / 64) ≤ x ∨ (f / 64 = c ∧ x = a)) : odn c a g (pI g' f x y v) := by
  refine ⟨h.1, fun f' x' h1 h2 => (h.2 f' x' h1 h2).tr ⟨fun y' => ?_, fun _ => rfl, rfl⟩⟩
  rw [gI_pI, if_neg]
  rintro ⟨rfl, rfl, -⟩
  rcases hx with q | q
  · omega
  · exact h2 q
theorem odn.R {c a f x y : Nat} {v : Option Nat} {g g' : sg} (h : odn c a g g') (hx : gC g (f / 64) ≤ x ∨ (f / 64 = c ∧ x = a)) : odn c a g (pR g' f x y v) := by
  refine ⟨h.1, fun f' x' h1 h2 => (h.2 f' x' h1 h2).tr ⟨fun _ => rfl, fun y' => ?_, rfl⟩⟩
  rw [gR_pR, if_neg]
  rintro ⟨rfl, rfl, -⟩
  rcases hx with q | q
  · omega
  · exact h2 q
theorem odn.A {c a f x n : Nat} {g g' : sg} (h : odn c a g g') (hx : gC g (f / 64) ≤ x ∨ (f / 64 = c ∧ x = a)) : odn c a g (pA g' f x n) := by
  refine ⟨h.1, fun f' x' h1 h2 => (h.2 f' x' h1 h2).tr ?_⟩
  have : ¬ (f' = f ∧ x' = x) := by
    rintro ⟨rfl, rfl⟩
    rcases hx with q | q
    · omega
    · exact h2 q
  exact ⟨fun y => by rw [gI_pA, if_neg this], fun y => by rw [gR_pA, if_neg this], by rw [gA_pA, if_neg this]⟩
def faOK (g : sg) (e : Nat) : Prop := gI g 192 e 0 = -1 ∧ gI g 193 e 0 = -1 ∧ gI g 194 e 0 = 0 ∧ gI g 196 e 0 = 0 ∧ gA g 195 e = some 8
theorem faOK.tr {c a e : Nat} {g g' : sg} (h : faOK g e) (k : odn c a g g') (he : e < gC g 3) (hc : c ≠ 3) : faOK g' e := by
  have q : ∀ f, f / 64 = 3 → sm g g' f e := fun f hf => k.2 f e (by rw [hf]; exact he) (fun z => hc (by omega))
  unfold faOK
  rw [(q 192 rfl).1, (q 193 rfl).1, (q 194 rfl).1, (q 196 rfl).1, (q 195 rfl).2.2]
  exact h
def faS (g : sg) : sg := pA (pI (pI (pN g 3) 192 (gC g 3) 0 (-1)) 193 (gC g 3) 0 (-1)) 195 (gC g 3) 8
theorem faS_ok (g : sg) : faOK (faS g) (gC g 3) := by
  unfold faOK faS
  simp [gI_pA, gI_pI, gI_pN, gA_pA]
theorem faces_loop {X : Nat × (Nat → Int32)} {a e0 : Nat} {l2 l3 : Int32} {Z : sg → Prop} : ∀ d j kk g, j + d = 4 → 2 * d ≤ kk → a < gC g 6 → gA g 385 a = some 4 → gC g 3 = e0 + j →
    (∀ g', odn 6 a g g' → (∀ c, c ≠ 3 → gC g' c = gC g c) → gC g' 3 = e0 + 4 → (∀ f, f / 64 = 6 → (∀ y, gI g' f a y = gI g f a y) ∧ gA g' f a = gA g f a ∧ ∀ y, (f ≠ 385 ∨ y < j) → gR g' f a y = gR g f a y) → (∀ f, j ≤ f → f < 4 → gR g' 385 a f = some (e0 + f) ∧ faOK g' (e0 + f)) → nnWP X M_Node_init (kk - 2 * d) 42 [qr 6 (some a), none, qi l2, qi l3, qi (nI 4)] [] g' (zV Z)) →
    nnWP X M_Node_init kk 42 [qr 6 (some a), none, qi l2, qi l3, qi (nI j)] [] g (zV Z) := by
  intro d
  induction d with
  | zero =>
    intro j kk g hj _ _ _ hc hZ
    obtain rfl : j = 4 := by omega
    exact hZ g odn.rf (fun _ _ => rfl) hc (fun _ _ => ⟨fun _ => rfl, rfl, fun _ _ => rfl⟩) (fun f h1 h2 => absurd h2 (by omega))
  | succ d ih =>
    intro j kk g hj hk ha hA hc hZ
    refine b_Node_init_42 ⟨fun q => ?_, fun _ => ⟨hA, by omega, fun g7 y7 => ⟨by omega, t_Face_init fun x1 z1 x2 z2 => ⟨Nat.le_refl _, ?_, fun x3 z3 _ => ⟨(vpi (by omega)).mpr (by omega), fun g9 y9 => ?_⟩⟩⟩⟩⟩
    · rw [show (4 : Int32) = nI 4 from rfl, nI_leI (by omega) (by omega)] at q
      omega
    · subst z2 z1 y7
      rw [gA_pI, gA_pI, gA_pN, if_pos ⟨rfl, rfl⟩]
    · rw [nI_clamp (show j < 2 ^ 31 by omega)] at y9
      have e9 : g9 = pR (faS g) 385 a j (some (gC g 3)) := by
        subst y9 z3 z2 z1 y7
        rfl
      have o9 : odn 6 a g g9 := by
        rw [e9]
        exact ((((odn.rf.N).I (Or.inl (Nat.le_refl _))).I (Or.inl (Nat.le_refl _))).A (Or.inl (Nat.le_refl _))).R (Or.inr ⟨rfl, rfl⟩)
      have c9 : ∀ c, c ≠ 3 → gC g9 c = gC g c := fun c hc3 => by
        rw [e9]
        show gC (pN g 3) c = gC g c
        rw [gC_pN, if_neg hc3]
      have c93 : gC g9 3 = e0 + (j + 1) := by
        rw [e9]
        show gC (pN g 3) 3 = _
        rw [gC_pN, if_pos rfl, hc]
        omega
      have f9 : ∀ f, f / 64 = 6 → (∀ y, gI g9 f a y = gI g f a y) ∧ gA g9 f a = gA g f a ∧ ∀ y, ¬ (f = 385 ∧ y = j) → gR g9 f a y = gR g f a y := by
        intro f hf
        have n1 : ¬ (f = 195 ∧ a = gC g 3) := by omega
        have n2 : ¬ (f / 64 = 3 ∧ a = gC g 3) := by omega
        rw [e9]
        refine ⟨fun y => ?_, ?_, fun y hy => ?_⟩
        · unfold faS
          rw [gI_pR, gI_pA, if_neg n1, gI_pI, if_neg (by omega), gI_pI, if_neg (by omega), gI_pN, if_neg n2]
        · unfold faS
          rw [gA_pR, gA_pA, if_neg n1, gA_pI, gA_pI, gA_pN, if_neg n2]
        · rw [gR_pR, if_neg (fun z => hy ⟨z.1, z.2.2⟩)]
          unfold faS
          rw [gR_pA, if_neg n1, gR_pI, gR_pI, gR_pN, if_neg n2]
      have hj9 : gR g9 385 a j = some (e0 + j) := by rw [e9, gR_pR, if_pos ⟨rfl, rfl, rfl⟩, hc]
      have ok9 : faOK g9 (e0 + j) := by
        rw [e9, ← hc]
        exact faS_ok g
      rw [nI_1]
      refine ih (j + 1) (kk - 1 - 1) g9 (by omega) (by omega) (by rw [c9 6 (by decide)]; exact ha) (by rw [(f9 385 rfl).2.1]; exact hA) c93 fun g' o' c' c3' f' r' => ?_
      rw [show kk - 1 - 1 - 2 * d = kk - 2 * (d + 1) by omega]
      refine hZ g' (o9.tr o') (fun c h3 => (c' c h3).trans (c9 c h3)) c3' (fun f hf => ?_) (fun f h1 h2 => ?_)
      · obtain ⟨p1, p2, p3⟩ := f' f hf
        obtain ⟨q1, q2, q3⟩ := f9 f hf
        exact ⟨fun y => (p1 y).trans (q1 y), p2.trans q2, fun y hy => (p3 y (by omega)).trans (q3 y (by omega))⟩
      · by_cases e : f = j
        · subst e
          refine ⟨?_, ok9.tr o' (by rw [c93]; omega) (by decide)⟩
          rw [((f' 385 rfl).2.2 f (Or.inr (by omega)))]
          exact hj9
        · exact r' f (by omega) h2
def enS (g : sg) : sg := pA (pA (pA (pA (pN g 2) 131 (gC g 2) 5) 132 (gC g 2) 5) 133 (gC g 2) 5) 134 (gC g 2) 5
theorem enA_tr {c a e : Nat} {g g' : sg} (h : enA g e) (k : odn c a g g') (he : e < gC g 2) (hc : c ≠ 2) : enA g' e := by
  have q : ∀ f, f / 64 = 2 → sm g g' f e := fun f hf => k.2 f e (by rw [hf]; exact he) (fun z => hc (by omega))
  unfold enA
  rw [(q 131 rfl).2.2, (q 132 rfl).2.2, (q 133 rfl).2.2, (q 134 rfl).2.2]
  exact h
theorem enS_ok (g : sg) : enA (enS g) (gC g 2) := by
  unfold enA enS
  simp [gA_pA]
theorem ents_loop {X : Nat × (Nat → Int32)} {x e0 P : Nat} {Z : sg → Prop} (hP : P ≤ 6) : ∀ d j kk g, j + d = P → 5 * d ≤ kk → x < gC g 8 → gA g 512 x = some P → gC g 2 = e0 + j →
    (∀ g', odn 8 x g g' → (∀ c, c ≠ 2 → gC g' c = gC g c) → gC g' 2 = e0 + P → (∀ f, f / 64 = 8 → (∀ y, gI g' f x y = gI g f x y) ∧ gA g' f x = gA g f x ∧ ∀ y, (f ≠ 512 ∨ y < j) → gR g' f x y = gR g f x y) → (∀ m, j ≤ m → m < P → gR g' 512 x m = some (e0 + m) ∧ enA g' (e0 + m)) → Z g') →
    nnWP X M_Pending_init kk 14 [qr 8 (some x), qi (nI P), qi (nI j)] [] g (zV Z) := by
  intro d
  induction d with
  | zero =>
    intro j kk g hj _ _ _ hc hZ
    obtain rfl : j = P := by omega
    exact b_Pending_init_14 ⟨fun _ => hZ g odn.rf (fun _ _ => rfl) hc (fun _ _ => ⟨fun _ => rfl, rfl, fun _ _ => rfl⟩) (fun f h1 h2 => absurd h2 (by omega)), fun q => absurd (nI_le (Nat.le_refl _) (by omega)) q⟩
  | succ d ih =>
    intro j kk g hj hk hx hA hc hZ
    refine b_Pending_init_14 ⟨fun q => absurd q (nI_ge (by omega) (by omega)), fun _ => ⟨P, hA, by omega, fun g1 y1 => ⟨by omega, t_Entry_init ⟨by omega, ?_, fun x1 z1 => ⟨by omega, ?_, fun x2 z2 => ⟨by omega, ?_, fun x3 z3 => ⟨by omega, ?_, fun x4 z4 _ => ⟨(vpi (by omega)).mpr (by omega), fun g9 y9 => ?_⟩⟩⟩⟩⟩⟩⟩⟩
    · subst y1; rw [gA_pN, if_pos ⟨rfl, rfl⟩]
    · subst z1 y1; rw [gA_pA, if_neg (by omega), gA_pN, if_pos ⟨rfl, rfl⟩]
    · subst z2 z1 y1; rw [gA_pA, if_neg (by omega), gA_pA, if_neg (by omega), gA_pN, if_pos ⟨rfl, rfl⟩]
    · subst z3 z2 z1 y1; rw [gA_pA, if_neg (by omega), gA_pA, if_neg (by omega), gA_pA, if_neg (by omega), gA_pN, if_pos ⟨rfl, rfl⟩]
    · rw [nI_clamp (show j < 2 ^ 31 by omega)] at y9
      have e9 : g9 = pR (enS g) 512 x j (some (gC g 2)) := by
        subst y9 z4 z3 z2 z1 y1
        rfl
      have o9 : odn 8 x g g9 := by
        rw [e9]
        exact (((((odn.rf.N).A (Or.inl (Nat.le_refl _))).A (Or.inl (Nat.le_refl _))).A (Or.inl (Nat.le_refl _))).A (Or.inl (Nat.le_refl _))).R (Or.inr ⟨rfl, rfl⟩)
      have c9 : ∀ c, c ≠ 2 → gC g9 c = gC g c := fun c hc3 => by
        rw [e9]
        show gC (pN g 2) c = gC g c
        rw [gC_pN, if_neg hc3]
      have c93 : gC g9 2 = e0 + (j + 1) := by
        rw [e9]
        show gC (pN g 2) 2 = _
        rw [gC_pN, if_pos rfl, hc]
        omega
      have f9 : ∀ f, f / 64 = 8 → (∀ y, gI g9 f x y = gI g f x y) ∧ gA g9 f x = gA g f x ∧ ∀ y, ¬ (f = 512 ∧ y = j) → gR g9 f x y = gR g f x y := by
        intro f hf
        rw [e9]
        refine ⟨fun y => ?_, ?_, fun y hy => ?_⟩
        · unfold enS
          rw [gI_pR, gI_pA, if_neg (by omega), gI_pA, if_neg (by omega), gI_pA, if_neg (by omega), gI_pA, if_neg (by omega), gI_pN, if_neg (by omega)]
        · unfold enS
          rw [gA_pR, gA_pA, if_neg (by omega), gA_pA, if_neg (by omega), gA_pA, if_neg (by omega), gA_pA, if_neg (by omega), gA_pN, if_neg (by omega)]
        · rw [gR_pR, if_neg (fun z => hy ⟨z.1, z.2.2⟩)]
          unfold enS
          rw [gR_pA, if_neg (by omega), gR_pA, if_neg (by omega), gR_pA, if_neg (by omega), gR_pA, if_neg (by omega), gR_pN, if_neg (by omega)]
      have hj9 : gR g9 512 x j = some (e0 + j) := by rw [e9, gR_pR, if_pos ⟨rfl, rfl, rfl⟩, hc]
      have ok9 : enA g9 (e0 + j) := by
        rw [e9, ← hc]
        exact enS_ok g
      rw [nI_1]
      refine ih (j + 1) (kk - 1 - 4) g9 (by omega) (by omega) (by rw [c9 8 (by decide)]; exact hx) (by rw [(f9 512 rfl).2.1]; exact hA) c93 fun g' o' c' c3' f' r' => ?_
      refine hZ g' (o9.tr o') (fun c h3 => (c' c h3).trans (c9 c h3)) c3' (fun f hf => ?_) (fun f h1 h2 => ?_)
      · obtain ⟨p1, p2, p3⟩ := f' f hf
        obtain ⟨q1, q2, q3⟩ := f9 f hf
        exact ⟨fun y => (p1 y).trans (q1 y), p2.trans q2, fun y hy => (p3 y (by omega)).trans (q3 y (by omega))⟩
      · by_cases e : f = j
        · subst e
          refine ⟨?_, enA_tr ok9 o' (by rw [c93]; omega) (by decide)⟩
          rw [((f' 512 rfl).2.2 f (Or.inr (by omega)))]
          exact hj9
        · exact r' f (by omega) h2
theorem pend_c {X : Nat × (Nat → Int32)} {P : Nat} {g : sg} {Z : sg → Prop} (hP1 : 1 ≤ P) (hP : P ≤ 6) (hZ : ∀ g', odn 8 (gC g 8) g g' → (∀ c, c ≠ 2 → c ≠ 8 → gC g' c = gC g c) → gC g' 2 = gC g 2 + P → gC g' 8 = gC g 8 + 1 → gA g' 512 (gC g 8) = some P → gI g' 513 (gC g 8) 0 = 0 → (∀ m, m < P → gR g' 512 (gC g 8) m = some (gC g 2 + m) ∧ enA g' (gC g 2 + m)) → Z g') : nnMT X M_Pending_init 31 [qr 8 (some (gC g 8)), qi (nI P)] (pN g 8) (zV Z) := by
  refine t_Pending_init ⟨P, rfl, by omega, by omega, by rw [gA_pN, if_pos ⟨rfl, rfl⟩], fun g1 y1 => ?_⟩
  have o1 : odn 8 (gC g 8) g g1 := by rw [y1]; exact (odn.rf.N).A (Or.inr ⟨rfl, rfl⟩)
  have A1 : gA g1 512 (gC g 8) = some P := by rw [y1, gA_pA, if_pos ⟨rfl, rfl⟩]
  have C2 : gC g1 2 = gC g 2 + 0 := by rw [y1]; rfl
  have C8 : gC g1 8 = gC g 8 + 1 := by rw [y1]; rfl
  have Co : ∀ c, c ≠ 8 → gC g1 c = gC g c := fun c h => by
    rw [y1]
    show gC (pN g 8) c = _
    rw [gC_pN, if_neg h]
  have I1 : gI g1 513 (gC g 8) 0 = 0 := by rw [y1, gI_pA, if_neg (by omega), gI_pN, if_pos ⟨rfl, rfl⟩]
  refine ents_loop (e0 := gC g 2) hP P 0 (31 - 1) g1 (by omega) (by omega) (by omega) A1 C2 fun g' o' c' c2' f' r' => ?_
  refine hZ g' (o1.tr o') (fun c h2 h8 => (c' c h2).trans (Co c h8)) c2' ((c' 8 (by decide)).trans C8) ((f' 512 rfl).2.1.trans A1) (((f' 513 rfl).1 0).trans I1) (fun m hm => r' m (by omega) hm)
