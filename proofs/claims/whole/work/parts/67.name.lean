/-! a name: the text's components, looked for and made -/
theorem text_p {g : sg} {u : MS} {S P : Nat} (hsh : shC S P g) (hT : rT g u) : ∃ t τ, txT u t τ ∧
    (((∀ Z : Int32 → MS → Prop, Z (-1) u → mMT M_Mod_parts [qr 1 (some 0)] u (mI Z)) ∧ ∀ (X : Nat × (Nat → Int32)) (kk : Nat) (Z : Int32 → sg → Prop), (∀ g', tyE g g' → Z (-1) g') → nnMT X M_Net_readText kk [qr 0 (some 0)] g (zI Z)) ∨
    ∃ L, txP τ 1 L ∧ L.length ≤ 4 ∧ (∀ Z : Int32 → MS → Prop, Z (nI L.length) u → mMT M_Mod_parts [qr 1 (some 0)] u (mI Z)) ∧ ∀ (X : Nat × (Nat → Int32)) (kk : Nat) (Z : Int32 → sg → Prop), (∀ g', tyE g g' → (∀ j x, L[j]? = some x → gI g' 4 0 j = nI (pk3 x.1 x.2.1 x.2.2)) → Z (nI L.length) g') → nnMT X M_Net_readText kk [qr 0 (some 0)] g (zI Z)) := by
  obtain ⟨-, -, t, ht, h3, h68, hk⟩ := hT
  have A2 : gA g 2 0 = some 24 := hsh.2.1.1
  have hTT : txT u t (fun k => if k < t then (u 69 k).toNatClampNeg else 47) := by
    refine ⟨ht, h68, fun k q => ?_, fun k q => if_neg (by omega)⟩
    obtain ⟨-, c, c1, c2, c3⟩ := hk k q
    dsimp only
    rw [if_pos q, c3, nI_clamp (show c < 2 ^ 31 by omega)]
    exact ⟨rfl, c1, c2⟩
  have hGG : txG g t (fun k => if k < t then (u 69 k).toNatClampNeg else 47) := by
    refine ⟨h3, fun k q => ?_⟩
    rw [(hk k q).1]
    exact (hTT.2.2.1 k q).1
  obtain ⟨τ, hτ⟩ : ∃ τ : Nat → Nat, τ = fun k => if k < t then (u 69 k).toNatClampNeg else 47 := ⟨_, rfl⟩
  rw [← hτ] at hTT hGG
  refine ⟨t, τ, hTT, ?_⟩
  have h0 : nI t = 0 ↔ t = 0 := by rw [← nI_0]; exact nI_eq (by omega) (by omega)
  have h1 : nI t = 1 ↔ t = 1 := by rw [show (1 : Int32) = nI 1 from rfl]; exact nI_eq (by omega) (by omega)
  have c0 : (0 : Int32).toNatClampNeg = 0 := rfl
  by_cases t0 : t = 0
  · refine Or.inl ⟨fun Z hZ => mt_Mod_parts ⟨fun _ => hZ, fun q => absurd ?_ q⟩, fun X kk Z hZ => t_Net_readText ⟨fun _ => hZ g tyE.rf, fun q => absurd ?_ q⟩⟩
    · rw [h68]; exact h0.mpr t0
    · rw [h3]; exact h0.mpr t0
  · have n68 : ¬ u 68 0 = 0 := by rw [h68, h0]; exact t0
    have n3 : ¬ gI g 3 0 0 = 0 := by rw [h3, h0]; exact t0
    have e69 : u 69 0 = nI (τ 0) := (hTT.2.2.1 0 (by omega)).1
    have e2 : gI g 2 0 0 = nI (τ 0) := hGG.2 0 (by omega)
    have hle := hTT.le 0
    have h47 : nI (τ 0) = 47 ↔ τ 0 = 47 := by rw [show (47 : Int32) = nI 47 from rfl]; exact nI_eq (by omega) (by omega)
    by_cases q47 : τ 0 = 47
    · have e69' : u 69 (0 : Int32).toNatClampNeg = 47 := by rw [c0, e69]; exact h47.mpr q47
      have e2' : gI g 2 0 (0 : Int32).toNatClampNeg = 47 := by rw [c0, e2]; exact h47.mpr q47
      by_cases t1 : t = 1
      · exact Or.inr ⟨[], trivial, by simp, fun Z hZ => mt_Mod_parts ⟨fun q => absurd q n68, fun _ => ⟨fun _ => ⟨fun q => absurd (by rw [h68]; exact h1.mpr t1) q, fun _ => hZ⟩, fun q => absurd e69' q⟩⟩, fun X kk Z hZ => t_Net_readText ⟨fun q => absurd q n3, fun _ => ⟨A2, fun _ => ⟨fun q => absurd (by rw [h3]; exact h1.mpr t1) q, fun _ => hZ g tyE.rf (fun j x q => by cases q)⟩, fun q => absurd e2' q⟩⟩⟩
      · have m1 : ¬ u 68 0 = 1 := by rw [h68, h1]; exact t1
        have m3 : ¬ gI g 3 0 0 = 1 := by rw [h3, h1]; exact t1
        rcases scan hTT t 1 0 0 0 0 0 (by omega) (by omega) (by omega) (by omega) (fun _ => rfl) (fun z => absurd z (by omega)) (fun z => absurd z (by omega)) (fun z => absurd z (by omega)) with ⟨w1, w2⟩ | ⟨L, w0, wl, w1, w2⟩
        · exact Or.inl ⟨fun Z hZ => mt_Mod_parts ⟨fun q => absurd q n68, fun _ => ⟨fun _ => ⟨fun _ => w1 Z hZ, fun q => absurd q m1⟩, fun q => absurd e69' q⟩⟩, fun X kk Z hZ => t_Net_readText ⟨fun q => absurd q n3, fun _ => ⟨A2, fun _ => ⟨fun _ => w2 S P g hsh hGG X kk Z hZ, fun q => absurd q m3⟩, fun q => absurd e2' q⟩⟩⟩
        · rw [Nat.zero_add] at wl w1 w2
          refine Or.inr ⟨L, w0, wl, fun Z hZ => mt_Mod_parts ⟨fun q => absurd q n68, fun _ => ⟨fun _ => ⟨fun _ => w1 Z hZ, fun q => absurd q m1⟩, fun q => absurd e69' q⟩⟩, fun X kk Z hZ => t_Net_readText ⟨fun q => absurd q n3, fun _ => ⟨A2, fun _ => ⟨fun _ => w2 S P g hsh hGG X kk Z fun g' y1 _ y2 => hZ g' y1 fun j x hx => ?_, fun q => absurd q m3⟩, fun q => absurd e2' q⟩⟩⟩
          have := y2 j x hx
          rw [Nat.zero_add] at this
          exact this
    · have e69' : ¬ u 69 (0 : Int32).toNatClampNeg = 47 := by rw [c0, e69, h47]; exact q47
      have e2' : ¬ gI g 2 0 (0 : Int32).toNatClampNeg = 47 := by rw [c0, e2, h47]; exact q47
      exact Or.inl ⟨fun Z hZ => mt_Mod_parts ⟨fun q => absurd q n68, fun _ => ⟨fun q => absurd q e69', fun _ => hZ⟩⟩, fun X kk Z hZ => t_Net_readText ⟨fun q => absurd q n3, fun _ => ⟨A2, fun q => absurd q e2', fun _ => hZ g tyE.rf⟩⟩⟩
def fdC (u : MS) (N p : Nat) (x : Nat × Nat × Nat) : Option Nat := fdN (mC u (nI p) (nI x.1) (nI x.2.1) (nI x.2.2)) N
/-- how far the components are known from p, and how many -/
def knR (u : MS) (N : Nat) : Nat → List (Nat × Nat × Nat) → Nat × Nat
  | p, [] => (p, 0)
  | p, x :: L => match fdC u N p x with
    | some n => ((knR u N n L).1, (knR u N n L).2 + 1)
    | none => (p, 0)
theorem knR_s {u : MS} {N p n : Nat} {x : Nat × Nat × Nat} {L : List (Nat × Nat × Nat)} (h : fdC u N p x = some n) : knR u N p (x :: L) = ((knR u N n L).1, (knR u N n L).2 + 1) := by
  show (match fdC u N p x with
    | some n => ((knR u N n L).1, (knR u N n L).2 + 1)
    | none => (p, 0)) = _
  rw [h]
theorem knR_n {u : MS} {N p : Nat} {x : Nat × Nat × Nat} {L : List (Nat × Nat × Nat)} (h : fdC u N p x = none) : knR u N p (x :: L) = (p, 0) := by
  show (match fdC u N p x with
    | some n => ((knR u N n L).1, (knR u N n L).2 + 1)
    | none => (p, 0)) = _
  rw [h]
theorem knR_le {u : MS} {N : Nat} : ∀ L p, (knR u N p L).2 ≤ L.length
  | [], p => Nat.le_refl _
  | x :: L, p => by
    cases h : fdC u N p x with
    | some n =>
      rw [knR_s h, List.length_cons]
      have := knR_le (u := u) (N := N) L n
      show (knR u N n L).2 + 1 ≤ _
      omega
    | none => rw [knR_n h]; exact Nat.zero_le _
theorem fdC_d {u : MS} {N p n d : Nat} {x : Nat × Nat × Nat} {g : sg} (hN : rN N g u) (hp : p < N) (h : fdC u N p x = some n) (h72 : u 72 p = nI d) (hd : d ≤ 4) : n < N ∧ u 72 n = nI (d + 1) := by
  obtain ⟨h1, h2⟩ := fdN_lt _ _ h
  obtain ⟨a1, a2, -⟩ := mC_i.mp h2
  obtain ⟨-, -, -, p', d', r1, r2, r3, r4, r5⟩ := hN.2.2.2.2.2.2.2 n a1 h1
  have hN48 := hN.2.1
  have : p' = p := by
    rw [r3, nI_eq (by omega) (by omega)] at a2
    exact a2
  subst this
  obtain ⟨d2, hd2, e1, -⟩ := hN.dep hp
  have : d' = d := by
    have z1 : d' = d2 := by
      rw [e1, nI_eq (by omega) (by omega)] at r4
      exact r4.symm
    have z2 : nI d2 = nI d := by rw [← e1, h72]
    subst z1
    rw [nI_eq (by omega) (by omega)] at z2
    exact z2
  rw [← this]
  exact ⟨h1, r5⟩
theorem b32 {b : Nat} (h : b < 128) : nI b = 32 ↔ b = 32 := by rw [show (32 : Int32) = nI 32 from rfl]; exact nI_eq (by omega) (by omega)
theorem b47 {b : Nat} (h : b < 128) : nI b = 47 ↔ b = 47 := by rw [show (47 : Int32) = nI 47 from rfl]; exact nI_eq (by omega) (by omega)
/-- the reference's step over a component -/
theorem nm111 {u : MS} {len s p m idx : Nat} {x : Nat × Nat × Nat} {s0 : Int32} {Z : Int32 → MS → Prop} (ho : okT x.1 x.2.1 x.2.2) (hZ : (0 ≤ s0 → mWP M_Mod_name 15 [qr 1 (some 0), qi (nI len), qi s0, qi 0, qi (nI (s + cl x + 1)), qi (nI (idx + 1)), none, none, none, none] [] u (mI Z)) ∧ (¬ 0 ≤ s0 → mWP M_Mod_name 15 [qr 1 (some 0), qi (nI len), qi (nI p), qi (nI (m + 1)), qi (nI (s + cl x + 1)), qi (nI (idx + 1)), none, none, none, none] [] u (mI Z))) :
    mWP M_Mod_name 111 [qr 1 (some 0), qi (nI len), qi (nI p), qi (nI m), qi (nI s), qi (nI idx), none, qi (nI x.2.1), qi (nI x.2.2), none] [qi s0] u (mI Z) := by
  have lo := ho.lt
  have e2 : nI s + 2 = nI (s + 1 + 1) := nI_add s 2
  have e3 : nI s + 3 = nI (s + 2 + 1) := nI_add s 3
  have e4 : nI s + 4 = nI (s + 3 + 1) := nI_add s 4
  refine mb_Mod_name_111 ?_
  rw [b32 lo.2.1, b32 lo.2.2, e2, e3, e4, nI_1, nI_1]
  unfold cl at hZ
  by_cases c1 : x.2.1 = 32
  · rw [if_pos c1] at hZ
    exact ⟨fun q => ⟨fun _ => ⟨fun z => absurd c1 z, fun _ => hZ.1 q⟩, fun z => absurd q z⟩, fun q => ⟨fun z => absurd z q, fun _ => ⟨fun z => absurd c1 z, fun _ => hZ.2 q⟩⟩⟩
  · rw [if_neg c1] at hZ
    by_cases c2 : x.2.2 = 32
    · rw [if_pos c2] at hZ
      exact ⟨fun q => ⟨fun _ => ⟨fun _ => ⟨fun z => absurd c2 z, fun _ => hZ.1 q⟩, fun z => absurd z c1⟩, fun z => absurd q z⟩, fun q => ⟨fun z => absurd z q, fun _ => ⟨fun _ => ⟨fun z => absurd c2 z, fun _ => hZ.2 q⟩, fun z => absurd z c1⟩⟩⟩
    · rw [if_neg c2] at hZ
      exact ⟨fun q => ⟨fun _ => ⟨fun _ => ⟨fun _ => hZ.1 q, fun z => absurd z c2⟩, fun z => absurd z c1⟩, fun z => absurd q z⟩, fun q => ⟨fun z => absurd z q, fun _ => ⟨fun _ => ⟨fun _ => hZ.2 q, fun z => absurd z c2⟩, fun z => absurd z c1⟩⟩⟩
theorem nm15 {u : MS} {t N len s p m idx : Nat} {τ : Nat → Nat} {x : Nat × Nat × Nat} {L : List (Nat × Nat × Nat)} {Z : Int32 → MS → Prop} (hT : txT u t τ) (h1 : 1 ≤ N) (hN : N ≤ 48) (h70 : u 70 0 = nI N) (hP : txP τ s (x :: L)) (hidx : idx < len) (hlen : len ≤ 4) (hm : m ≤ 4)
    (hZ : (m = 0 → ∀ n, fdC u N p x = some n → mWP M_Mod_name 15 [qr 1 (some 0), qi (nI len), qi (nI n), qi 0, qi (nI (s + cl x + 1)), qi (nI (idx + 1)), none, none, none, none] [] u (mI Z)) ∧ ((m = 0 → fdC u N p x = none) → mWP M_Mod_name 15 [qr 1 (some 0), qi (nI len), qi (nI p), qi (nI (m + 1)), qi (nI (s + cl x + 1)), qi (nI (idx + 1)), none, none, none, none] [] u (mI Z))) :
    mWP M_Mod_name 15 [qr 1 (some 0), qi (nI len), qi (nI p), qi (nI m), qi (nI s), qi (nI idx), none, none, none, none] [] u (mI Z) := by
  obtain ⟨s24, ho, x1, x2, x3, -⟩ := hP
  have lo := ho.lt
  have e2 : nI s + 2 = nI (s + 2) := nI_add s 2
  have m0 : nI m ≤ 0 ↔ m = 0 := nI_le0 (by omega)
  have go : (nI m ≤ 0 → mMT M_Mod_child [qr 1 (some 0), qi (nI p), qi (nI x.1), qi (nI x.2.1), qi (nI x.2.2)] u (mI fun r5 u8 => mWP M_Mod_name 111 [qr 1 (some 0), qi (nI len), qi (nI p), qi (nI m), qi (nI s), qi (nI idx), none, qi (nI x.2.1), qi (nI x.2.2), none] [qi r5] u8 (mI Z))) ∧ (¬ nI m ≤ 0 → mWP M_Mod_name 111 [qr 1 (some 0), qi (nI len), qi (nI p), qi (nI m), qi (nI s), qi (nI idx), none, qi (nI x.2.1), qi (nI x.2.2), none] [qi (-1)] u (mI Z)) := by
    rw [m0]
    refine ⟨fun q => c_Mod_child h1 hN h70 (nm111 ho ⟨fun z => ?_, fun z => ?_⟩), fun q => nm111 ho ⟨fun z => absurd z (by decide), fun _ => hZ.2 fun z => absurd z q⟩⟩
    · cases hf : fdN (mC u (nI p) (nI x.1) (nI x.2.1) (nI x.2.2)) N with
      | some n => exact hZ.1 q n hf
      | none => rw [hf] at z; exact absurd z (by decide)
    · cases hf : fdN (mC u (nI p) (nI x.1) (nI x.2.1) (nI x.2.2)) N with
      | some n =>
        rw [hf] at z
        exact absurd (nI_pos' (by have := (fdN_lt _ _ hf).1; omega)) z
      | none => exact hZ.2 fun _ => hf
  have n32 : (32 : Int32) = nI 32 := rfl
  refine mb_Mod_name_15 ⟨fun q => absurd q (nI_ge (by omega) (by omega)), fun _ => c_Mod_at hT (by omega) ?_⟩
  rw [nI_1]
  refine c_Mod_at hT (by omega) ?_
  rw [x1]
  by_cases c1 : x.2.1 = 32
  · rw [x2 c1]
    have c2 : x.2.2 = 32 := by have := ho.2; unfold plN at this; omega
    rw [c1, c2] at go
    exact ⟨fun q => absurd rfl q, fun _ => ⟨fun _ => go, fun q => absurd rfl q⟩⟩
  · obtain ⟨y1, y2, y3⟩ := x3 c1
    rw [y1]
    have n47 : ¬ nI x.2.1 = 47 := by rw [b47 lo.2.1]; have := ho.2; unfold plN at this; omega
    refine ⟨fun _ => c_Mod_at hT (by omega) ?_, fun q => absurd q n47⟩
    rw [y1]
    refine ⟨fun q => absurd ((b32 lo.2.1).mp q) c1, fun _ => ?_⟩
    rw [e2]
    refine c_Mod_at hT (by omega) ?_
    by_cases c2 : x.2.2 = 32
    · rw [y2 c2]
      rw [c2] at go
      exact ⟨fun q => absurd rfl q, fun _ => go⟩
    · have y3' := y3 c2
      have m47 : ¬ nI x.2.2 = 47 := by rw [b47 lo.2.2]; have := ho.2; unfold plN at this; omega
      rw [y3']
      refine ⟨fun _ => c_Mod_at hT (by omega) ?_, fun q => absurd q m47⟩
      rw [y3']
      exact go
theorem name15m {u : MS} {t N len : Nat} {τ : Nat → Nat} {Z : Int32 → MS → Prop} (hT : txT u t τ) (h1 : 1 ≤ N) (hN : N ≤ 48) (h70 : u 70 0 = nI N) (hlen : len ≤ 4) : ∀ L s p m idx, 1 ≤ m → m ≤ idx → txP τ s L → idx + L.length = len → (∀ s', mWP M_Mod_name 15 [qr 1 (some 0), qi (nI len), qi (nI p), qi (nI (m + L.length)), qi (nI s'), qi (nI len), none, none, none, none] [] u (mI Z)) → mWP M_Mod_name 15 [qr 1 (some 0), qi (nI len), qi (nI p), qi (nI m), qi (nI s), qi (nI idx), none, none, none, none] [] u (mI Z) := by
  intro L
  induction L with
  | nil =>
    intro s p m idx _ _ _ hl hZ
    obtain rfl : idx = len := hl
    exact hZ s
  | cons x L ih =>
    intro s p m idx hm hmi hP hl hZ
    rw [List.length_cons] at hl hZ
    refine nm15 hT h1 hN h70 hP (by omega) hlen (by omega) ⟨fun q => absurd q (by omega), fun _ => ih _ p (m + 1) (idx + 1) (by omega) (by omega) hP.2.2.2.2.2 (by omega) fun s' => ?_⟩
    have := hZ s'
    rw [show m + (L.length + 1) = m + 1 + L.length by omega] at this
    exact this
theorem name15 {u : MS} {t N len : Nat} {τ : Nat → Nat} {Z : Int32 → MS → Prop} (hT : txT u t τ) (h1 : 1 ≤ N) (hN : N ≤ 48) (h70 : u 70 0 = nI N) (hlen : len ≤ 4) : ∀ L s p idx, txP τ s L → idx + L.length = len → (∀ p' s', mWP M_Mod_name 15 [qr 1 (some 0), qi (nI len), qi (nI p'), qi (nI (L.length - (knR u N p L).2)), qi (nI s'), qi (nI len), none, none, none, none] [] u (mI Z)) → mWP M_Mod_name 15 [qr 1 (some 0), qi (nI len), qi (nI p), qi 0, qi (nI s), qi (nI idx), none, none, none, none] [] u (mI Z) := by
  intro L
  induction L with
  | nil =>
    intro s p idx _ hl hZ
    obtain rfl : idx = len := hl
    exact hZ p s
  | cons x L ih =>
    intro s p idx hP hl hZ
    rw [List.length_cons] at hl
    refine nm15 (m := 0) hT h1 hN h70 hP (by omega) hlen (by omega) ⟨fun _ n hf => ih _ n (idx + 1) hP.2.2.2.2.2 (by omega) fun p' s' => ?_, fun hf => name15m hT h1 hN h70 hlen L _ p 1 (idx + 1) (by omega) (by omega) hP.2.2.2.2.2 (by omega) fun s' => ?_⟩
    · have := hZ p' s'
      rw [knR_s hf, List.length_cons, show L.length + 1 - ((knR u N n L).2 + 1) = L.length - (knR u N n L).2 by omega] at this
      exact this
    · have := hZ p s'
      rw [knR_n (hf rfl), List.length_cons, show L.length + 1 - 0 = 1 + L.length by omega] at this
      exact this
def tyG (g : sg) (idx : Nat) (L : List (Nat × Nat × Nat)) : Prop := ∀ j x, L[j]? = some x → gI g 4 0 (idx + j) = nI (pk3 x.1 x.2.1 x.2.2)
theorem tyG.hd {g : sg} {idx : Nat} {x : Nat × Nat × Nat} {L : List (Nat × Nat × Nat)} (h : tyG g idx (x :: L)) : gI g 4 0 idx = nI (pk3 x.1 x.2.1 x.2.2) := h 0 x rfl
theorem tyG.tl {g : sg} {idx : Nat} {x : Nat × Nat × Nat} {L : List (Nat × Nat × Nat)} (h : tyG g idx (x :: L)) : tyG g (idx + 1) L := fun j y hy => by
  have := h (j + 1) y (by rw [List.getElem?_cons_succ]; exact hy)
  rw [show idx + (j + 1) = idx + 1 + j by omega] at this
  exact this
theorem name24 {X : Nat × (Nat → Int32)} {kk S P N len : Nat} {g : sg} {u : MS} {τ : Nat → Nat} {Z : Int32 → sg → Prop} (hsh : shC S P g) (hN : rN N g u) (hlen : len ≤ 4) : ∀ L s p idx, txP τ s L → tyG g idx L → idx + L.length = len →
    ((N + (L.length - (knR u N p L).2) ≤ 48 → nnWP X M_Net_name kk 87 [qr 0 (some 0), qi (nI len), qi (nI (knR u N p L).1), none, qi (nI (idx + (knR u N p L).2)), none] [] g (zI Z)) ∧ (¬ N + (L.length - (knR u N p L).2) ≤ 48 → Z (-2) g)) → nnWP X M_Net_name kk 24 [qr 0 (some 0), qi (nI len), qi (nI p), qi (nI idx), qi (nI idx), none] [] g (zI Z) := by
  have h323 := hN.2.2.1
  have hN48 := hN.2.1
  have room : ∀ r idx, idx ≤ len → ((N + (len - idx) ≤ 48 → nnWP X M_Net_name kk 87 [qr 0 (some 0), qi (nI len), qi (nI r), none, qi (nI idx), none] [] g (zI Z)) ∧ (¬ N + (len - idx) ≤ 48 → Z (-2) g)) → nnMT X M_Names_hasRoomFor 0 [qr 5 (some 0), qi (nI len - nI idx)] g (zI fun r1 g1 => gExt g g1 → (¬ r1 = 0 → nnWP X M_Net_name kk 87 [qr 0 (some 0), qi (nI len), qi (nI r), none, qi (nI idx), none] [] g1 (zI Z)) ∧ (r1 = 0 → Z (-2) g1)) := by
    intro r idx hi hZ
    rw [pk_sub hi]
    refine t_Names_hasRoomFor ⟨fun q _ => ⟨fun z => absurd rfl z, fun _ => hZ.2 ?_⟩, fun q _ => ⟨fun _ => hZ.1 ?_, fun z => absurd z (by decide)⟩⟩
    · rw [h323, nI_add, show (48 : Int32) = nI 48 from rfl, nI_ltI (by omega) (by omega)] at q
      omega
    · rw [h323, nI_add, show (48 : Int32) = nI 48 from rfl, nI_ltI (by omega) (by omega)] at q
      omega
  intro L
  induction L with
  | nil =>
    intro s p idx _ _ hl hZ
    obtain rfl : idx = len := hl
    refine b_Net_name_24 ⟨fun _ => ⟨0, hsh.1.1, room p idx (Nat.le_refl _) ?_⟩, fun q => absurd (nI_le (Nat.le_refl _) (by omega)) q⟩
    rw [Nat.sub_self]
    exact hZ
  | cons x L ih =>
    intro s p idx hP hY hl hZ
    rw [List.length_cons] at hl
    refine b_Net_name_24 ⟨fun q => absurd q (nI_ge (by omega) (by omega)), fun _ => ⟨hsh.2.1.2.1, (vpi (by omega)).mpr (by omega), 0, hsh.1.1, ?_⟩⟩
    rw [nI_clamp (show idx < 2 ^ 31 by omega), hY.hd, nI_1]
    refine c_Names_find hsh hN hP.2.1 fun _ => ?_
    cases hf : fdN (mC u (nI p) (nI x.1) (nI x.2.1) (nI x.2.2)) N with
    | some n =>
      refine ⟨fun _ => ih _ n (idx + 1) hP.2.2.2.2.2 hY.tl (by omega) ?_, fun q => absurd q (nI_m1 (by have := (fdN_lt _ _ hf).1; omega))⟩
      rw [knR_s hf, List.length_cons] at hZ
      rw [show L.length + 1 - ((knR u N n L).2 + 1) = L.length - (knR u N n L).2 by omega, show idx + ((knR u N n L).2 + 1) = idx + 1 + (knR u N n L).2 by omega] at hZ
      exact hZ
    | none =>
      refine ⟨fun q => absurd rfl q, fun _ => ⟨0, hsh.1.1, room p idx (by omega) ?_⟩⟩
      rw [knR_n hf, List.length_cons] at hZ
      rw [show len - idx = L.length + 1 - 0 by omega]
      exact hZ
