/-! reading the text -/
def txT (u : MS) (t : Nat) (τ : Nat → Nat) : Prop := t ≤ 24 ∧ u 68 0 = nI t ∧ (∀ k, k < t → u 69 k = nI (τ k) ∧ 32 ≤ τ k ∧ τ k ≤ 126) ∧ ∀ k, t ≤ k → τ k = 47
def txG (g : sg) (t : Nat) (τ : Nat → Nat) : Prop := gI g 3 0 0 = nI t ∧ ∀ k, k < t → gI g 2 0 k = nI (τ k)
def plB (c : Nat) : Bool := (decide (97 ≤ c) && decide (c ≤ 122)) || (decide (48 ≤ c) && decide (c ≤ 57))
theorem plB_i {c : Nat} : plB c = true ↔ plN c := by
  unfold plB plN
  simp
theorem txT.le {u : MS} {t : Nat} {τ : Nat → Nat} (h : txT u t τ) (k : Nat) : τ k ≤ 126 := by
  rcases Nat.lt_or_ge k t with q | q
  · exact (h.2.2.1 k q).2.2
  · rw [h.2.2.2 k q]; omega
theorem c_Mod_at {u : MS} {t k : Nat} {τ : Nat → Nat} {Z : Int32 → MS → Prop} (h : txT u t τ) (hk : k < 100) (hZ : Z (nI (τ k)) u) : mMT M_Mod_at [qr 1 (some 0), qi (nI k)] u (mI Z) := by
  obtain ⟨h1, h2, h3, h4⟩ := h
  refine mt_Mod_at ⟨fun q => ?_, fun q => ?_⟩
  · rw [h2, nI_leI (by omega) (by omega)] at q
    rw [h4 k q] at hZ
    exact ⟨ok_nI (a := 47) (by omega), hZ⟩
  · rw [h2, nI_leI (by omega) (by omega)] at q
    obtain ⟨a1, a2, a3⟩ := h3 k (by omega)
    rw [nI_clamp (show k < 2 ^ 31 by omega), a1]
    exact ⟨(vpi (by omega)).mpr (by omega), ok_nI (by omega), hZ⟩
theorem c_Mod_plain {u : MS} {c : Nat} {Z : Int32 → MS → Prop} (hc : c < 1000) (hZ : Z (b2 (plB c)) u) : mMT M_Mod_plain [qi (nI c)] u (mI Z) := by
  have hp := @plB_i c
  unfold plN at hp
  have e97 : (97 : Int32) = nI 97 := rfl
  have e48 : (48 : Int32) = nI 48 := rfl
  have e57 : (57 : Int32) = nI 57 := rfl
  have e122 : (122 : Int32) = nI 122 := rfl
  have no : ¬ ((97 ≤ c ∧ c ≤ 122) ∨ (48 ≤ c ∧ c ≤ 57)) → Z 0 u := fun q => by
    rw [b2_f (Bool.eq_false_iff.mpr (fun z => q (hp.mp z)))] at hZ
    exact hZ
  have ye : ((97 ≤ c ∧ c ≤ 122) ∨ (48 ≤ c ∧ c ≤ 57)) → Z 1 u := fun q => by
    rw [b2_t (hp.mpr q)] at hZ
    exact hZ
  refine mt_Mod_plain ⟨fun q1 => ⟨fun q2 => ?_, fun q2 => ⟨fun q3 => ?_, fun q3 => ?_⟩⟩, fun q1 => ⟨fun q2 => ?_, fun q2 => ⟨fun q3 => ?_, fun q3 => ⟨fun q4 => ?_, fun q4 => ?_⟩⟩⟩⟩
  all_goals simp only [e97, e48, e57, e122, nI_ltI (show c < 2 ^ 31 by omega) (show 97 < 2 ^ 31 by omega), nI_ltI (show c < 2 ^ 31 by omega) (show 48 < 2 ^ 31 by omega), nI_ltI (show 57 < 2 ^ 31 by omega) (show c < 2 ^ 31 by omega), nI_leI (show c < 2 ^ 31 by omega) (show 122 < 2 ^ 31 by omega)] at *
  · exact no (by omega)
  · exact no (by omega)
  · exact ye (by omega)
  · exact ye (by omega)
  · exact no (by omega)
  · exact no (by omega)
  · exact absurd q4 (by omega)
theorem c_Net_isCL {X : Nat × (Nat → Int32)} {kk c : Nat} {g : sg} {Z : Int32 → sg → Prop} (hc : c < 1000) (hZ : Z (b2 (plB c)) g) : nnMT X M_Net_isComponentLetter kk [qi (nI c)] g (zI Z) := by
  have hp := @plB_i c
  unfold plN at hp
  have e97 : (97 : Int32) = nI 97 := rfl
  have e48 : (48 : Int32) = nI 48 := rfl
  have e57 : (57 : Int32) = nI 57 := rfl
  have e122 : (122 : Int32) = nI 122 := rfl
  have no : ¬ ((97 ≤ c ∧ c ≤ 122) ∨ (48 ≤ c ∧ c ≤ 57)) → Z 0 g := fun q => by
    rw [b2_f (Bool.eq_false_iff.mpr (fun z => q (hp.mp z)))] at hZ
    exact hZ
  have ye : ((97 ≤ c ∧ c ≤ 122) ∨ (48 ≤ c ∧ c ≤ 57)) → Z 1 g := fun q => by
    rw [b2_t (hp.mpr q)] at hZ
    exact hZ
  refine t_Net_isComponentLetter ⟨fun q1 => ⟨fun q2 => ?_, fun q2 => ⟨fun q3 => ?_, fun q3 => ?_⟩⟩, fun q1 => ⟨fun q2 => ?_, fun q2 => ⟨fun q3 => ?_, fun q3 => ⟨fun q4 => ?_, fun q4 => ?_⟩⟩⟩⟩
  all_goals simp only [e97, e48, e57, e122, nI_ltI (show c < 2 ^ 31 by omega) (show 97 < 2 ^ 31 by omega), nI_ltI (show c < 2 ^ 31 by omega) (show 48 < 2 ^ 31 by omega), nI_ltI (show 57 < 2 ^ 31 by omega) (show c < 2 ^ 31 by omega), nI_leI (show c < 2 ^ 31 by omega) (show 122 < 2 ^ 31 by omega)] at *
  · exact no (by omega)
  · exact no (by omega)
  · exact ye (by omega)
  · exact ye (by omega)
  · exact no (by omega)
  · exact no (by omega)
  · exact absurd q4 (by omega)
/-- the components that stand in the text from s on -/
def cl (x : Nat × Nat × Nat) : Nat := if x.2.1 = 32 then 1 else if x.2.2 = 32 then 2 else 3
def txP (τ : Nat → Nat) : Nat → List (Nat × Nat × Nat) → Prop
  | _, [] => True
  | s, x :: L => s ≤ 24 ∧ okT x.1 x.2.1 x.2.2 ∧ τ s = x.1 ∧ (x.2.1 = 32 → τ (s + 1) = 47) ∧ (¬ x.2.1 = 32 → τ (s + 1) = x.2.1 ∧ (x.2.2 = 32 → τ (s + 2) = 47) ∧ (¬ x.2.2 = 32 → τ (s + 2) = x.2.2)) ∧ txP τ (s + cl x + 1) L
/-- only what was typed changed -/
def tyE (g g' : sg) : Prop := g'.1 = g.1 ∧ (∀ f, f ≠ 4 → gI g' f = gI g f) ∧ g'.2.2 = g.2.2
theorem tyE.rf {g : sg} : tyE g g := ⟨rfl, fun _ _ => rfl, rfl⟩
theorem tyE.tr {g g1 g2 : sg} (h : tyE g g1) (k : tyE g1 g2) : tyE g g2 := ⟨k.1.trans h.1, fun f hf => (k.2.1 f hf).trans (h.2.1 f hf), k.2.2.trans h.2.2⟩
theorem tyE_p {g : sg} {a y : Nat} {x : Int32} : tyE g (pI g 4 a y x) := ⟨rfl, fun f hf => by funext a' y'; rw [gI_pI, if_neg (fun z => hf z.1)], rfl⟩
theorem tyE.R {g g' : sg} (h : tyE g g') : gR g' = gR g := by unfold gR; rw [h.2.2]
theorem tyE.A {g g' : sg} (h : tyE g g') : gA g' = gA g := by unfold gA; rw [h.2.2]
theorem tyE.C {g g' : sg} (h : tyE g g') : gC g' = gC g := by unfold gC; rw [h.1]
theorem tyE.G {g g' : sg} {t : Nat} {τ : Nat → Nat} (h : tyE g g') (k : txG g t τ) : txG g' t τ := by
  unfold txG
  rw [h.2.1 3 (by decide), h.2.1 2 (by decide)]
  exact k
theorem tyE.sh {S P : Nat} {g g' : sg} (h : tyE g g') (k : shC S P g) : shC S P g' := by
  unfold shC at k ⊢
  rw [h.R, h.A, h.2.1 384 (by decide)]
  exact k
theorem rl_ty {S P N R Q : Nat} {g g1 : sg} {u : MS} (h : rl9 S P N R Q g u) (ha : tyE g g1) : rl9 S P N R Q g1 u := by
  have eI := ha.2.1
  unfold rl9 shC rT rN rW pkv rR rRn rS rE rEn enf rQ rF rP dtv at h ⊢
  rw [ha.C, ha.R, ha.A]
  simp only [eI 0 (by decide), eI 1 (by decide), eI 2 (by decide), eI 3 (by decide), eI 8 (by decide), eI 10 (by decide), eI 128 (by decide), eI 129 (by decide), eI 130 (by decide), eI 131 (by decide), eI 132 (by decide), eI 133 (by decide), eI 134 (by decide), eI 192 (by decide), eI 193 (by decide), eI 194 (by decide), eI 196 (by decide), eI 256 (by decide), eI 257 (by decide), eI 258 (by decide), eI 259 (by decide), eI 260 (by decide), eI 261 (by decide), eI 320 (by decide), eI 321 (by decide), eI 322 (by decide), eI 323 (by decide), eI 384 (by decide), eI 448 (by decide), eI 449 (by decide), eI 450 (by decide), eI 451 (by decide), eI 452 (by decide), eI 453 (by decide), eI 454 (by decide), eI 455 (by decide), eI 456 (by decide), eI 457 (by decide), eI 513 (by decide), eI 576 (by decide), eI 577 (by decide), eI 578 (by decide), eI 579 (by decide), eI 580 (by decide), eI 640 (by decide), eI 641 (by decide), eI 642 (by decide), eI 643 (by decide), eI 705 (by decide), eI 769 (by decide), eI 770 (by decide)]
  exact h
/-- a text that the reference finds bad in the end -/
theorem parts_bad {u : MS} {t : Nat} {τ : Nat → Nat} (hT : txT u t τ) {Z : Int32 → MS → Prop} (hZ : Z (-1) u) : ∀ d pos k n, pos + d = t + 1 → k + d ≤ 60 → n + d ≤ 60 → (5 ≤ k ∨ (4 ≤ n ∧ pos ≤ t)) → mWP M_Mod_parts 36 [qr 1 (some 0), qi (nI k), qi (nI n), qi (nI pos)] [] u (mI Z) := by
  have ht := hT.1
  have h68 := hT.2.1
  intro d
  induction d with
  | zero =>
    intro pos k n hp hk hn hh
    refine mb_Mod_parts_36 ⟨fun _ => ⟨fun q => ?_, fun _ => hZ⟩, fun q => absurd ?_ q⟩
    · rw [show (4 : Int32) = nI 4 from rfl, nI_leI (by omega) (by omega)] at q
      omega
    · rw [h68]; exact nI_lt (by omega) (by omega)
  | succ d ih =>
    intro pos k n hp hk hn hh
    refine mb_Mod_parts_36 ⟨fun q => ?_, fun _ => c_Mod_at hT (by omega) ⟨fun q => ?_, fun q => ?_⟩⟩
    · rw [h68, nI_ltI (by omega) (by omega)] at q
      omega
    · refine c_Mod_at hT (by omega) (c_Mod_plain (by have := hT.le pos; omega) ⟨fun _ => hZ, fun _ => ?_⟩)
      rw [nI_1, nI_1]
      have : pos ≠ t := fun e => q (by rw [e, hT.2.2.2 t (Nat.le_refl _)]; rfl)
      exact ih (pos + 1) k (n + 1) (by omega) (by omega) (by omega) (by omega)
    · refine ⟨fun _ => hZ, fun _ => ⟨fun q3 => ?_, fun _ => hZ⟩⟩
      rw [show (3 : Int32) = nI 3 from rfl, nI_leI (by omega) (by omega)] at q3
      rw [nI_1, nI_1]
      exact ih (pos + 1) (k + 1) 0 (by omega) (by omega) (by omega) (by omega)
def pw (n a b c : Nat) : Nat := if n = 0 then 0 else if n = 1 then a else if n = 2 then a * 128 + b else (a * 128 + b) * 128 + c
theorem scan {u : MS} {t : Nat} {τ : Nat → Nat} (hT : txT u t τ) : ∀ d s n a b c k, s + n + d = t + 1 → 1 ≤ s → n ≤ 3 → k ≤ 4 → (s + n = t + 1 → n = 0) → (1 ≤ n → τ s = a ∧ plN a) → (2 ≤ n → τ (s + 1) = b ∧ plN b) → (3 ≤ n → τ (s + 2) = c ∧ plN c) →
    ((∀ Z : Int32 → MS → Prop, Z (-1) u → mWP M_Mod_parts 36 [qr 1 (some 0), qi (nI k), qi (nI n), qi (nI (s + n))] [] u (mI Z)) ∧ ∀ S P g, shC S P g → txG g t τ → ∀ (X : Nat × (Nat → Int32)) (kk : Nat) (Z : Int32 → sg → Prop), (∀ g', tyE g g' → Z (-1) g') → nnWP X M_Net_readText kk 39 [qr 0 (some 0), qi (nI k), qi (nI n), qi (nI (pw n a b c)), qi (nI (s + n))] [] g (zI Z)) ∨
    ∃ L, txP τ s L ∧ k + L.length ≤ 4 ∧ (∀ Z : Int32 → MS → Prop, Z (nI (k + L.length)) u → mWP M_Mod_parts 36 [qr 1 (some 0), qi (nI k), qi (nI n), qi (nI (s + n))] [] u (mI Z)) ∧ ∀ S P g, shC S P g → txG g t τ → ∀ (X : Nat × (Nat → Int32)) (kk : Nat) (Z : Int32 → sg → Prop), (∀ g', tyE g g' → (∀ j, j < k → gI g' 4 0 j = gI g 4 0 j) → (∀ j x, L[j]? = some x → gI g' 4 0 (k + j) = nI (pk3 x.1 x.2.1 x.2.2)) → Z (nI (k + L.length)) g') → nnWP X M_Net_readText kk 39 [qr 0 (some 0), qi (nI k), qi (nI n), qi (nI (pw n a b c)), qi (nI (s + n))] [] g (zI Z) := by
  have ht := hT.1
  have h68 := hT.2.1
  intro d
  induction d with
  | zero =>
    intro s n a b c k hs _ hn hk hn0 _ _ _
    obtain rfl := hn0 (by omega)
    refine Or.inr ⟨[], trivial, hk, fun Z hZ => mb_Mod_parts_36 ⟨fun _ => ⟨fun _ => hZ, fun q => absurd ?_ q⟩, fun q => absurd ?_ q⟩, fun S P g hsh hG X kk Z hZ => b_Net_readText_39 ⟨fun _ => hZ g tyE.rf (fun _ _ => rfl) (fun j x q => by cases q), fun q => absurd ?_ q⟩⟩
    · rw [show (4 : Int32) = nI 4 from rfl]; exact nI_le hk (by omega)
    · rw [h68]; exact nI_lt (by omega) (by omega)
    · rw [hG.1]; exact nI_lt (by omega) (by omega)
  | succ d ih =>
    intro s n a b c k hs hs1 hn hk hn0 ha hb hc
    have hle := hT.le (s + n)
    have h47 : nI (τ (s + n)) = 47 ↔ τ (s + n) = 47 := by rw [show (47 : Int32) = nI 47 from rfl]; exact nI_eq (by omega) (by omega)
    have hab : a ≤ 126 ∨ n = 0 := by
      rcases Nat.eq_zero_or_pos n with q | q
      · exact Or.inr q
      · left; have := (ha q).2; unfold plN at this; omega
    have hpw : pw n a b c < 2 ^ 22 := by
      unfold pw
      split
      · omega
      · rename_i q0
        have z1 := (ha (by omega)).2
        unfold plN at z1
        split
        · omega
        · rename_i q1
          have z2 := (hb (by omega)).2
          unfold plN at z2
          split
          · omega
          · rename_i q2
            have z3 := (hc (by omega)).2
            unfold plN at z3
            omega
    have hmd : ∀ Z : Int32 → MS → Prop, ((τ (s + n) = 47 → (n = 0 → Z (-1) u) ∧ (¬ n = 0 → mWP M_Mod_parts 36 [qr 1 (some 0), qi (nI (k + 1)), qi (nI 0), qi (nI (s + n + 1))] [] u (mI Z))) ∧ (¬ τ (s + n) = 47 → (plB (τ (s + n)) = false → Z (-1) u) ∧ (plB (τ (s + n)) = true → mWP M_Mod_parts 36 [qr 1 (some 0), qi (nI k), qi (nI (n + 1)), qi (nI (s + n + 1))] [] u (mI Z)))) → mWP M_Mod_parts 36 [qr 1 (some 0), qi (nI k), qi (nI n), qi (nI (s + n))] [] u (mI Z) := by
      intro Z hZ
      refine mb_Mod_parts_36 ⟨fun q => ?_, fun _ => c_Mod_at hT (by omega) ⟨fun q => c_Mod_at hT (by omega) (c_Mod_plain (by omega) ?_), fun q => ?_⟩⟩
      · rw [h68, nI_ltI (by omega) (by omega)] at q
        omega
      · rw [h47] at q
        rw [nI_1, nI_1]
        cases hp : plB (τ (s + n)) with
        | true => exact ⟨fun z => absurd z (by decide), fun _ => (hZ.2 q).2 hp⟩
        | false => exact ⟨fun _ => (hZ.2 q).1 hp, fun z => absurd rfl z⟩
      · rw [h47] at q
        rw [nI_1, nI_1]
        refine ⟨fun z => (hZ.1 q).1 ?_, fun z => ⟨fun _ => (hZ.1 q).2 ?_, fun z3 => absurd ?_ z3⟩⟩
        · rw [show (1 : Int32) = nI 1 from rfl, nI_ltI (by omega) (by omega)] at z; omega
        · rw [show (1 : Int32) = nI 1 from rfl, nI_ltI (by omega) (by omega)] at z; omega
        · rw [show (3 : Int32) = nI 3 from rfl]; exact nI_le hn (by omega)
    have hcl : ∀ S P g, shC S P g → txG g t τ → ∀ (X : Nat × (Nat → Int32)) (kk : Nat) (Z : Int32 → sg → Prop), ((τ (s + n) = 47 → (n = 0 → Z (-1) g) ∧ (¬ n = 0 → (k = 4 → Z (-1) g) ∧ (¬ k = 4 → nnWP X M_Net_readText kk 39 [qr 0 (some 0), qi (nI (k + 1)), qi (nI 0), qi (nI 0), qi (nI (s + n + 1))] [] (pI g 4 0 k (nI (pw n a b c))) (zI Z)))) ∧ (¬ τ (s + n) = 47 → (n = 3 → Z (-1) g) ∧ (¬ n = 3 → (plB (τ (s + n)) = false → Z (-1) g) ∧ (plB (τ (s + n)) = true → nnWP X M_Net_readText kk 39 [qr 0 (some 0), qi (nI k), qi (nI (n + 1)), qi (nI (pw n a b c * 128 + τ (s + n))), qi (nI (s + n + 1))] [] g (zI Z))))) → nnWP X M_Net_readText kk 39 [qr 0 (some 0), qi (nI k), qi (nI n), qi (nI (pw n a b c)), qi (nI (s + n))] [] g (zI Z) := by
      intro S P g hsh hG X kk Z hZ
      have A4 : gA g 4 0 = some 4 := hsh.2.1.2.1
      have A2 : gA g 2 0 = some 24 := hsh.2.1.1
      have n0 : nI n = 0 ↔ n = 0 := by rw [← nI_0]; exact nI_eq (by omega) (by omega)
      have k4 : nI k = 4 ↔ k = 4 := by rw [show (4 : Int32) = nI 4 from rfl]; exact nI_eq (by omega) (by omega)
      have n3 : nI n = 3 ↔ n = 3 := by rw [show (3 : Int32) = nI 3 from rfl]; exact nI_eq (by omega) (by omega)
      have slash : τ (s + n) = 47 → (nI n = 0 → Z (-1) g) ∧ (¬ nI n = 0 → (¬ nI k = 4 → gA g 4 0 = some 4 ∧ vp_in (nI k) 4 ∧ ∀ g1, g1 = pI g 4 0 (nI k).toNatClampNeg (nI (pw n a b c)) → nnWP X M_Net_readText kk 39 [qr 0 (some 0), qi (nI k + 1), qi 0, qi 0, qi (nI (s + n) + 1)] [] g1 (zI Z)) ∧ (nI k = 4 → Z (-1) g)) := by
        intro q
        rw [n0, k4]
        refine ⟨(hZ.1 q).1, fun z => ⟨fun z4 => ⟨A4, (vpi (by omega)).mpr (by omega), fun g1 y1 => ?_⟩, ((hZ.1 q).2 z).1⟩⟩
        rw [nI_clamp (show k < 2 ^ 31 by omega)] at y1
        subst y1
        rw [nI_1, nI_1]
        exact ((hZ.1 q).2 z).2 z4
      refine b_Net_readText_39 ⟨fun q => ?_, fun _ => ⟨fun q => ?_, fun q => ?_⟩⟩
      · rw [hG.1, nI_ltI (by omega) (by omega)] at q
        omega
      · rw [hG.1, nI_eq (by omega) (by omega)] at q
        exact slash (by rw [q]; exact hT.2.2.2 t (Nat.le_refl _))
      · rw [hG.1, nI_eq (by omega) (by omega)] at q
        rw [nI_clamp (show s + n < 2 ^ 31 by omega), hG.2 (s + n) (by omega)]
        refine ⟨A2, (vpi (by omega)).mpr (by omega), fun z => ?_, fun z => slash (h47.mp z)⟩
        rw [h47] at z
        rw [n3]
        refine ⟨((hZ.2 z)).1, fun z3 => c_Net_isCL (by omega) fun _ => ?_⟩
        rw [hG.2 (s + n) (by omega), show (128 : Int32) = nI 128 from rfl, pk_mul, nI_add, nI_1, nI_1]
        cases hp : plB (τ (s + n)) with
        | true => exact ⟨fun _ => ((hZ.2 z).2 z3).2 hp, fun w => absurd w (by decide)⟩
        | false => exact ⟨fun w => absurd rfl w, fun _ => ((hZ.2 z).2 z3).1 hp⟩
    by_cases q47 : τ (s + n) = 47
    · by_cases qn : n = 0
      · exact Or.inl ⟨fun Z hZ => hmd Z ⟨fun _ => ⟨fun _ => hZ, fun z => absurd qn z⟩, fun z => absurd q47 z⟩, fun S P g hsh hG X kk Z hZ => hcl S P g hsh hG X kk Z ⟨fun _ => ⟨fun _ => hZ g tyE.rf, fun z => absurd qn z⟩, fun z => absurd q47 z⟩⟩
      · by_cases qk : k = 4
        · refine Or.inl ⟨fun Z hZ => hmd Z ⟨fun _ => ⟨fun z => absurd z qn, fun _ => ?_⟩, fun z => absurd q47 z⟩, fun S P g hsh hG X kk Z hZ => hcl S P g hsh hG X kk Z ⟨fun _ => ⟨fun z => absurd z qn, fun _ => ⟨fun _ => hZ g tyE.rf, fun z => absurd qk z⟩⟩, fun z => absurd q47 z⟩⟩
          exact parts_bad hT hZ d (s + n + 1) (k + 1) 0 (by omega) (by omega) (by omega) (by omega)
        · have hx : ∃ x : Nat × Nat × Nat, okT x.1 x.2.1 x.2.2 ∧ τ s = x.1 ∧ (x.2.1 = 32 → τ (s + 1) = 47) ∧ (¬ x.2.1 = 32 → τ (s + 1) = x.2.1 ∧ (x.2.2 = 32 → τ (s + 2) = 47) ∧ (¬ x.2.2 = 32 → τ (s + 2) = x.2.2)) ∧ cl x = n ∧ pk3 x.1 x.2.1 x.2.2 = pw n a b c := by
            obtain ⟨a1, a2⟩ := ha (by omega)
            obtain rfl | rfl | rfl : n = 1 ∨ n = 2 ∨ n = 3 := by omega
            · exact ⟨(a, 32, 32), ⟨a2, Or.inl ⟨rfl, rfl⟩⟩, a1, fun _ => q47, fun z => absurd rfl z, rfl, rfl⟩
            · obtain ⟨b1, b2'⟩ := hb (by omega)
              have nb : ¬ b = 32 := by unfold plN at b2'; omega
              refine ⟨(a, b, 32), ⟨a2, Or.inr ⟨b2', Or.inl rfl⟩⟩, a1, fun z => absurd z nb, fun _ => ⟨b1, fun _ => q47, fun z => absurd rfl z⟩, ?_, ?_⟩
              · unfold cl; rw [if_neg nb, if_pos rfl]
              · unfold pk3; rw [if_neg nb, if_pos rfl]; rfl
            · obtain ⟨b1, b2'⟩ := hb (by omega)
              obtain ⟨c1, c2⟩ := hc (by omega)
              have nb : ¬ b = 32 := by unfold plN at b2'; omega
              have nc : ¬ c = 32 := by unfold plN at c2; omega
              refine ⟨(a, b, c), ⟨a2, Or.inr ⟨b2', Or.inr c2⟩⟩, a1, fun z => absurd z nb, fun _ => ⟨b1, fun z => absurd z nc, fun _ => c1⟩, ?_, ?_⟩
              · unfold cl; rw [if_neg nb, if_neg nc]
              · unfold pk3; rw [if_neg nb, if_neg nc]; rfl
          obtain ⟨x, x1, x2, x3, x4, x5, x6⟩ := hx
          rcases ih (s + n + 1) 0 0 0 0 (k + 1) (by omega) (by omega) (by omega) (by omega) (fun _ => rfl) (fun z => absurd z (by omega)) (fun z => absurd z (by omega)) (fun z => absurd z (by omega)) with ⟨w1, w2⟩ | ⟨L, w0, wl, w1, w2⟩
          · refine Or.inl ⟨fun Z hZ => hmd Z ⟨fun _ => ⟨fun z => absurd z qn, fun _ => w1 Z hZ⟩, fun z => absurd q47 z⟩, fun S P g hsh hG X kk Z hZ => hcl S P g hsh hG X kk Z ⟨fun _ => ⟨fun z => absurd z qn, fun _ => ⟨fun z => absurd z qk, fun _ => w2 S P _ (tyE_p.sh hsh) (tyE_p.G hG) X kk Z fun g' hg' => hZ g' (tyE_p.tr hg')⟩⟩, fun z => absurd q47 z⟩⟩
          · have hll : k + (x :: L).length = k + 1 + L.length := by rw [List.length_cons]; omega
            refine Or.inr ⟨x :: L, ⟨by omega, x1, x2, x3, x4, by rw [x5]; exact w0⟩, by omega, fun Z hZ => hmd Z ⟨fun _ => ⟨fun z => absurd z qn, fun _ => w1 Z (by rw [← hll]; exact hZ)⟩, fun z => absurd q47 z⟩, fun S P g hsh hG X kk Z hZ => hcl S P g hsh hG X kk Z ⟨fun _ => ⟨fun z => absurd z qn, fun _ => ⟨fun z => absurd z qk, fun _ => w2 S P _ (tyE_p.sh hsh) (tyE_p.G hG) X kk Z fun g' hg' y1 y2 => ?_⟩⟩, fun z => absurd q47 z⟩⟩
            rw [← hll]
            refine hZ g' (tyE_p.tr hg') (fun j hj => ?_) (fun j y hy => ?_)
            · rw [y1 j (by omega), gI_pI, if_neg (by omega)]
            · cases j with
              | zero =>
                have : x = y := by simpa using hy
                subst this
                rw [Nat.add_zero, y1 k (by omega), gI_pI, if_pos ⟨rfl, rfl, rfl⟩, x6]
              | succ j =>
                rw [List.getElem?_cons_succ] at hy
                have := y2 j y hy
                rw [show k + 1 + j = k + (j + 1) by omega] at this
                exact this
    · have hlt : s + n ≠ t := fun e => q47 (by rw [e]; exact hT.2.2.2 t (Nat.le_refl _))
      cases hp : plB (τ (s + n)) with
      | false =>
        refine Or.inl ⟨fun Z hZ => hmd Z ⟨fun z => absurd z q47, fun _ => ⟨fun _ => hZ, fun z => absurd z (by rw [hp]; decide)⟩⟩, fun S P g hsh hG X kk Z hZ => hcl S P g hsh hG X kk Z ⟨fun z => absurd z q47, fun _ => ⟨fun _ => hZ g tyE.rf, fun _ => ⟨fun _ => hZ g tyE.rf, fun z => absurd z (by rw [hp]; decide)⟩⟩⟩⟩
      | true =>
        have hpn := plB_i.mp hp
        by_cases q3 : n = 3
        · refine Or.inl ⟨fun Z hZ => hmd Z ⟨fun z => absurd z q47, fun _ => ⟨fun z => absurd z (by rw [hp]; decide), fun _ => ?_⟩⟩, fun S P g hsh hG X kk Z hZ => hcl S P g hsh hG X kk Z ⟨fun z => absurd z q47, fun _ => ⟨fun _ => hZ g tyE.rf, fun z => absurd q3 z⟩⟩⟩
          exact parts_bad hT hZ d (s + n + 1) k (n + 1) (by omega) (by omega) (by omega) (by omega)
        · have step : ∀ a' b' c', pw (n + 1) a' b' c' = pw n a b c * 128 + τ (s + n) → (1 ≤ n + 1 → τ s = a' ∧ plN a') → (2 ≤ n + 1 → τ (s + 1) = b' ∧ plN b') → (3 ≤ n + 1 → τ (s + 2) = c' ∧ plN c') → _ := fun a' b' c' e0 e1 e2 e3 =>
            (⟨e0, ih s (n + 1) a' b' c' k (by omega) hs1 (by omega) hk (fun z => by omega) e1 e2 e3⟩ : _ ∧ _)
          have hgo : ∃ a' b' c', pw (n + 1) a' b' c' = pw n a b c * 128 + τ (s + n) ∧ (1 ≤ n + 1 → τ s = a' ∧ plN a') ∧ (2 ≤ n + 1 → τ (s + 1) = b' ∧ plN b') ∧ (3 ≤ n + 1 → τ (s + 2) = c' ∧ plN c') := by
            obtain rfl | rfl | rfl : n = 0 ∨ n = 1 ∨ n = 2 := by omega
            · exact ⟨τ s, 0, 0, by simp [pw], fun _ => ⟨rfl, hpn⟩, fun z => absurd z (by omega), fun z => absurd z (by omega)⟩
            · exact ⟨a, τ (s + 1), 0, by simp [pw], fun _ => ha (by omega), fun _ => ⟨rfl, hpn⟩, fun z => absurd z (by omega)⟩
            · exact ⟨a, b, τ (s + 2), by simp [pw], fun _ => ha (by omega), fun _ => hb (by omega), fun _ => ⟨rfl, hpn⟩⟩
          obtain ⟨a', b', c', e0, e1, e2, e3⟩ := hgo
          rcases (step a' b' c' e0 e1 e2 e3).2 with ⟨w1, w2⟩ | ⟨L, w0, wl, w1, w2⟩
          · refine Or.inl ⟨fun Z hZ => hmd Z ⟨fun z => absurd z q47, fun _ => ⟨fun z => absurd z (by rw [hp]; decide), fun _ => w1 Z hZ⟩⟩, fun S P g hsh hG X kk Z hZ => hcl S P g hsh hG X kk Z ⟨fun z => absurd z q47, fun _ => ⟨fun z => absurd z q3, fun _ => ⟨fun z => absurd z (by rw [hp]; decide), fun _ => ?_⟩⟩⟩⟩
            rw [← e0]
            exact w2 S P g hsh hG X kk Z hZ
          · refine Or.inr ⟨L, w0, wl, fun Z hZ => hmd Z ⟨fun z => absurd z q47, fun _ => ⟨fun z => absurd z (by rw [hp]; decide), fun _ => w1 Z hZ⟩⟩, fun S P g hsh hG X kk Z hZ => hcl S P g hsh hG X kk Z ⟨fun z => absurd z q47, fun _ => ⟨fun z => absurd z q3, fun _ => ⟨fun z => absurd z (by rw [hp]; decide), fun _ => ?_⟩⟩⟩⟩
            rw [← e0]
            exact w2 S P g hsh hG X kk Z hZ
