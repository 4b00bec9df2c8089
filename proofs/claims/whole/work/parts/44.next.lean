theorem nI_1000 {q : Nat} (h : q < 120) : ¬ nI (1000 + q) = -1 := nI_m1 (by omega)
theorem enf.as {g : sg} {u : MS} {a k f : Nat} (h : enf g u a k f) : gI g 131 a f = -1 ↔ u 96 (k + f) = 0 := by
  rcases h.1 with ⟨h1, h2⟩ | ⟨h1, ⟨q, hq, h2⟩, h3, -⟩
  · rw [h1, h2]; exact ⟨fun _ => rfl, fun _ => rfl⟩
  · rw [h3, h2, h1]
    exact ⟨fun z => absurd z (nI_1000 hq), fun z => absurd z (by decide)⟩
theorem enf.er {g : sg} {u : MS} {a k f : Nat} (h : enf g u a k f) : gI g 133 a f = -1 ↔ u 99 (k + f) = 0 := by
  rcases h.2 with ⟨h1, h2⟩ | ⟨⟨q, hq, h2⟩, h3, ⟨h1, -⟩ | ⟨h1, -⟩⟩
  · rw [h1, h2]; exact ⟨fun _ => rfl, fun _ => rfl⟩
  · rw [h3, h2, h1]
    exact ⟨fun z => absurd z (nI_1000 hq), fun z => absurd z (by decide)⟩
  · rw [h3, h2, h1]
    exact ⟨fun z => absurd z (nI_1000 hq), fun z => absurd z (by decide)⟩
def enA (g : sg) (a : Nat) : Prop := gA g 131 a = some 5 ∧ gA g 132 a = some 5 ∧ gA g 133 a = some 5 ∧ gA g 134 a = some 5
theorem shC.en {S P i e : Nat} {g : sg} (h : shC S P g) (hi : i < 5) (h1 : P * i ≤ e) (h2 : e < P * i + P) : enA g e := by
  refine h.2.2.2.2 e ?_
  have : P * i + P ≤ P * 5 := by
    rw [show P * i + P = P * (i + 1) by rw [Nat.mul_add, Nat.mul_one]]
    exact Nat.mul_le_mul_left P (by omega)
  omega
theorem c_Entry_hasAsk {X : Nat × (Nat → Int32)} {kk a k f : Nat} {g : sg} {u : MS} {Z : Int32 → sg → Prop} (hA : enA g a) (hf : f < 5) (he : enf g u a k f) (h : Z (b2 (!decide (u 96 (k + f) = 0))) g) : nnMT X M_Entry_hasAsk kk [qr 2 (some a), qi (nI f)] g (zI Z) := by
  refine t_Entry_hasAsk ?_
  rw [nI_clamp (show f < 2 ^ 31 by omega)]
  refine ⟨hA.1, (vpi (by omega)).mpr hf, fun q => ?_, fun q => ?_⟩
  · rw [he.as] at q
    rw [show decide (u 96 (k + f) = 0) = true by simpa using q] at h; exact h
  · rw [he.as] at q
    rw [show decide (u 96 (k + f) = 0) = false by simpa using q] at h; exact h
theorem c_Entry_hasErrand {X : Nat × (Nat → Int32)} {kk a k f : Nat} {g : sg} {u : MS} {Z : Int32 → sg → Prop} (hA : enA g a) (hf : f < 5) (he : enf g u a k f) (h : Z (b2 (!decide (u 99 (k + f) = 0))) g) : nnMT X M_Entry_hasErrand kk [qr 2 (some a), qi (nI f)] g (zI Z) := by
  refine t_Entry_hasErrand ?_
  rw [nI_clamp (show f < 2 ^ 31 by omega)]
  refine ⟨hA.2.2.1, (vpi (by omega)).mpr hf, fun q => ?_, fun q => ?_⟩
  · rw [he.er] at q
    rw [show decide (u 99 (k + f) = 0) = true by simpa using q] at h; exact h
  · rw [he.er] at q
    rw [show decide (u 99 (k + f) = 0) = false by simpa using q] at h; exact h
def frF (u : MS) (i k f : Nat) : Bool := decide (u 99 (k + f) = 0) && (decide (f = 4) || (decide (u 96 (k + f) = 0) && !decide (u 75 (4 * i + f) = 0)))
theorem c_Node_isFree {X : Nat × (Nat → Int32)} {kk S P N R Q i a k f : Nat} {g : sg} {u : MS} {Z : Int32 → sg → Prop} (hl : rl9 S P N R Q g u) (hi : i < 5) (hA : enA g a) (hf : f < 5) (he : enf g u a k f) (h : Z (b2 (frF u i k f)) g) : nnMT X M_Node_isFree kk [qr 6 (some i), qr 2 (some a), qi (nI f)] g (zI Z) := by
  unfold frF at h
  refine t_Node_isFree ⟨a, rfl, c_Entry_hasErrand hA hf he fun _ => ?_⟩
  cases h99 : decide (u 99 (k + f) = 0) with
  | false =>
    rw [h99] at h
    exact ⟨fun q => absurd q (by decide), fun _ => h⟩
  | true =>
    rw [h99] at h
    refine ⟨fun _ => ⟨fun q => ?_, fun q => c_Entry_hasAsk hA hf he fun _ => ?_⟩, fun q => absurd rfl q⟩
    · rw [nl_4, nI_eq (by omega) (by omega)] at q
      rw [show decide (f = 4) = true by simpa using q] at h; exact h
    · rw [nl_4, nI_eq (by omega) (by omega)] at q
      rw [show decide (f = 4) = false by simpa using q] at h
      cases h96 : decide (u 96 (k + f) = 0) with
      | false =>
        rw [h96] at h
        exact ⟨fun _ => h, fun q => absurd q (by decide)⟩
      | true =>
        rw [h96] at h
        refine ⟨fun q => absurd rfl q, fun _ => ⟨(hl.1.2.2.1 i hi).1, (vpi (by omega)).mpr (by omega), 4 * i + f, by rw [nI_clamp (by omega)]; exact hl.1.1.2.2.1 i f hi (by omega), fun q => ?_, fun q => ?_⟩⟩
        · rw [(hl.2.2.2.1 (4 * i + f) (by omega)).1] at q
          rw [show decide (u 75 (4 * i + f) = 0) = true by simpa using q] at h; exact h
        · rw [(hl.2.2.2.1 (4 * i + f) (by omega)).1] at q
          rw [show decide (u 75 (4 * i + f) = 0) = false by simpa using q] at h; exact h
def bS (fr : Bool) (pr : Nat → Nat) (f : Nat) : Option Nat → Option Nat
  | none => if fr = true ∧ 0 < pr f then some f else none
  | some b => if fr = true ∧ 0 < pr f ∧ pr f < pr b then some f else some b
def bst (u : MS) (i R k : Nat) (x : Int32) : Nat → Option Nat
  | 0 => none
  | f + 1 => bS (frF u i k f) (fun f => prF u i x f R) f (bst u i R k x f)
theorem bst_b {u : MS} {i R k : Nat} {x : Int32} : ∀ f b, bst u i R k x f = some b → b < f ∧ 0 < prF u i x b R
  | 0, b, h => by cases h
  | f + 1, b, h => by
    have es : bst u i R k x (f + 1) = bS (frF u i k f) (fun f => prF u i x f R) f (bst u i R k x f) := rfl
    rw [es] at h
    cases hb : bst u i R k x f with
    | none =>
      rw [hb] at h
      unfold bS at h
      dsimp only at h
      split at h
      · cases h; rename_i hh; exact ⟨by omega, hh.2⟩
      · cases h
    | some b' =>
      rw [hb] at h
      unfold bS at h
      dsimp only at h
      split at h
      · cases h; rename_i hh; exact ⟨by omega, hh.2.1⟩
      · cases h
        have := bst_b f b hb
        exact ⟨by omega, this.2⟩
def optI : Option Nat → Int32
  | none => -1
  | some b => nI b
def nxF (u : MS) (i R k n : Nat) : Option Nat := if lg u i R 5 n = -1 then none else bst u i R k (lg u i R 5 n) 5
theorem nxF_b {u : MS} {i R k n b : Nat} (h : nxF u i R k n = some b) : b < 5 := by
  unfold nxF at h
  split at h
  · cases h
  · exact (bst_b 5 b h).1
theorem c_Mod_next {N i R e n : Nat} {u : MS} {Z : Int32 → MS → Prop} (hm : nmO N u) (hN : N ≤ 48) (hi : i < 5) (hR : R ≤ 50) (h79 : u 79 0 = nI R) (hC : okC u R) (he : e < 30) (h93 : u 93 e = nI n) (hn : n < N) (h : Z (optI (nxF u i R (5 * e) n)) u) : mMT M_Mod_next [qr 1 (some 0), qi (nI i), qi (nI e)] u (mI Z) := by
  refine mt_Mod_next ?_
  rw [nI_clamp (show e < 2 ^ 31 by omega), h93]
  refine ⟨(vpi (by omega)).mpr he, c_Mod_longest hm hN hi hR h79 hC hn ?_⟩
  unfold nxF at h
  rcases lg_cases (i := i) (R := R) hm hN 5 n hn with hlg | ⟨p, hp, hlg⟩
  · rw [if_pos hlg] at h
    rw [hlg]
    exact mb_Mod_next_18 ⟨fun _ => h, fun _ => ⟨fun _ => h, fun q => absurd (by decide) q⟩⟩
  · rw [if_neg (by rw [hlg]; exact nI_m1 (by omega)), hlg] at h
    rw [hlg]
    have hpr : ∀ f, f < 5 → prF u i (nI p) f R ≤ 100 := fun f hf => mf_le fun r hr => prV_le hC hi hr hf
    have key : ∀ f, f ≤ 5 → mWP M_Mod_next 18 [qr 1 (some 0), qi (nI i), qi (nI e), qi (nI p), qi (optI (bst u i R (5 * e) (nI p) f)), qi (nI f), none, none] [] u (mI Z) := by
      refine dn 5 (mb_Mod_next_18 ⟨fun _ => h, fun q => absurd (by decide) q⟩) ?_
      intro f hf ih
      have es : bst u i R (5 * e) (nI p) (f + 1) = bS (frF u i (5 * e) f) (fun f => prF u i (nI p) f R) f (bst u i R (5 * e) (nI p) f) := rfl
      have hbb := bst_b (u := u) (i := i) (R := R) (k := 5 * e) (x := nI p) f
      rw [es] at ih
      have hp1 := hpr f hf
      have e5 : (5 : Int32) * nI e + nI f = nI (5 * e + f) := by rw [nl_5, pk_mul, nI_add]
      have e4' : (4 : Int32) * nI i + nI f = nI (4 * i + f) := by rw [nl_4, pk_mul, nI_add]
      have c5 : (nI (5 * e + f)).toNatClampNeg = 5 * e + f := nI_clamp (by omega)
      have c4 : (nI (4 * i + f)).toNatClampNeg = 4 * i + f := nI_clamp (by omega)
      have hno : frF u i (5 * e) f = false → mMT M_Mod_priced [qr 1 (some 0), qi (nI i), qi (nI p), qi (nI f)] u (mI fun r1 u1 => ((0 : Int32) = 0 → mWP M_Mod_next 18 [qr 1 (some 0), qi (nI i), qi (nI e), qi (nI p), qi (optI (bst u i R (5 * e) (nI p) f)), qi (nI f + 1), none, none] [] u1 (mI Z)) ∧ (¬ (0 : Int32) = 0 → (r1 ≤ 0 → mWP M_Mod_next 18 [qr 1 (some 0), qi (nI i), qi (nI e), qi (nI p), qi (optI (bst u i R (5 * e) (nI p) f)), qi (nI f + 1), none, none] [] u1 (mI Z)) ∧ (¬ r1 ≤ 0 → (optI (bst u i R (5 * e) (nI p) f) < 0 → mWP M_Mod_next 18 [qr 1 (some 0), qi (nI i), qi (nI e), qi (nI p), qi (nI f), qi (nI f + 1), none, none] [] u1 (mI Z)) ∧ (¬ optI (bst u i R (5 * e) (nI p) f) < 0 → mMT M_Mod_priced [qr 1 (some 0), qi (nI i), qi (nI p), qi (optI (bst u i R (5 * e) (nI p) f))] u1 (mI fun r2 u2 => (r2 ≤ r1 → mWP M_Mod_next 18 [qr 1 (some 0), qi (nI i), qi (nI e), qi (nI p), qi (optI (bst u i R (5 * e) (nI p) f)), qi (nI f + 1), none, none] [] u2 (mI Z)) ∧ (¬ r2 ≤ r1 → mWP M_Mod_next 18 [qr 1 (some 0), qi (nI i), qi (nI e), qi (nI p), qi (nI f), qi (nI f + 1), none, none] [] u2 (mI Z))))))) := by
        intro hf0
        refine c_Mod_priced hi hf hR h79 hC ⟨fun _ => ?_, fun q => absurd rfl q⟩
        rw [hf0] at ih
        rw [nI_1]
        cases hb : bst u i R (5 * e) (nI p) f with
        | none => rw [hb] at ih; exact ih
        | some b => rw [hb] at ih; exact ih
      have hyes : frF u i (5 * e) f = true → mMT M_Mod_priced [qr 1 (some 0), qi (nI i), qi (nI p), qi (nI f)] u (mI fun r1 u1 => ((1 : Int32) = 0 → mWP M_Mod_next 18 [qr 1 (some 0), qi (nI i), qi (nI e), qi (nI p), qi (optI (bst u i R (5 * e) (nI p) f)), qi (nI f + 1), none, none] [] u1 (mI Z)) ∧ (¬ (1 : Int32) = 0 → (r1 ≤ 0 → mWP M_Mod_next 18 [qr 1 (some 0), qi (nI i), qi (nI e), qi (nI p), qi (optI (bst u i R (5 * e) (nI p) f)), qi (nI f + 1), none, none] [] u1 (mI Z)) ∧ (¬ r1 ≤ 0 → (optI (bst u i R (5 * e) (nI p) f) < 0 → mWP M_Mod_next 18 [qr 1 (some 0), qi (nI i), qi (nI e), qi (nI p), qi (nI f), qi (nI f + 1), none, none] [] u1 (mI Z)) ∧ (¬ optI (bst u i R (5 * e) (nI p) f) < 0 → mMT M_Mod_priced [qr 1 (some 0), qi (nI i), qi (nI p), qi (optI (bst u i R (5 * e) (nI p) f))] u1 (mI fun r2 u2 => (r2 ≤ r1 → mWP M_Mod_next 18 [qr 1 (some 0), qi (nI i), qi (nI e), qi (nI p), qi (optI (bst u i R (5 * e) (nI p) f)), qi (nI f + 1), none, none] [] u2 (mI Z)) ∧ (¬ r2 ≤ r1 → mWP M_Mod_next 18 [qr 1 (some 0), qi (nI i), qi (nI e), qi (nI p), qi (nI f), qi (nI f + 1), none, none] [] u2 (mI Z))))))) := by
        intro hf0
        refine c_Mod_priced hi hf hR h79 hC ⟨fun q => absurd q (by decide), fun _ => ?_⟩
        rw [hf0] at ih
        rw [nI_1]
        cases hb : bst u i R (5 * e) (nI p) f with
        | none =>
          rw [hb] at ih
          unfold bS at ih
          dsimp only at ih
          refine ⟨fun q => ?_, fun q => ⟨fun _ => ?_, fun q2 => absurd (by decide) q2⟩⟩
          · rw [nI_le0 (by omega)] at q
            rw [if_neg (by omega)] at ih; exact ih
          · rw [nI_le0 (by omega)] at q
            rw [if_pos ⟨rfl, by omega⟩] at ih; exact ih
        | some b =>
          obtain ⟨b1, b2'⟩ := hbb b hb
          have hpb := hpr b (by omega)
          rw [hb] at ih
          unfold bS at ih
          dsimp only at ih
          refine ⟨fun q => ?_, fun q => ⟨fun q2 => absurd q2 (nI_pos (by omega)), fun _ => c_Mod_priced hi (by omega) hR h79 hC ⟨fun q2 => ?_, fun q2 => ?_⟩⟩⟩
          · rw [nI_le0 (by omega)] at q
            rw [if_neg (by omega)] at ih; exact ih
          · rw [nI_leI (by omega) (by omega)] at q2
            rw [if_neg (by omega)] at ih; exact ih
          · rw [nI_le0 (by omega)] at q
            rw [nI_leI (by omega) (by omega)] at q2
            rw [if_pos ⟨rfl, by omega, by omega⟩] at ih; exact ih
      refine mb_Mod_next_18 ⟨fun q => ?_, fun _ => ⟨fun q => absurd q (nI_pos (by omega)), fun _ => ?_⟩⟩
      · rw [nl_5, nI_leI (by omega) (by omega)] at q; omega
      rw [e5, e4', c5, c4]
      refine ⟨(vpi (by omega)).mpr (by omega), fun q => hno ?_, fun q => ⟨fun q2 => hyes ?_, fun q2 => ⟨fun q3 => hno ?_, fun q3 => ⟨(vpi (by omega)).mpr ?_, fun q4 => hno ?_, fun q4 => hyes ?_⟩⟩⟩⟩
      · simp [frF, q]
      · rw [nl_4, nI_eq (by omega) (by omega)] at q2
        simp [frF, q, q2]
        rw [q2] at q; exact q
      · rw [nl_4, nI_eq (by omega) (by omega)] at q2
        simp [frF, q2, q3]
      · rw [nl_4, nI_eq (by omega) (by omega)] at q2
        omega
      · rw [nl_4, nI_eq (by omega) (by omega)] at q2
        simp [frF, q2, q4]
      · simp [frF, q, q3, q4]
    exact key 0 (Nat.zero_le _)
def optC (u : MS) (i R : Nat) (x : Int32) : Option Nat → Int32
  | none => -1
  | some b => nI (prF u i x b R) - 1
theorem c_Node_bestFace {X : Nat × (Nat → Int32)} {kk S P N R Q i a k n : Nat} {g : sg} {u : MS} {Z : Int32 → sg → Prop} (hl : rl9 S P N R Q g u) (hi : i < 5) (hA : enA g a) (he : ∀ f, f < 5 → enf g u a k f) (h128 : gI g 128 a 0 = nI n) (hn : n < N) (h : Z (optI (nxF u i R k n)) g) : nnMT X M_Node_bestFace kk [qr 6 (some i), qr 2 (some a), qr 5 (some 0)] g (zI Z) := by
  have hsh := hl.1
  have hrN := hl.2.2.1
  have hN := hrN.2.1
  have hm := hrN.nm
  have hR := hl.2.2.2.2.1.1
  have hC := hl.2.2.2.2.2.1.okC
  obtain ⟨m, ρ, π, hrn⟩ := hl.2.2.2.2.2.1.1 i hi
  have hrt := (hsh.1.2.2.2 i hi).1
  have h704 := (hsh.2.2.1 i hi).2.1
  refine t_Node_bestFace ⟨a, rfl, i, hrt, ?_⟩
  rw [h128]
  refine c_Routes_longest hrN hsh hR h704 hrn hn fun _ => ?_
  unfold nxF at h
  rcases lg_cases (i := i) (R := R) hm hN 5 n hn with hlg | ⟨p, hp, hlg⟩
  · rw [if_pos hlg] at h
    rw [hlg]
    exact b_Node_bestFace_22 ⟨fun _ => h, fun _ => ⟨fun _ => h, fun q => absurd rfl q⟩⟩
  · rw [if_neg (by rw [hlg]; exact nI_m1 (by omega)), hlg] at h
    rw [hlg]
    have hpr : ∀ f, f < 5 → prF u i (nI p) f R ≤ 100 := fun f hf => mf_le fun r hr => prV_le hC hi hr hf
    have key : ∀ f, f ≤ 5 → nnWP X M_Node_bestFace kk 22 [qr 6 (some i), qr 2 (some a), none, qi (nI p), qi (optI (bst u i R k (nI p) f)), qi (optC u i R (nI p) (bst u i R k (nI p) f)), qi (nI f), none] [] g (zI Z) := by
      refine dn 5 (b_Node_bestFace_22 ⟨fun _ => h, fun q => absurd (by decide) q⟩) ?_
      intro f hf ih
      have es : bst u i R k (nI p) (f + 1) = bS (frF u i k f) (fun f => prF u i (nI p) f R) f (bst u i R k (nI p) f) := rfl
      have hbb := bst_b (u := u) (i := i) (R := R) (k := k) (x := nI p) f
      rw [es] at ih
      have hp1 := hpr f hf
      refine b_Node_bestFace_22 ⟨fun q => ?_, fun _ => ⟨fun q => absurd q (nI_m1 (by omega)), fun _ => ⟨i, hrt, c_Routes_costOf hR hf h704 hrn fun _ => ?_⟩⟩⟩
      · rw [nl_5, nI_leI (by omega) (by omega)] at q; omega
      rw [nI_1]
      refine ⟨fun q => ?_, fun q => c_Node_isFree hl hi hA hf (he f hf) fun _ => ⟨fun q2 => ?_, fun q2 => ?_⟩⟩
      · rw [cm1 (by omega)] at q
        cases hb : bst u i R k (nI p) f with
        | none =>
          rw [hb] at ih
          unfold bS at ih
          dsimp only at ih
          rw [if_neg (by omega)] at ih; exact ih
        | some b =>
          rw [hb] at ih
          unfold bS at ih
          dsimp only at ih
          rw [if_neg (by omega)] at ih; exact ih
      · have hf0 : frF u i k f = false := by
          cases hh : frF u i k f with
          | false => rfl
          | true => rw [hh] at q2; exact absurd q2 (by decide)
        rw [hf0] at ih
        cases hb : bst u i R k (nI p) f with
        | none => rw [hb] at ih; exact ih
        | some b => rw [hb] at ih; exact ih
      · have hf0 : frF u i k f = true := by
          cases hh : frF u i k f with
          | false => rw [hh] at q2; exact absurd rfl q2
          | true => rfl
        rw [cm1 (by omega)] at q
        rw [hf0] at ih
        cases hb : bst u i R k (nI p) f with
        | none =>
          rw [hb] at ih
          unfold bS at ih
          dsimp only at ih
          rw [if_pos ⟨rfl, by omega⟩] at ih
          exact ⟨fun _ => ih, fun q3 => absurd rfl q3⟩
        | some b =>
          obtain ⟨b1, b2'⟩ := hbb b hb
          have hpb := hpr b (by omega)
          rw [hb] at ih
          unfold bS at ih
          dsimp only at ih
          refine ⟨fun q3 => absurd q3 (nI_m1 (by omega)), fun _ => ⟨fun q3 => ?_, fun q3 => ?_⟩⟩
          · have q3' : nI (prF u i (nI p) b R) - 1 ≤ nI (prF u i (nI p) f R) - 1 := q3
            rw [cle (by omega) (by omega) (by omega) (by omega)] at q3'
            rw [if_neg (by omega)] at ih; exact ih
          · have q3' : ¬ nI (prF u i (nI p) b R) - 1 ≤ nI (prF u i (nI p) f R) - 1 := q3
            rw [cle (by omega) (by omega) (by omega) (by omega)] at q3'
            rw [if_pos ⟨rfl, by omega, by omega⟩] at ih; exact ih
    exact key 0 (Nat.zero_le _)
