/-! names: looking for a child, and making one -/
theorem ch_nI : ∀ a, a < 128 → ((nI a).toUInt32 % 65536).toInt32 = nI a := by decide
theorem ok_nI {a : Nat} (h : a < 128) : okI 1 (nI a) := by
  have := okI_c (nI a)
  rw [ch_nI a h] at this
  exact this
theorem pk3_lt {a b c : Nat} (h : okT a b c) : pk3 a b c < 2 ^ 31 := by
  unfold okT plN at h
  unfold pk3
  split
  · omega
  · split <;> omega
theorem pk3_inj {a b c a' b' c' : Nat} (h : okT a b c) (h' : okT a' b' c') : pk3 a b c = pk3 a' b' c' ↔ a = a' ∧ b = b' ∧ c = c' := by
  constructor
  · intro q
    unfold okT plN at h h'
    unfold pk3 at q
    split at q
    · split at q
      · omega
      · split at q <;> omega
    · split at q
      · split at q
        · omega
        · split at q <;> omega
      · split at q
        · omega
        · split at q <;> omega
  · rintro ⟨rfl, rfl, rfl⟩
    rfl
theorem okT.lt {a b c : Nat} (h : okT a b c) : a < 128 ∧ b < 128 ∧ c < 128 := by
  unfold okT plN at h
  omega
def fdN (m : Nat → Bool) : Nat → Option Nat
  | 0 => none
  | n + 1 => match fdN m n with
    | some k => some k
    | none => if m n = true then some n else none
theorem fdN_up {m : Nat → Bool} {n k : Nat} (h : fdN m n = some k) : ∀ d, fdN m (n + d) = some k
  | 0 => h
  | d + 1 => by
    show (match fdN m (n + d) with
      | some k => some k
      | none => if m (n + d) = true then some (n + d) else none) = some k
    rw [fdN_up h d]
theorem fdN_t {m : Nat → Bool} {n N : Nat} (h : fdN m n = none) (hm : m n = true) (hn : n < N) : fdN m N = some n := by
  have h1 : fdN m (n + 1) = some n := by
    show (match fdN m n with
      | some k => some k
      | none => if m n = true then some n else none) = some n
    rw [h]
    exact if_pos hm
  have := fdN_up h1 (N - (n + 1))
  rw [show n + 1 + (N - (n + 1)) = N by omega] at this
  exact this
theorem fdN_f {m : Nat → Bool} {n : Nat} (h : fdN m n = none) (hm : ¬ m n = true) : fdN m (n + 1) = none := by
  show (match fdN m n with
      | some k => some k
      | none => if m n = true then some n else none) = none
  rw [h]
  exact if_neg hm
theorem fdN_lt {m : Nat → Bool} : ∀ n k, fdN m n = some k → k < n ∧ m k = true
  | 0, k, h => by cases h
  | n + 1, k, h => by
    have h' : (match fdN m n with
      | some k => some k
      | none => if m n = true then some n else none) = some k := h
    cases hq : fdN m n with
    | some k' =>
      rw [hq] at h'
      cases h'
      have := fdN_lt n _ hq
      exact ⟨by omega, this.2⟩
    | none =>
      rw [hq] at h'
      dsimp only at h'
      by_cases c : m n = true
      · rw [if_pos c] at h'
        cases h'
        exact ⟨by omega, c⟩
      · rw [if_neg c] at h'
        cases h'
def mC (u : MS) (p x y z : Int32) (n : Nat) : Bool := decide (1 ≤ n) && (decide (u 71 n = p) && (decide (u 73 (3 * n) = x) && (decide (u 73 (3 * n + 1) = y) && decide (u 73 (3 * n + 2) = z))))
theorem mC_i {u : MS} {p x y z : Int32} {n : Nat} : mC u p x y z n = true ↔ 1 ≤ n ∧ u 71 n = p ∧ u 73 (3 * n) = x ∧ u 73 (3 * n + 1) = y ∧ u 73 (3 * n + 2) = z := by
  unfold mC
  simp
theorem mC_1 {u : MS} {p x y z : Int32} : fdN (mC u p x y z) 1 = none := fdN_f rfl (fun q => by rw [mC_i] at q; omega)
theorem c_Mod_child {u : MS} {p x y z : Int32} {N : Nat} {Z : Int32 → MS → Prop} (h1 : 1 ≤ N) (hN : N ≤ 48) (h70 : u 70 0 = nI N) (h : Z (optI (fdN (mC u p x y z) N)) u) : mMT M_Mod_child [qr 1 (some 0), qi p, qi x, qi y, qi z] u (mI Z) := by
  refine mt_Mod_child ?_
  have key : ∀ d n, n + d = N → 1 ≤ n → fdN (mC u p x y z) n = none → mWP M_Mod_child 3 [qr 1 (some 0), qi p, qi x, qi y, qi z, qi (nI n)] [] u (mI Z) := by
    intro d
    induction d with
    | zero =>
      intro n hn _ hf
      obtain rfl : n = N := by omega
      rw [hf] at h
      refine mb_Mod_child_3 ⟨fun _ => h, fun q => absurd ?_ q⟩
      rw [h70]; exact nI_le (Nat.le_refl _) (by omega)
    | succ d ih =>
      intro n hn h1n hf
      have no : ¬ mC u p x y z n = true → mWP M_Mod_child 3 [qr 1 (some 0), qi p, qi x, qi y, qi z, qi (nI n + 1)] [] u (mI Z) := fun q => by
        rw [nI_1]; exact ih (n + 1) (by omega) (by omega) (fdN_f hf q)
      have a0 : (3 : Int32) * nI n = nI (3 * n) := by rw [show (3 : Int32) = nI 3 from rfl, pk_mul]
      have a1 : nI (3 * n) + 1 = nI (3 * n + 1) := nI_1 _
      have a2 : nI (3 * n) + 2 = nI (3 * n + 2) := nI_add _ 2
      refine mb_Mod_child_3 ⟨fun q => ?_, fun _ => ?_⟩
      · rw [h70] at q; exact absurd q (nI_ge (by omega) (by omega))
      · rw [a0, a1, a2, nI_clamp (show n < 2 ^ 31 by omega), nI_clamp (show 3 * n < 2 ^ 31 by omega), nI_clamp (show 3 * n + 1 < 2 ^ 31 by omega), nI_clamp (show 3 * n + 2 < 2 ^ 31 by omega)]
        refine ⟨(vpi (by omega)).mpr (by omega), fun q => no fun z => q (mC_i.mp z).2.1, fun q1 => ⟨(vpi (by omega)).mpr (by omega), fun q => no fun z => q (mC_i.mp z).2.2.1, fun q2 => ⟨(vpi (by omega)).mpr (by omega), fun q => no fun z => q (mC_i.mp z).2.2.2.1, fun q3 => ⟨(vpi (by omega)).mpr (by omega), fun q => no fun z => q (mC_i.mp z).2.2.2.2, fun q4 => ?_⟩⟩⟩⟩
        have := fdN_t (N := N) hf (mC_i.mpr ⟨h1n, q1, q2, q3, q4⟩) (by omega)
        rw [this] at h
        exact h
  exact key (N - 1) 1 (by omega) (by omega) mC_1
theorem c_Names_find {X : Nat × (Nat → Int32)} {kk N a b c S P : Nat} {g : sg} {u : MS} {p : Int32} {Z : Int32 → sg → Prop} (hsh : shC S P g) (hN : rN N g u) (ho : okT a b c) (h : Z (optI (fdN (mC u p (nI a) (nI b) (nI c)) N)) g) : nnMT X M_Names_find kk [qr 5 (some 0), qi p, qi (nI (pk3 a b c))] g (zI Z) := by
  refine t_Names_find ?_
  obtain ⟨h1, hN48, h323, h70, -, -, -, hn⟩ := hN
  have A320 : gA g 320 0 = some 48 := hsh.2.1.2.2.2.2.2.2.1
  have A321 : gA g 321 0 = some 48 := hsh.2.1.2.2.2.2.2.2.2.1
  have key : ∀ d n, n + d = N → 1 ≤ n → fdN (mC u p (nI a) (nI b) (nI c)) n = none → nnWP X M_Names_find kk 2 [qr 5 (some 0), qi p, qi (nI (pk3 a b c)), qi (nI n)] [] g (zI Z) := by
    intro d
    induction d with
    | zero =>
      intro n hn _ hf
      obtain rfl : n = N := by omega
      rw [hf] at h
      refine b_Names_find_2 ⟨fun _ => h, fun q => absurd ?_ q⟩
      rw [h323]; exact nI_le (Nat.le_refl _) (by omega)
    | succ d ih =>
      intro n hnd h1n hf
      have no : ¬ mC u p (nI a) (nI b) (nI c) n = true → nnWP X M_Names_find kk 2 [qr 5 (some 0), qi p, qi (nI (pk3 a b c)), qi (nI n + 1)] [] g (zI Z) := fun q => by
        rw [nI_1]; exact ih (n + 1) (by omega) (by omega) (fdN_f hf q)
      obtain ⟨b1, -, ⟨a', b', c', o1, o2, o3, o4, o5⟩, -⟩ := hn n h1n (by omega)
      refine b_Names_find_2 ⟨fun q => ?_, fun _ => ?_⟩
      · rw [h323] at q; exact absurd q (nI_ge (by omega) (by omega))
      · rw [nI_clamp (show n < 2 ^ 31 by omega), b1, o5]
        refine ⟨A320, (vpi (by omega)).mpr (by omega), fun q => no fun z => q (mC_i.mp z).2.1, fun q1 => ⟨A321, fun q => no fun z => q ?_, fun q2 => ?_⟩⟩
        · obtain ⟨-, -, z1, z2, z3⟩ := mC_i.mp z
          have l1 := ho.lt
          have l2 := o1.lt
          rw [o2, nI_eq (by omega) (by omega)] at z1
          rw [o3, nI_eq (by omega) (by omega)] at z2
          rw [o4, nI_eq (by omega) (by omega)] at z3
          rw [z1, z2, z3]
        · rw [nI_eq (pk3_lt o1) (pk3_lt ho), pk3_inj o1 ho] at q2
          obtain ⟨rfl, rfl, rfl⟩ := q2
          have := fdN_t (N := N) hf (mC_i.mpr ⟨h1n, q1, o2, o3, o4⟩) (by omega)
          rw [this] at h
          exact h
  exact key (N - 1) 1 (by omega) (by omega) mC_1
/-- the new name -/
def mkU (u : MS) (N : Nat) (p a b c d : Int32) : MS := mu (mu (mu (mu (mu (mu u 71 N p) 72 N d) 73 (3 * N) a) 73 (3 * N + 1) b) 73 (3 * N + 2) c) 70 0 (nI (N + 1))
def mkG (g : sg) (N : Nat) (p k d : Int32) : sg := pI (pI (pI (pI g 320 0 N p) 321 0 N k) 322 0 N d) 323 0 0 (nI (N + 1))
theorem mkU_lo {u : MS} {N k y : Nat} {p a b c d : Int32} (h : ¬ (70 ≤ k ∧ k ≤ 73) ∨ (k ≠ 70 ∧ k ≠ 73 ∧ y < N) ∨ (k = 73 ∧ y < 3 * N)) : mkU u N p a b c d k y = u k y := by
  unfold mkU
  rw [mu_at, if_neg (by omega), mu_at, if_neg (by omega), mu_at, if_neg (by omega), mu_at, if_neg (by omega), mu_at, if_neg (by omega), mu_at, if_neg (by omega)]
theorem mkG_lo {g : sg} {N f a k : Nat} {p q d : Int32} (h : ¬ (320 ≤ f ∧ f ≤ 323) ∨ (f ≠ 323 ∧ k ≠ N)) : gI (mkG g N p q d) f a k = gI g f a k := by
  unfold mkG
  rw [gI_pI, if_neg (by omega), gI_pI, if_neg (by omega), gI_pI, if_neg (by omega), gI_pI, if_neg (by omega)]
theorem pkv_N {N R p : Nat} {g : sg} {u : MS} {k a b c d : Int32} (h : pkv N R g u p k a b c d) : pkv (N + 1) R g u p k a b c d := by
  obtain ⟨h1, h2, ⟨q, q1, q2, q3, q4, ⟨n, hn, q5⟩, q6⟩ | ⟨q, q1, q2, q3, n, hn, q5⟩ | q | q⟩ := h
  · exact ⟨h1, h2, Or.inl ⟨q, q1, q2, q3, q4, ⟨n, by omega, q5⟩, q6⟩⟩
  · exact ⟨h1, h2, Or.inr (Or.inl ⟨q, q1, q2, q3, n, by omega, q5⟩)⟩
  · exact ⟨h1, h2, Or.inr (Or.inr (Or.inl q))⟩
  · exact ⟨h1, h2, Or.inr (Or.inr (Or.inr q))⟩
theorem dtv_N {N p : Nat} {g : sg} {a b c : Int32} (h : dtv N g p a b c) : dtv (N + 1) g p a b c := by
  obtain ⟨h1, h2, h3, h4, h5, n, hn, h6⟩ := h
  exact ⟨h1, h2, h3, h4, h5, n, by omega, h6⟩
theorem rl_mk {S P N R Q p a b c d : Nat} {g : sg} {u : MS} (h : rl9 S P N R Q g u) (hN48 : N < 48) (hp : p < N) (h72 : u 72 p = nI d) (hd : d < 4) (ho : okT a b c) : rl9 S P (N + 1) R Q (mkG g N (nI p) (nI (pk3 a b c)) (nI (d + 1))) (mkU u N (nI p) (nI a) (nI b) (nI c) (nI (d + 1))) := by
  obtain ⟨hsh, hT, hN, hW, hG, hRR, hS, hE, hQ, hF, hP⟩ := h
  have eU : ∀ k, ¬ (70 ≤ k ∧ k ≤ 73) → mkU u N (nI p) (nI a) (nI b) (nI c) (nI (d + 1)) k = u k := fun k hk => by funext y; exact mkU_lo (Or.inl hk)
  have eI : ∀ f, ¬ (320 ≤ f ∧ f ≤ 323) → gI (mkG g N (nI p) (nI (pk3 a b c)) (nI (d + 1))) f = gI g f := fun f hf => by funext x y; exact mkG_lo (Or.inl hf)
  have hpk : ∀ p' k x y z w, pkv N R g u p' k x y z w → pkv (N + 1) R (mkG g N (nI p) (nI (pk3 a b c)) (nI (d + 1))) (mkU u N (nI p) (nI a) (nI b) (nI c) (nI (d + 1))) p' k x y z w := by
    intro p' k x y z w hq
    have := pkv_N hq
    unfold pkv at this ⊢
    rw [eU 80 (by omega), eU 81 (by omega)]
    simp only [eI 448 (by omega), eI 449 (by omega), eI 450 (by omega), eI 451 (by omega), eI 452 (by omega), eI 453 (by omega), eI 454 (by omega), eI 455 (by omega), eI 456 (by omega), eI 457 (by omega)]
    exact this
  have hdt : ∀ p' x y z, dtv N g p' x y z → dtv (N + 1) (mkG g N (nI p) (nI (pk3 a b c)) (nI (d + 1))) p' x y z := by
    intro p' x y z hq
    have := dtv_N hq
    unfold dtv at this ⊢
    simp only [eI 448 (by omega), eI 449 (by omega), eI 453 (by omega), eI 454 (by omega)]
    exact this
  refine ⟨?_, ?_, ?_, ?_, ?_, ?_, ?_, ?_, ?_, ?_, ?_⟩
  · exact hsh
  · exact hT
  · obtain ⟨n1, n2, n3, n4, n5, n6, n7, n8⟩ := hN
    have z323 : gI (mkG g N (nI p) (nI (pk3 a b c)) (nI (d + 1))) 323 0 0 = nI (N + 1) := by unfold mkG; rw [gI_pI, if_pos ⟨rfl, rfl, rfl⟩]
    have z70 : mkU u N (nI p) (nI a) (nI b) (nI c) (nI (d + 1)) 70 0 = nI (N + 1) := by unfold mkU; rw [mu_at, if_pos ⟨rfl, rfl⟩]
    refine ⟨by omega, by omega, z323, z70, by rw [mkG_lo (by omega)]; exact n5, by rw [mkG_lo (by omega)]; exact n6, by rw [mkU_lo (by omega)]; exact n7, fun n q1 q2 => ?_⟩
    by_cases e : n = N
    · subst e
      have y1 : mkU u n (nI p) (nI a) (nI b) (nI c) (nI (d + 1)) 71 n = nI p := by unfold mkU; simp [mu_at]
      have y2 : mkU u n (nI p) (nI a) (nI b) (nI c) (nI (d + 1)) 72 n = nI (d + 1) := by unfold mkU; simp [mu_at]
      have y3 : mkU u n (nI p) (nI a) (nI b) (nI c) (nI (d + 1)) 73 (3 * n) = nI a := by unfold mkU; simp [mu_at]
      have y4 : mkU u n (nI p) (nI a) (nI b) (nI c) (nI (d + 1)) 73 (3 * n + 1) = nI b := by unfold mkU; simp [mu_at]
      have y5 : mkU u n (nI p) (nI a) (nI b) (nI c) (nI (d + 1)) 73 (3 * n + 2) = nI c := by unfold mkU; simp [mu_at]
      have x1 : gI (mkG g n (nI p) (nI (pk3 a b c)) (nI (d + 1))) 320 0 n = nI p := by unfold mkG; simp [gI_pI]
      have x2 : gI (mkG g n (nI p) (nI (pk3 a b c)) (nI (d + 1))) 321 0 n = nI (pk3 a b c) := by unfold mkG; simp [gI_pI]
      have x3 : gI (mkG g n (nI p) (nI (pk3 a b c)) (nI (d + 1))) 322 0 n = nI (d + 1) := by unfold mkG; simp [gI_pI]
      exact ⟨by rw [x1, y1], by rw [x3, y2], ⟨a, b, c, ho, y3, y4, y5, x2⟩, p, d, hp, hd, y1, by rw [mkU_lo (by omega)]; exact h72, y2⟩
    · obtain ⟨m1, m2, ⟨a', b', c', o1, o2, o3, o4, o5⟩, p', d', r1, r2, r3, r4, r5⟩ := n8 n q1 (by omega)
      refine ⟨by rw [mkG_lo (by omega), mkU_lo (by omega)]; exact m1, by rw [mkG_lo (by omega), mkU_lo (by omega)]; exact m2, ⟨a', b', c', o1, ?_, ?_, ?_, ?_⟩, p', d', r1, r2, ?_, ?_, ?_⟩
      · rw [mkU_lo (by omega)]; exact o2
      · rw [mkU_lo (by omega)]; exact o3
      · rw [mkU_lo (by omega)]; exact o4
      · rw [mkG_lo (by omega)]; exact o5
      · rw [mkU_lo (by omega)]; exact r3
      · rw [mkU_lo (by omega)]; exact r4
      · rw [mkU_lo (by omega)]; exact r5
  · intro e he
    obtain ⟨b0, b1, b2', w', b3, b4, b5, b6, b7⟩ := hW e he
    rw [eI 194 (by omega), eI 192 (by omega), eI 193 (by omega), eI 196 (by omega), eU 74 (by omega), eU 75 (by omega), eU 76 (by omega), eU 77 (by omega)]
    refine ⟨b0, b1, b2', w', b3, b4, b5, b6, fun j hj => ?_⟩
    obtain ⟨p', p1, p2⟩ := b7 j hj
    exact ⟨p', p1, hpk _ _ _ _ _ _ p2⟩
  · obtain ⟨g1, g2, g3, g4, g5⟩ := hG
    unfold rG
    rw [eU 79 (by omega), eU 80 (by omega), eU 81 (by omega)]
    refine ⟨g1, g2, fun r hr => ?_, g4, g5⟩
    obtain ⟨y1, n, hn, y2⟩ := g3 r hr
    exact ⟨y1, n, by omega, y2⟩
  · exact hRR
  · refine ⟨hS.1, hS.2.1, fun i hi => ?_⟩
    obtain ⟨c', c1, c2, c3, c4, c5⟩ := hS.2.2 i hi
    rw [eI 770 (by omega), eI 769 (by omega), eU 84 (by omega), eU 85 (by omega), eU 86 (by omega), eU 87 (by omega), eU 88 (by omega)]
    refine ⟨c', c1, c2, c3, fun j hj => ?_, c5⟩
    obtain ⟨⟨p', p1, p2⟩, p3⟩ := c4 j hj
    exact ⟨⟨p', p1, hdt _ _ _ _ p2⟩, p3⟩
  · refine ⟨hE.1, hE.2.1, hE.2.2.1, fun i hi => ?_⟩
    obtain ⟨c', ε, e1, e2, e3, e4, e5, e6, e7⟩ := hE.2.2.2 i hi
    refine ⟨c', ε, e1, e2, e3, e4, e5, fun j hj => ?_, e7⟩
    obtain ⟨k1, k2, k3, ⟨n, hn, k4⟩, k5⟩ := e6 j hj
    exact ⟨k1, k2, k3, ⟨n, by omega, k4⟩, k5⟩
  · obtain ⟨q1, q2, q3, q4, q5, q6⟩ := hQ
    refine ⟨q1, q2, q3, q4, fun q hq => ?_, q6⟩
    obtain ⟨a1, a2, a3, a4, a5, a6, a7, a8⟩ := q5 q hq
    refine ⟨a1, a2, a3, a4, a5, a6, a7, ?_⟩
    rcases a8 with z | ⟨p', c', z1, z2, z3⟩
    · exact Or.inl z
    · exact Or.inr ⟨p', c', z1, hdt _ _ _ _ z2, z3⟩
  · intro i hi
    obtain ⟨c', w, f1, f2, f3, f4, f5, f6, f7, f8, f9⟩ := hF i hi
    refine ⟨c', w, f1, f2, f3, f4, f5, f6, f7, f8, fun j hj => ?_⟩
    obtain ⟨k1, ⟨n, hn, k2⟩, k3⟩ := f9 j hj
    exact ⟨k1, ⟨n, by omega, k2⟩, k3⟩
  · intro n hn
    rcases hP n hn with z | ⟨z0, i, p', z1, z2, z3, z4, z5⟩
    · exact Or.inl z
    · exact Or.inr ⟨by omega, i, p', z1, z2, z3, z4, hdt _ _ _ _ z5⟩
theorem c_Mod_made {u : MS} {p N a b c d : Nat} {Z : Int32 → MS → Prop} (h1 : 1 ≤ N) (hN : N ≤ 48) (h70 : u 70 0 = nI N) (hp : p < N) (h72 : u 72 p = nI d) (ho : okT a b c) (hZ : (∀ n, fdN (mC u (nI p) (nI a) (nI b) (nI c)) N = some n → Z (nI n) u) ∧ (fdN (mC u (nI p) (nI a) (nI b) (nI c)) N = none → N < 48 ∧ Z (nI N) (mkU u N (nI p) (nI a) (nI b) (nI c) (nI (d + 1))))) : mMT M_Mod_made [qr 1 (some 0), qi (nI p), qi (nI a), qi (nI b), qi (nI c)] u (mI Z) := by
  refine mt_Mod_made (c_Mod_child h1 hN h70 ?_)
  have lo := ho.lt
  cases hf : fdN (mC u (nI p) (nI a) (nI b) (nI c)) N with
  | some n =>
    have hn := (fdN_lt _ _ hf).1
    exact ⟨fun _ => hZ.1 n hf, fun q => absurd (nI_pos' (by omega)) q⟩
  | none =>
    obtain ⟨hN8, hz⟩ := hZ.2 hf
    refine ⟨fun q => absurd q (by decide), fun _ => ?_⟩
    have a0 : (3 : Int32) * nI N = nI (3 * N) := by rw [show (3 : Int32) = nI 3 from rfl, pk_mul]
    have a1 : nI (3 * N) + 1 = nI (3 * N + 1) := nI_1 _
    have a2 : nI (3 * N) + 2 = nI (3 * N + 2) := nI_add _ 2
    rw [h70, a0, a1, a2, nI_clamp (show N < 2 ^ 31 by omega), nI_clamp (show p < 2 ^ 31 by omega), nI_clamp (show 3 * N < 2 ^ 31 by omega), nI_clamp (show 3 * N + 1 < 2 ^ 31 by omega), nI_clamp (show 3 * N + 2 < 2 ^ 31 by omega)]
    refine ⟨(vpi (by omega)).mpr (by omega), fun u2 y2 => ⟨(vpi (by omega)).mpr (by omega), fun u3 y3 => ⟨(vpi (by omega)).mpr (by omega), ok_nI lo.1, fun u4 y4 => ⟨(vpi (by omega)).mpr (by omega), ok_nI lo.2.1, fun u5 y5 => ⟨(vpi (by omega)).mpr (by omega), ok_nI lo.2.2, fun u6 y6 u7 y7 => ?_⟩⟩⟩⟩⟩
    have : u7 = mkU u N (nI p) (nI a) (nI b) (nI c) (nI (d + 1)) := by
      have w72 : u2 72 p = nI d := by rw [y2, mu_at, if_neg (by omega)]; exact h72
      rw [w72, nI_1] at y3
      have w70 : u6 70 0 = nI N := by
        subst y6 y5 y4 y3 y2
        rw [mu_at, if_neg (by omega), mu_at, if_neg (by omega), mu_at, if_neg (by omega), mu_at, if_neg (by omega), mu_at, if_neg (by omega)]
        exact h70
      rw [w70, nI_1] at y7
      subst y7 y6 y5 y4 y3 y2
      rfl
    rw [this]
    exact hz
theorem c_Names_findOrMake {X : Nat × (Nat → Int32)} {kk p N a b c d S P : Nat} {g : sg} {u : MS} {Z : Int32 → sg → Prop} (hsh : shC S P g) (hN : rN N g u) (hp : p < N) (h72 : u 72 p = nI d) (ho : okT a b c) (hZ : (∀ n, fdN (mC u (nI p) (nI a) (nI b) (nI c)) N = some n → Z (nI n) g) ∧ (fdN (mC u (nI p) (nI a) (nI b) (nI c)) N = none → N < 48 ∧ Z (nI N) (mkG g N (nI p) (nI (pk3 a b c)) (nI (d + 1))))) : nnMT X M_Names_findOrMake kk [qr 5 (some 0), qi (nI p), qi (nI (pk3 a b c))] g (zI Z) := by
  refine t_Names_findOrMake (c_Names_find hsh hN ho ?_)
  have A320 : gA g 320 0 = some 48 := hsh.2.1.2.2.2.2.2.2.1
  have A321 : gA g 321 0 = some 48 := hsh.2.1.2.2.2.2.2.2.2.1
  have A322 : gA g 322 0 = some 48 := hsh.2.1.2.2.2.2.2.2.2.2
  obtain ⟨n1, n2, n3, n4, n5, n6, n7, n8⟩ := hN
  cases hf : fdN (mC u (nI p) (nI a) (nI b) (nI c)) N with
  | some n =>
    have hn := (fdN_lt _ _ hf).1
    exact fun _ => ⟨fun _ => hZ.1 n hf, fun q => absurd q (nI_m1 (by omega))⟩
  | none =>
    obtain ⟨hN8, hz⟩ := hZ.2 hf
    refine fun _ => ⟨fun q => absurd rfl q, fun _ => ⟨fun _ => ?_, fun q => ?_⟩⟩
    · rw [n3, nI_clamp (show N < 2 ^ 31 by omega)]
      refine ⟨A320, (vpi (by omega)).mpr (by omega), fun g2 y2 => ⟨by rw [y2]; exact A321, fun g3 y3 => ⟨by rw [y3, y2]; exact A322, ?_⟩⟩⟩
      have w323 : gI g3 323 0 0 = nI N := by rw [y3, y2, gI_pI, if_neg (by omega), gI_pI, if_neg (by omega)]; exact n3
      have w322 : gI g3 322 0 p = nI d := by
        rw [y3, y2, gI_pI, if_neg (by omega), gI_pI, if_neg (by omega)]
        by_cases e : p = 0
        · subst e; rw [n6, ← h72, n7]
        · rw [(n8 p (by omega) hp).2.1]; exact h72
      refine t_Names_lengthOf (c_Names_has w323 ?_)
      refine fun _ => ⟨fun q => ?_, fun _ => ⟨by rw [y3, y2]; exact A322, (vpi (by omega)).mpr (by omega), ?_⟩⟩
      · rw [b2_t (inN_nI hp (by omega))] at q
        exact absurd q (by decide)
      · rw [nI_clamp (show p < 2 ^ 31 by omega), w322, nI_1]
        intro _ g5 y5 g6 y6
        have : gI g5 323 0 0 = nI N := by rw [y5, gI_pI, if_neg (by omega)]; exact w323
        rw [this, nI_1] at y6
        subst y6 y5 y3 y2
        exact hz
    · rw [n3] at q
      exact absurd (nI_lt hN8 (by omega)) q
