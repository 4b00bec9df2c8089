/-- a change of entries only -/
def eOn (g g' : sg) (u v : MS) : Prop := (∀ k, ¬ (92 ≤ k ∧ k ≤ 100) → k ≠ 78 → v k = u k) ∧ (∀ f, ¬ (f / 64 = 2 ∨ f / 64 = 8) → gI g' f = gI g f ∧ gR g' f = gR g f) ∧ (∀ f a, gA g' f a = gA g f a) ∧ ∀ c, gC g' c = gC g c
theorem eOn.tr {g g1 g2 : sg} {u u1 u2 : MS} (h : eOn g g1 u u1) (k : eOn g1 g2 u1 u2) : eOn g g2 u u2 := ⟨fun f a b => (k.1 f a b).trans (h.1 f a b), fun f hf => ⟨(k.2.1 f hf).1.trans (h.2.1 f hf).1, (k.2.1 f hf).2.trans (h.2.1 f hf).2⟩, fun f a => (k.2.2.1 f a).trans (h.2.2.1 f a), fun c => (k.2.2.2 c).trans (h.2.2.2 c)⟩
theorem eOn.pk {g g' : sg} {u v : MS} (h : eOn g g' u v) : pkS g g' := ⟨by rw [h.2.2.2]; exact Nat.le_refl _, fun f p k hf _ => by rw [(h.2.1 f (by omega)).1]⟩
theorem rl9_E {S P N R Q : Nat} {g g' : sg} {u v : MS} (h : rl9 S P N R Q g u) (hm : eOn g g' u v) (hE : rE N P g' v) : rl9 S P N R Q g' v := by
  obtain ⟨hsh, hT, hN, hW, hG, hRR, hS, hE0, hQ, hF, hP⟩ := h
  obtain ⟨a, b, hA, hC⟩ := hm
  have eI : ∀ f, ¬ (f / 64 = 2 ∨ f / 64 = 8) → gI g' f = gI g f := fun f hf => (b f hf).1
  have eR : ∀ f, ¬ (f / 64 = 2 ∨ f / 64 = 8) → gR g' f = gR g f := fun f hf => (b f hf).2
  refine ⟨?_, ?_, ?_, ?_, ?_, ?_, ?_, hE, ?_, ?_, ?_⟩
  · unfold shC at hsh ⊢
    simp only [hA, eR 5 (by omega), eR 6 (by omega), eR 385 (by omega), eR 386 (by omega), eR 387 (by omega), eR 388 (by omega), eR 389 (by omega), eI 384 (by omega)]
    exact hsh
  · unfold rT at hT ⊢
    simp only [eI 0 (by omega), eI 1 (by omega), eI 2 (by omega), eI 3 (by omega), a 66 (by omega) (by omega), a 67 (by omega) (by omega), a 68 (by omega) (by omega), a 69 (by omega) (by omega)]
    exact hT
  · unfold rN at hN ⊢
    simp only [eI 320 (by omega), eI 321 (by omega), eI 322 (by omega), eI 323 (by omega), a 70 (by omega) (by omega), a 71 (by omega) (by omega), a 72 (by omega) (by omega), a 73 (by omega) (by omega)]
    exact hN
  · unfold rW pkv at hW ⊢
    simp only [hC, eI 192 (by omega), eI 193 (by omega), eI 194 (by omega), eI 196 (by omega), eR 195 (by omega), eI 448 (by omega), eI 449 (by omega), eI 450 (by omega), eI 451 (by omega), eI 452 (by omega), eI 453 (by omega), eI 454 (by omega), eI 455 (by omega), eI 456 (by omega), eI 457 (by omega), a 74 (by omega) (by omega), a 75 (by omega) (by omega), a 76 (by omega) (by omega), a 77 (by omega) (by omega), a 80 (by omega) (by omega), a 81 (by omega) (by omega)]
    exact hW
  · unfold rG at hG ⊢
    simp only [a 79 (by omega) (by omega), a 80 (by omega) (by omega), a 81 (by omega) (by omega)]
    exact hG
  · unfold rR rRn at hRR ⊢
    simp only [hC, hA, eI 705 (by omega), eR 704 (by omega), eI 640 (by omega), eI 641 (by omega), eI 642 (by omega), eI 643 (by omega), a 80 (by omega) (by omega), a 81 (by omega) (by omega), a 82 (by omega) (by omega), a 83 (by omega) (by omega)]
    exact hRR
  · unfold rS dtv at hS ⊢
    simp only [hC, eI 770 (by omega), eI 769 (by omega), eR 768 (by omega), eI 448 (by omega), eI 449 (by omega), eI 453 (by omega), eI 454 (by omega), a 64 (by omega) (by omega), a 84 (by omega) (by omega), a 85 (by omega) (by omega), a 86 (by omega) (by omega), a 87 (by omega) (by omega), a 88 (by omega) (by omega)]
    exact hS
  · unfold rQ dtv at hQ ⊢
    simp only [hC, eI 10 (by omega), eR 9 (by omega), eI 576 (by omega), eI 577 (by omega), eI 578 (by omega), eI 579 (by omega), eI 580 (by omega), eR 581 (by omega), eI 448 (by omega), eI 449 (by omega), eI 453 (by omega), eI 454 (by omega), a 101 (by omega) (by omega), a 102 (by omega) (by omega), a 103 (by omega) (by omega), a 104 (by omega) (by omega), a 105 (by omega) (by omega), a 106 (by omega) (by omega), a 107 (by omega) (by omega), a 108 (by omega) (by omega)]
    exact hQ
  · unfold rF at hF ⊢
    simp only [eI 256 (by omega), eI 257 (by omega), eI 258 (by omega), eI 259 (by omega), eI 260 (by omega), eI 261 (by omega), eR 262 (by omega), a 105 (by omega) (by omega), a 109 (by omega) (by omega), a 110 (by omega) (by omega), a 111 (by omega) (by omega), a 112 (by omega) (by omega), a 113 (by omega) (by omega), a 114 (by omega) (by omega), a 115 (by omega) (by omega)]
    exact hF
  · unfold rP dtv at hP ⊢
    simp only [hC, eI 8 (by omega), eR 7 (by omega), eI 448 (by omega), eI 449 (by omega), eI 453 (by omega), eI 454 (by omega), a 89 (by omega) (by omega), a 90 (by omega) (by omega), a 91 (by omega) (by omega)]
    exact hP
/-- one entry, as the two sides hold it -/
def en1 (N a y : Nat) (g : sg) (u : MS) : Prop := gI g 128 a 0 = u 93 y ∧ gI g 129 a 0 = u 94 y ∧ gI g 130 a 0 = u 95 y ∧ (∃ n, n < N ∧ u 93 y = nI n) ∧ (∃ f, f < 4 ∧ u 94 y = nI f) ∧ (∃ h, h ≤ 9 ∧ u 95 y = nI h) ∧ ∀ f, f < 5 → enf g u a (5 * y) f
theorem en1_congr {N a y z : Nat} {g g' : sg} {u v : MS} (h : en1 N a y g u) (hg : ∀ f k, f / 64 = 2 → gI g' f a k = gI g f a k) (h3 : ∀ k, 93 ≤ k → k ≤ 95 → v k z = u k y) (h6 : ∀ k f, 96 ≤ k → k ≤ 100 → f < 5 → v k (5 * z + f) = u k (5 * y + f)) : en1 N a z g' v := by
  obtain ⟨a1, a2, a3, a4, a5, a6, a7⟩ := h
  refine ⟨?_, ?_, ?_, ?_, ?_, ?_, fun f hf => ?_⟩
  · rw [hg 128 0 rfl, h3 93 (by omega) (by omega)]; exact a1
  · rw [hg 129 0 rfl, h3 94 (by omega) (by omega)]; exact a2
  · rw [hg 130 0 rfl, h3 95 (by omega) (by omega)]; exact a3
  · rw [h3 93 (by omega) (by omega)]; exact a4
  · rw [h3 94 (by omega) (by omega)]; exact a5
  · rw [h3 95 (by omega) (by omega)]; exact a6
  · have := a7 f hf
    unfold enf at this ⊢
    rw [hg 131 f rfl, hg 132 f rfl, hg 133 f rfl, hg 134 f rfl, h6 96 f (by omega) (by omega) hf, h6 97 f (by omega) (by omega) hf, h6 98 f (by omega) (by omega) hf, h6 99 f (by omega) (by omega) hf, h6 100 f (by omega) (by omega) hf]
    exact this
/-- a change of one entry -/
def enM (i j a : Nat) (g g' : sg) (u v : MS) : Prop := eOn g g' u v ∧ (∀ f b k, f / 64 = 2 → b ≠ a → gI g' f b k = gI g f b k) ∧ gR g' 512 = gR g 512 ∧ (∀ k y, 93 ≤ k → k ≤ 95 → y ≠ 6 * i + j → v k y = u k y) ∧ (∀ k y, 96 ≤ k → k ≤ 100 → ¬ (5 * (6 * i + j) ≤ y ∧ y < 5 * (6 * i + j) + 5) → v k y = u k y) ∧ ∀ i', i' ≠ i → v 92 i' = u 92 i' ∧ gI g' 513 i' 0 = gI g 513 i' 0
theorem rl_enM {S P N R Q i j c c' : Nat} {ε : Nat → Nat} {g g' : sg} {u v : MS} (h : rl9 S P N R Q g u) (hi : i < 5) (hen : rEn N P i c ε g u) (hm : enM i j (ε j) g g' u v) (hj : j < c') (hcc : c ≤ c') (hc' : c' ≤ P) (hoth : ∀ j', j' < c' → j' ≠ j → j' < c) (h513 : gI g' 513 i 0 = nI c') (h92 : v 92 i = nI c') (h1 : en1 N (ε j) (6 * i + j) g' v) (hun : ∀ j', j' < c' → j' ≠ j → ¬ (u 93 (6 * i + j') = v 93 (6 * i + j) ∧ u 94 (6 * i + j') = v 94 (6 * i + j))) : rl9 S P N R Q g' v ∧ rEn N P i c' ε g' v := by
  have hP6 := h.2.2.2.2.2.2.2.1.2.1
  obtain ⟨hon, hI, hR, h3, h6, h9⟩ := hm
  obtain ⟨e1, e2, e3, e4, e5, e6, e7⟩ := hen
  have hself : rEn N P i c' ε g' v := by
    refine ⟨hc', h513, h92, fun j' hj' => by rw [hR]; exact e4 j' hj', e5, fun j' hj' => ?_, fun j1 j2 q1 q2 z1 z2 => ?_⟩
    · by_cases hjj : j' = j
      · rw [hjj]; exact h1
      · exact en1_congr (e6 j' (hoth j' hj' hjj)) (fun f k hf => hI f _ k hf (fun z => hjj (e5 j' j (by omega) (by omega) z))) (fun k k1 k2 => h3 k _ k1 k2 (by omega)) (fun k f k1 k2 hf => h6 k _ k1 k2 (by omega))
    · by_cases c1 : j1 = j <;> by_cases c2 : j2 = j
      · omega
      · rw [c1, h3 93 (6 * i + j2) (by omega) (by omega) (by omega)] at z1
        rw [c1, h3 94 (6 * i + j2) (by omega) (by omega) (by omega)] at z2
        exact absurd ⟨z1.symm, z2.symm⟩ (hun j2 q2 c2)
      · rw [c2, h3 93 (6 * i + j1) (by omega) (by omega) (by omega)] at z1
        rw [c2, h3 94 (6 * i + j1) (by omega) (by omega) (by omega)] at z2
        exact absurd ⟨z1, z2⟩ (hun j1 q1 c1)
      · rw [h3 93 (6 * i + j1) (by omega) (by omega) (by omega), h3 93 (6 * i + j2) (by omega) (by omega) (by omega)] at z1
        rw [h3 94 (6 * i + j1) (by omega) (by omega) (by omega), h3 94 (6 * i + j2) (by omega) (by omega) (by omega)] at z2
        exact e7 j1 j2 (hoth j1 q1 c1) (hoth j2 q2 c2) z1 z2
  refine ⟨rl9_E h hon ⟨h.2.2.2.2.2.2.2.1.1, hP6, ?_, fun i' hi' => ?_⟩, hself⟩
  · rw [hon.1 65 (by omega) (by omega)]; exact h.2.2.2.2.2.2.2.1.2.2.1
  · by_cases hii : i' = i
    · subst hii
      exact ⟨c', ε, hself⟩
    · obtain ⟨c2, ε2, d1, d2, d3, d4, d5, d6, d7⟩ := h.2.2.2.2.2.2.2.1.2.2.2 i' hi'
      have hne : ∀ j', j' < P → ε2 j' ≠ ε j := by
        intro j' hj' z
        have b1 := (d4 j' hj').2
        have b2' := (e4 j (by omega)).2
        rw [z] at b1
        rcases Nat.lt_or_ge i' i with q | q
        · have : P * i' + P ≤ P * i := by
            rw [show P * i' + P = P * (i' + 1) by rw [Nat.mul_add, Nat.mul_one]]
            exact Nat.mul_le_mul_left P (by omega)
          omega
        · have : P * i + P ≤ P * i' := by
            rw [show P * i + P = P * (i + 1) by rw [Nat.mul_add, Nat.mul_one]]
            exact Nat.mul_le_mul_left P (by omega)
          omega
      refine ⟨c2, ε2, d1, by rw [(h9 i' hii).2]; exact d2, by rw [(h9 i' hii).1]; exact d3, fun j' hj' => by rw [hR]; exact d4 j' hj', d5, fun j' hj' => ?_, fun j1 j2 q1 q2 z1 z2 => ?_⟩
      · exact en1_congr (d6 j' hj') (fun f k hf => hI f _ k hf (hne j' (by omega))) (fun k k1 k2 => h3 k _ k1 k2 (by omega)) (fun k f k1 k2 hf => h6 k _ k1 k2 (by omega))
      · rw [h3 93 (6 * i' + j1) (by omega) (by omega) (by omega), h3 93 (6 * i' + j2) (by omega) (by omega) (by omega)] at z1
        rw [h3 94 (6 * i' + j1) (by omega) (by omega) (by omega), h3 94 (6 * i' + j2) (by omega) (by omega) (by omega)] at z2
        exact d7 j1 j2 q1 q2 z1 z2
/-- looking for an entry -/
theorem c_Mod_entry {u : MS} {i c : Nat} {x y : Int32} {Z : Int32 → MS → Prop} (hi : i < 5) (hc : c ≤ 6) (h92 : u 92 i = nI c) (h : (∀ j, j < c → u 93 (6 * i + j) = x → u 94 (6 * i + j) = y → Z (nI (6 * i + j)) u) ∧ ((∀ j, j < c → ¬ (u 93 (6 * i + j) = x ∧ u 94 (6 * i + j) = y)) → Z (-1) u)) : mMT M_Mod_entry [qr 1 (some 0), qi (nI i), qi x, qi y] u (mI Z) := by
  refine mt_Mod_entry ?_
  rw [show (6 : Int32) * nI i = nI (6 * i + 0) by rw [nl_6, pk_mul]; rfl]
  have key : ∀ j, j ≤ c → (∀ j', j' < j → ¬ (u 93 (6 * i + j') = x ∧ u 94 (6 * i + j') = y)) → mWP M_Mod_entry 6 [qr 1 (some 0), qi (nI i), qi x, qi y, qi (nI (6 * i + j))] [] u (mI Z) := by
    refine dn c (fun hno => ?_) (fun j hj ih hno => ?_)
    · refine mb_Mod_entry_6 ?_
      rw [nI_clamp (show i < 2 ^ 31 by omega), h92, show (6 : Int32) * nI i + nI c = nI (6 * i + c) by rw [nl_6, pk_mul, nI_add]]
      exact ⟨(vpi (by omega)).mpr hi, fun _ => h.2 hno, fun q => absurd (nI_le (Nat.le_refl _) (by omega)) q⟩
    · refine mb_Mod_entry_6 ?_
      rw [nI_clamp (show i < 2 ^ 31 by omega), h92, show (6 : Int32) * nI i + nI c = nI (6 * i + c) by rw [nl_6, pk_mul, nI_add], nI_clamp (show 6 * i + j < 2 ^ 31 by omega), nI_1]
      have hgo : ¬ (u 93 (6 * i + j) = x ∧ u 94 (6 * i + j) = y) → mWP M_Mod_entry 6 [qr 1 (some 0), qi (nI i), qi x, qi y, qi (nI (6 * i + j + 1))] [] u (mI Z) := fun hn => ih fun j' hj' => by
        by_cases e : j' = j
        · rw [e]; exact hn
        · exact hno j' (by omega)
      exact ⟨(vpi (by omega)).mpr hi, fun q => absurd q (nI_ge (by omega) (by omega)), fun _ => ⟨(vpi (by omega)).mpr (by omega), fun q => hgo (fun z => q z.1), fun q1 => ⟨fun q => hgo (fun z => q z.2), fun q2 => h.1 j hj q1 q2⟩⟩⟩
  exact key 0 (Nat.zero_le _) (fun j' q => absurd q (Nat.not_lt_zero _))
theorem c_Pending_find {X : Nat × (Nat → Int32)} {kk N P i c : Nat} {ε : Nat → Nat} {g : sg} {u : MS} {x y : Int32} {Z : Option Nat → sg → Prop} (hP : P ≤ 6) (hA : gA g 512 i = some P) (hen : rEn N P i c ε g u) (h : (∀ j, j < c → u 93 (6 * i + j) = x → u 94 (6 * i + j) = y → Z (some (ε j)) g) ∧ ((∀ j, j < c → ¬ (u 93 (6 * i + j) = x ∧ u 94 (6 * i + j) = y)) → Z none g)) : nnMT X M_Pending_find kk [qr 8 (some i), qi x, qi y] g (zR 2 Z) := by
  obtain ⟨e1, e2, e3, e4, e5, e6, e7⟩ := hen
  refine t_Pending_find ?_
  have key : ∀ j, j ≤ c → (∀ j', j' < j → ¬ (u 93 (6 * i + j') = x ∧ u 94 (6 * i + j') = y)) → nnWP X M_Pending_find kk 2 [qr 8 (some i), qi x, qi y, qi (nI j)] [] g (zR 2 Z) := by
    refine dn c (fun hno => ?_) (fun j hj ih hno => ?_)
    · refine b_Pending_find_2 ⟨fun _ => h.2 hno, fun q => absurd ?_ q⟩
      rw [e2]; exact nI_le (Nat.le_refl _) (by omega)
    · obtain ⟨k1, k2, -⟩ := e6 j hj
      have hgo : ¬ (u 93 (6 * i + j) = x ∧ u 94 (6 * i + j) = y) → nnWP X M_Pending_find kk 2 [qr 8 (some i), qi x, qi y, qi (nI (j + 1))] [] g (zR 2 Z) := fun hn => ih fun j' hj' => by
        by_cases e : j' = j
        · rw [e]; exact hn
        · exact hno j' (by omega)
      refine b_Pending_find_2 ?_
      rw [e2, nI_clamp (show j < 2 ^ 31 by omega), (e4 j (by omega)).1, nI_1]
      refine ⟨fun q => absurd q (nI_ge hj (by omega)), fun _ => ⟨P, hA, (vpi (by omega)).mpr (by omega), ε j, rfl, ?_⟩⟩
      rw [k1, k2]
      exact ⟨fun q => hgo (fun z => q z.1), fun q1 => ⟨fun q => hgo (fun z => q z.2), fun q2 => h.1 j hj q1 q2⟩⟩
  exact key 0 (Nat.zero_le _) (fun j' q => absurd q (Nat.not_lt_zero _))
/-- whether an interest has gone round -/
def rdS (u : MS) (k F : Nat) (z : Int32) (f : Nat) : Bool := (!decide (u 99 (k + f) = 0) && decide (u 100 (k + f) = z)) || (!decide (f = F) && (!decide (u 96 (k + f) = 0) && decide (u 97 (k + f) = z)))
def rdF (u : MS) (k F : Nat) (z : Int32) : Nat → Bool
  | 0 => false
  | f + 1 => rdF u k F z f || rdS u k F z f
theorem rdF_t {u : MS} {k F : Nat} {z : Int32} : ∀ n f, f < n → rdS u k F z f = true → rdF u k F z n = true
  | 0, f, h, _ => absurd h (Nat.not_lt_zero _)
  | n + 1, f, h, hs => by
    show (rdF u k F z n || rdS u k F z n) = true
    by_cases e : f = n
    · rw [← e, hs]; simp
    · rw [rdF_t n f (by omega) hs]; rfl
theorem enf.v {g : sg} {u : MS} {a k f : Nat} (h : enf g u a k f) : (u 96 (k + f) = 0 ∨ u 96 (k + f) = 1) ∧ (u 99 (k + f) = 0 ∨ u 99 (k + f) = 1 ∨ u 99 (k + f) = 2) := by
  obtain ⟨h1, h2⟩ := h
  constructor
  · rcases h1 with z | z
    · exact Or.inl z.1
    · exact Or.inr z.1
  · rcases h2 with z | ⟨-, -, z | z⟩
    · exact Or.inl z.1
    · exact Or.inr (Or.inl z.1)
    · exact Or.inr (Or.inr z.1)
theorem enf.le96 {g : sg} {u : MS} {a k f : Nat} (h : enf g u a k f) : u 96 (k + f) ≤ 0 ↔ u 96 (k + f) = 0 := by
  rcases h.v.1 with e | e <;> rw [e] <;> decide
theorem enf.le99 {g : sg} {u : MS} {a k f : Nat} (h : enf g u a k f) : u 99 (k + f) ≤ 0 ↔ u 99 (k + f) = 0 := by
  rcases h.v.2 with e | e | e <;> rw [e] <;> decide
theorem c_Mod_round {g : sg} {u : MS} {a e F : Nat} {z : Int32} {Z : Int32 → MS → Prop} (he : e < 30) (hF : F < 5) (hf : ∀ f, f < 5 → enf g u a (5 * e) f) (h : Z (b2 (rdF u (5 * e) F z 5)) u) : mMT M_Mod_round [qr 1 (some 0), qi (nI e), qi (nI F), qi z] u (mI Z) := by
  refine mt_Mod_round ?_
  have key : ∀ f, f ≤ 5 → mWP M_Mod_round 6 [qr 1 (some 0), qi (nI e), qi (nI F), qi z, qi (b2 (rdF u (5 * e) F z f)), qi (nI f)] [] u (mI Z) := by
    refine dn 5 (mb_Mod_round_6 ⟨fun _ => ⟨?_, h⟩, fun q => absurd (by decide) q⟩) ?_
    · cases rdF u (5 * e) F z 5
      · exact Or.inl rfl
      · exact Or.inr rfl
    intro f hf5 ih
    have es : rdF u (5 * e) F z (f + 1) = (rdF u (5 * e) F z f || rdS u (5 * e) F z f) := rfl
    rw [es] at ih
    refine mb_Mod_round_6 ⟨fun q => ?_, fun _ => ?_⟩
    · rw [nl_5, nI_leI (by omega) (by omega)] at q; omega
    rw [show (5 : Int32) * nI e + nI f = nI (5 * e + f) by rw [nl_5, pk_mul, nI_add], nI_clamp (show 5 * e + f < 2 ^ 31 by omega), nI_1]
    have hen := hf f hf5
    cases hb : rdF u (5 * e) F z f with
    | true =>
      rw [hb] at ih
      exact ⟨fun _ => ih, fun q => absurd q (by decide)⟩
    | false =>
      rw [hb] at ih
      refine ⟨fun q => absurd rfl q, fun _ => ⟨(vpi (by omega)).mpr (by omega), ?_⟩⟩
      rw [hen.le99, hen.le96, nI_eq (show f < 2 ^ 31 by omega) (show F < 2 ^ 31 by omega)]
      have hno : rdS u (5 * e) F z f = false → mWP M_Mod_round 6 [qr 1 (some 0), qi (nI e), qi (nI F), qi z, qi 0, qi (nI (f + 1))] [] u (mI Z) := fun hh => by rw [hh] at ih; exact ih
      have hyes : rdS u (5 * e) F z f = true → mWP M_Mod_round 6 [qr 1 (some 0), qi (nI e), qi (nI F), qi z, qi 1, qi (nI (f + 1))] [] u (mI Z) := fun hh => by rw [hh] at ih; exact ih
      exact ⟨fun q1 => ⟨fun q2 => hno (by unfold rdS; rw [show decide (f = F) = true by simpa using q2]; simp [q1]), fun q2 => ⟨fun q3 => hno (by unfold rdS; simp [q1, q3]), fun q3 => ⟨fun q4 => hno (by unfold rdS; simp [q1, q4]), fun q4 => hyes (by unfold rdS; simp [q2, q3, q4])⟩⟩⟩, fun q1 => ⟨fun q2 => hyes (by unfold rdS; simp [q1, q2]), fun q2 => ⟨fun q3 => hno (by unfold rdS; rw [show decide (f = F) = true by simpa using q3]; simp [q2]), fun q3 => ⟨fun q4 => hno (by unfold rdS; simp [q2, q4]), fun q4 => ⟨fun q5 => hno (by unfold rdS; simp [q2, q5]), fun q5 => hyes (by unfold rdS; simp [q3, q4, q5])⟩⟩⟩⟩⟩
  exact key 0 (Nat.zero_le _)
theorem c_Entry_hasSeen {X : Nat × (Nat → Int32)} {kk a k F : Nat} {g : sg} {u : MS} {z : Int32} {Z : Int32 → sg → Prop} (hA : enA g a) (hF : F < 5) (hf : ∀ f, f < 5 → enf g u a k f) (hz : ¬ z = -1) (h : Z (b2 (rdF u k F z 5)) g) : nnMT X M_Entry_hasSeen kk [qr 2 (some a), qi z, qi (nI F)] g (zI Z) := by
  refine t_Entry_hasSeen ?_
  have key : ∀ f, f ≤ 5 → rdF u k F z f = false → nnWP X M_Entry_hasSeen kk 2 [qr 2 (some a), qi z, qi (nI F), qi (nI f)] [] g (zI Z) := by
    refine dn 5 (fun hb => b_Entry_hasSeen_2 ⟨fun _ => ?_, fun q => absurd (by decide) q⟩) ?_
    · rw [hb] at h; exact h
    intro f hf5 ih hb
    have es : rdF u k F z (f + 1) = (rdF u k F z f || rdS u k F z f) := rfl
    rw [es, hb] at ih
    have hen := hf f hf5
    have e133 : gI g 133 a f = z ↔ ¬ u 99 (k + f) = 0 ∧ u 100 (k + f) = z := by
      rcases hen.2 with ⟨q1, q2⟩ | ⟨-, q2, q3 | q3⟩
      · rw [q1, q2]; exact ⟨fun q => absurd q.symm hz, fun q => absurd rfl q.1⟩
      · rw [q2, q3.1]; exact ⟨fun q => ⟨by decide, q⟩, fun q => q.2⟩
      · rw [q2, q3.1]; exact ⟨fun q => ⟨by decide, q⟩, fun q => q.2⟩
    have e131 : gI g 131 a f = z ↔ ¬ u 96 (k + f) = 0 ∧ u 97 (k + f) = z := by
      rcases hen.1 with ⟨q1, q2⟩ | ⟨q1, -, q2, -⟩
      · rw [q1, q2]; exact ⟨fun q => absurd q.symm hz, fun q => absurd rfl q.1⟩
      · rw [q2, q1]; exact ⟨fun q => ⟨by decide, q⟩, fun q => q.2⟩
    have hno : rdS u k F z f = false → nnWP X M_Entry_hasSeen kk 2 [qr 2 (some a), qi z, qi (nI F), qi (nI (f + 1))] [] g (zI Z) := fun hh => ih (by rw [hh]; rfl)
    have hyes : rdS u k F z f = true → Z 1 g := fun hh => by rw [rdF_t 5 f hf5 hh] at h; exact h
    refine b_Entry_hasSeen_2 ⟨fun q => ?_, fun _ => ?_⟩
    · rw [nl_5, nI_leI (by omega) (by omega)] at q; omega
    rw [nI_clamp (show f < 2 ^ 31 by omega), e133, e131, nI_1, nI_eq (show f < 2 ^ 31 by omega) (show F < 2 ^ 31 by omega)]
    refine ⟨hA.2.2.1, (vpi (by omega)).mpr hf5, fun q => hyes ?_, fun q => ⟨fun q2 => hno ?_, fun q2 => ⟨hA.1, fun q3 => hno ?_, fun q3 => hyes ?_⟩⟩⟩
    · unfold rdS; simp [q.1, q.2]
    · unfold rdS
      rw [show (!decide (u 99 (k + f) = 0) && decide (u 100 (k + f) = z)) = false by
        cases hc : (!decide (u 99 (k + f) = 0) && decide (u 100 (k + f) = z)) with
        | false => rfl
        | true => simp at hc; exact absurd hc q]
      simp [q2]
    · unfold rdS
      rw [show (!decide (u 99 (k + f) = 0) && decide (u 100 (k + f) = z)) = false by
        cases hc : (!decide (u 99 (k + f) = 0) && decide (u 100 (k + f) = z)) with
        | false => rfl
        | true => simp at hc; exact absurd hc q]
      rw [show (!decide (u 96 (k + f) = 0) && decide (u 97 (k + f) = z)) = false by
        cases hc : (!decide (u 96 (k + f) = 0) && decide (u 97 (k + f) = z)) with
        | false => rfl
        | true => simp at hc; exact absurd hc q3]
      simp
    · unfold rdS; simp [q2, q3.1, q3.2]
  exact key 0 (Nat.zero_le _) rfl
