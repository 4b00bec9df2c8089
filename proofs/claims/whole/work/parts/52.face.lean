/-- a change of one face of one entry, and of its hops -/
theorem rl_face {S P N R Q i j c F : Nat} {ε : Nat → Nat} {g g' : sg} {u v : MS} (h : rl9 S P N R Q g u) (hi : i < 5) (hen : rEn N P i c ε g u) (hj : j < c) (hF : F < 5)
    (hg : ∀ f b k, ¬ (130 ≤ f ∧ f ≤ 134 ∧ b = ε j ∧ (k = F ∨ f = 130)) → gI g' f b k = gI g f b k) (hR : ∀ f, gR g' f = gR g f) (hA : ∀ f a, gA g' f a = gA g f a) (hC : ∀ c, gC g' c = gC g c)
    (hu : ∀ k y, ¬ (96 ≤ k ∧ k ≤ 100 ∧ y = 5 * (6 * i + j) + F) → ¬ (k = 95 ∧ y = 6 * i + j) → v k y = u k y) (h95 : gI g' 130 (ε j) 0 = v 95 (6 * i + j) ∧ ∃ h, h ≤ 9 ∧ v 95 (6 * i + j) = nI h) (he : enf g' v (ε j) (5 * (6 * i + j)) F) : rl9 S P N R Q g' v ∧ rEn N P i c ε g' v ∧ pkS g g' := by
  have hP6 := h.2.2.2.2.2.2.2.1.2.1
  have hen0 := hen
  obtain ⟨e1, e2, e3, e4, e5, e6, e7⟩ := hen
  have hon : eOn g g' u v := by
    refine ⟨fun k k1 k2 => ?_, fun f hf => ⟨?_, hR f⟩, hA, hC⟩
    · funext y
      exact hu k y (by omega) (by omega)
    · funext b k
      exact hg f b k (by omega)
  have hm : enM i j (ε j) g g' u v := by
    refine ⟨hon, fun f b k hf hb => hg f b k (fun z => hb z.2.2.1), hR 512, fun k y k1 k2 hy => hu k y (by omega) (fun z => hy z.2), fun k y k1 k2 hy => hu k y (by omega) (by omega), fun i' hi' => ⟨hu 92 i' (by omega) (by omega), hg 513 i' 0 (by omega)⟩⟩
  obtain ⟨n1, n2, n3, n4, n5, n6, nf⟩ := e6 j hj
  have v93 : ∀ y, v 93 y = u 93 y := fun y => hu 93 y (by omega) (by omega)
  have v94 : ∀ y, v 94 y = u 94 y := fun y => hu 94 y (by omega) (by omega)
  have hone : en1 N (ε j) (6 * i + j) g' v := by
    refine ⟨?_, ?_, h95.1, by rw [v93]; exact n4, by rw [v94]; exact n5, h95.2, fun f hf => ?_⟩
    · rw [hg 128 _ _ (by omega), v93]; exact n1
    · rw [hg 129 _ _ (by omega), v94]; exact n2
    · by_cases hfF : f = F
      · rw [hfF]; exact he
      · have := nf f hf
        unfold enf at this ⊢
        rw [hg 131 _ _ (by omega), hg 132 _ _ (by omega), hg 133 _ _ (by omega), hg 134 _ _ (by omega), hu 96 _ (by omega) (by omega), hu 97 _ (by omega) (by omega), hu 98 _ (by omega) (by omega), hu 99 _ (by omega) (by omega), hu 100 _ (by omega) (by omega)]
        exact this
  obtain ⟨r1, r2⟩ := rl_enM h hi hen0 hm hj (Nat.le_refl _) e1 (fun j' hj' _ => hj') (by rw [hg 513 i 0 (by omega)]; exact e2) (by rw [hu 92 i (by omega) (by omega)]; exact e3) hone (fun j' hj' hne z => hne (e7 j' j hj' hj (by rw [z.1, v93]) (by rw [z.2, v94])))
  exact ⟨r1, r2, hon.pk⟩
/-- an errand -/
def erU (u : MS) (k F : Nat) (z : Int32) : MS := mu (mu u 99 (k + F) 1) 100 (k + F) z
def erG (g : sg) (a F : Nat) (z : Int32) : sg := pI (pI g 133 a F z) 134 a F 0
theorem er_p {S P N R Q i j c F : Nat} {ε : Nat → Nat} {g : sg} {u : MS} {z : Int32} (h : rl9 S P N R Q g u) (hi : i < 5) (hen : rEn N P i c ε g u) (hj : j < c) (hF : F < 5) (hz : ∃ q, q < 120 ∧ z = nI (1000 + q)) : rl9 S P N R Q (erG g (ε j) F z) (erU u (5 * (6 * i + j)) F z) ∧ rEn N P i c ε (erG g (ε j) F z) (erU u (5 * (6 * i + j)) F z) ∧ pkS g (erG g (ε j) F z) := by
  obtain ⟨n1, n2, n3, n4, n5, n6, nf⟩ := hen.2.2.2.2.2.1 j hj
  refine rl_face h hi hen hj hF (fun f b k hn => ?_) (fun f => rfl) (fun f a => rfl) (fun c => rfl) (fun k y hn _ => ?_) ⟨n3, n6⟩ ?_
  · unfold erG
    rw [gI_pI, if_neg (by omega), gI_pI, if_neg (by omega)]
  · unfold erU
    simp only [mu_at]
    rw [if_neg (by omega), if_neg (by omega)]
  · have := (nf F hF).1
    refine ⟨this, Or.inr ⟨?_, ?_, Or.inl ⟨?_, ?_⟩⟩⟩
    · unfold erU
      simp only [mu_at]
      simpa using hz
    · unfold erG erU
      rw [gI_pI, if_neg (by omega), gI_pI, if_pos ⟨rfl, rfl, rfl⟩]
      simp [mu_at]
    · unfold erU
      simp [mu_at]
    · unfold erG
      rw [gI_pI, if_pos ⟨rfl, rfl, rfl⟩]
theorem c_Entry_putErrand {X : Nat × (Nat → Int32)} {kk a F : Nat} {g : sg} {z : Int32} {Z : sg → Prop} (hA : enA g a) (hF : F < 5) (h : Z (erG g a F z)) : nnMT X M_Entry_putErrand kk [qr 2 (some a), qi (nI F), qi z] g (zV Z) := by
  refine t_Entry_putErrand ?_
  rw [nI_clamp (show F < 2 ^ 31 by omega)]
  refine ⟨hA.2.2.1, (vpi (by omega)).mpr hF, fun g1 h1 => ⟨by rw [h1]; exact hA.2.2.2, fun g2 h2 => ?_⟩⟩
  rw [h2, h1]
  exact h
/-- an errand's nack -/
theorem nr_p {S P N R Q i j c F : Nat} {ε : Nat → Nat} {g : sg} {u : MS} (h : rl9 S P N R Q g u) (hi : i < 5) (hen : rEn N P i c ε g u) (hj : j < c) (hF : F < 5) (h99 : ¬ u 99 (5 * (6 * i + j) + F) = 0) : rl9 S P N R Q (pI g 134 (ε j) F 1) (mu u 99 (5 * (6 * i + j) + F) 2) ∧ rEn N P i c ε (pI g 134 (ε j) F 1) (mu u 99 (5 * (6 * i + j) + F) 2) ∧ pkS g (pI g 134 (ε j) F 1) := by
  obtain ⟨n1, n2, n3, n4, n5, n6, nf⟩ := hen.2.2.2.2.2.1 j hj
  refine rl_face h hi hen hj hF (fun f b k hn => ?_) (fun f => rfl) (fun f a => rfl) (fun c => rfl) (fun k y hn _ => ?_) ⟨n3, n6⟩ ?_
  · rw [gI_pI, if_neg (by omega)]
  · rw [mu_at, if_neg (by omega)]
  · obtain ⟨m1, m2⟩ := nf F hF
    refine ⟨m1, Or.inr ?_⟩
    rcases m2 with ⟨z1, -⟩ | ⟨z1, z2, z3⟩
    · exact absurd z1 h99
    · refine ⟨z1, z2, Or.inr ⟨?_, ?_⟩⟩
      · rw [mu_at, if_pos ⟨rfl, rfl⟩]
      · rw [gI_pI, if_pos ⟨rfl, rfl, rfl⟩]
theorem c_Entry_nackErrand {X : Nat × (Nat → Int32)} {kk a F : Nat} {g : sg} {Z : sg → Prop} (hA : enA g a) (hF : F < 5) (h : Z (pI g 134 a F 1)) : nnMT X M_Entry_nackErrand kk [qr 2 (some a), qi (nI F)] g (zV Z) := by
  refine t_Entry_nackErrand ?_
  rw [nI_clamp (show F < 2 ^ 31 by omega)]
  refine ⟨hA.2.2.2, (vpi (by omega)).mpr hF, fun g1 h1 => ?_⟩
  rw [h1]
  exact h
/-- what a node itself produces -/
def pdB (u : MS) (i nm fl n : Nat) : Bool := decide (u 89 n = nI (i + 1)) && anF u n nm fl
theorem c_Mod_producer {S P N R Q i nm fl : Nat} {g : sg} {u : MS} {Z : Int32 → MS → Prop} (h : rl9 S P N R Q g u) (hnm : nm < N) (hfl : fl < 4) (hZ : ((∀ n, n < N → pdB u i nm fl n = false) → Z (-1) u) ∧ ∀ n, n < N → pdB u i nm fl n = true → (∀ n', n' < n → pdB u i nm fl n' = false) → Z (nI n) u) : mMT M_Mod_producer [qr 1 (some 0), qi (nI i), qi (nI nm), qi (nI fl)] u (mI Z) := by
  have hrN := h.2.2.1
  have hN := hrN.2.1
  refine mt_Mod_producer ?_
  have key : ∀ j, j ≤ N → (∀ j', j' < j → pdB u i nm fl j' = false) → mWP M_Mod_producer 3 [qr 1 (some 0), qi (nI i), qi (nI nm), qi (nI fl), qi (nI j)] [] u (mI Z) := by
    refine dn N (fun hno => ?_) (fun j hj ih hno => ?_)
    · refine mb_Mod_producer_3 ⟨fun _ => hZ.1 hno, fun q => absurd ?_ q⟩
      rw [hrN.2.2.2.1]; exact nI_le (Nat.le_refl _) (by omega)
    · have hgo : pdB u i nm fl j = false → mWP M_Mod_producer 3 [qr 1 (some 0), qi (nI i), qi (nI nm), qi (nI fl), qi (nI (j + 1))] [] u (mI Z) := fun hn => ih fun j' hj' => by
        by_cases e : j' = j
        · rw [e]; exact hn
        · exact hno j' (by omega)
      refine mb_Mod_producer_3 ?_
      rw [hrN.2.2.2.1, nI_clamp (show j < 2 ^ 31 by omega), nI_1, nI_1]
      refine ⟨fun q => absurd q (nI_ge hj (by omega)), fun _ => ⟨(vpi (by omega)).mpr (by omega), fun q => hgo ?_, fun q => c_Mod_answers hrN.nm hN hj hnm hfl ?_⟩⟩
      · unfold pdB; simp [q]
      · cases han : anF u j nm fl with
        | false => exact ⟨fun _ => hgo (by unfold pdB; simp [han]), fun q => absurd rfl q⟩
        | true => exact ⟨fun q => absurd q (by decide), fun _ => hZ.2 j hj (by unfold pdB; simp [q, han]) hno⟩
  exact key 0 (Nat.zero_le _) (fun j' q => absurd q (Nat.not_lt_zero _))
theorem c_Net_producedFor {X : Nat × (Nat → Int32)} {kk S P N R Q i nm fl a : Nat} {g : sg} {u : MS} {Z : Option Nat → sg → Prop} (h : rl9 S P N R Q g u) (hi : i < 5) (hnm : nm < N) (hfl : fl < 4) (h128 : gI g 128 a 0 = nI nm) (h129 : gI g 129 a 0 = nI fl) (hZ : ((∀ n, n < N → pdB u i nm fl n = false) → Z none g) ∧ ∀ n p, n < N → pdB u i nm fl n = true → (∀ n', n' < n → pdB u i nm fl n' = false) → dtv N g p (nI n) (u 90 n) (u 91 n) → Z (some p) g) : nnMT X M_Net_producedFor kk [qr 0 (some 0), qr 6 (some i), qr 2 (some a)] g (zR 7 Z) := by
  have hrN := h.2.2.1
  have hN := hrN.2.1
  have hP := h.2.2.2.2.2.2.2.2.2.2
  have hA7 := h.1.2.1.2.2.2.1
  have hA8 := h.1.2.1.2.2.2.2.1
  refine t_Net_producedFor ?_
  have key : ∀ j, j ≤ 48 → (∀ j', j' < j → pdB u i nm fl j' = false) → nnWP X M_Net_producedFor kk 2 [qr 0 (some 0), qr 6 (some i), qr 2 (some a), qi (nI j)] [] g (zR 7 Z) := by
    refine dn 48 (fun hno => b_Net_producedFor_2 ⟨fun _ => hZ.1 (fun n hn => hno n (by omega)), fun q => absurd (by decide) q⟩) (fun j hj ih hno => ?_)
    have hgo : pdB u i nm fl j = false → nnWP X M_Net_producedFor kk 2 [qr 0 (some 0), qr 6 (some i), qr 2 (some a), qi (nI (j + 1))] [] g (zR 7 Z) := fun hn => ih fun j' hj' => by
      by_cases e : j' = j
      · rw [e]; exact hn
      · exact hno j' (by omega)
    refine b_Net_producedFor_2 ⟨fun q => ?_, fun _ => ?_⟩
    · rw [nl_48, nI_leI (by omega) (by omega)] at q; omega
    rw [nI_clamp (show j < 2 ^ 31 by omega), nI_1]
    refine ⟨hA7, (vpi (by omega)).mpr hj, ?_⟩
    rcases hP j hj with ⟨z1, z2⟩ | ⟨z0, i', p, z1, z2, z3, z4, z5⟩
    · rw [z2]
      refine ⟨fun _ => hgo ?_, fun a1 q => (by cases q)⟩
      unfold pdB
      rw [z1, show decide ((0 : Int32) = nI (i + 1)) = false by
        rw [nl_0]
        simp only [decide_eq_false_iff_not]
        rw [nI_eq (by omega) (by omega)]; omega]
      rfl
    · rw [z4]
      refine ⟨fun q => (by cases q), fun a1 q => ⟨hA8, i, rfl, ?_⟩⟩
      rw [z3, (h.1.1.2.2.2 i hi).2.2.2.2]
      refine ⟨fun q => hgo ?_, fun q => ⟨a, rfl, 0, h.1.1.1, ?_⟩⟩
      · rw [nI_eq (by omega) (by omega)] at q
        unfold pdB
        rw [z2, show decide (nI (i' + 1) = nI (i + 1)) = false by
          simp only [decide_eq_false_iff_not]
          rw [nI_eq (by omega) (by omega)]; omega]
        rfl
      · rw [nI_eq (by omega) (by omega)] at q
        rw [h128, h129]
        refine c_Names_answers hrN h.1 z0 hnm hfl fun _ => ?_
        have e89 : decide (u 89 j = nI (i + 1)) = true := by rw [z2, q]; simp
        cases han : anF u j nm fl with
        | false => exact ⟨fun _ => hgo (by unfold pdB; simp [han]), fun q => absurd rfl q⟩
        | true =>
          refine ⟨fun q => absurd q (by decide), fun _ => ?_⟩
          rw [z4]
          exact hZ.2 j p z0 (by unfold pdB; rw [e89, han]; rfl) hno z5
  exact key 0 (Nat.zero_le _) (fun j' q => absurd q (Nat.not_lt_zero _))
