def takeU (u : MS) (e w : Nat) : MS := fun f i => if f = 78 ∧ i < 5 then u 77 (40 * e + i) else if f = 76 ∧ i = e then nI w else if f = 77 ∧ 40 * e ≤ i ∧ i < 40 * e + 5 * w then u 77 (i + 5) else u f i
def tk1 (u : MS) (e j : Nat) : MS := fun f i => if f = 78 ∧ i < j then u 77 (40 * e + i) else u f i
def tk2 (u : MS) (e j : Nat) : MS := fun f i => if f = 77 ∧ 40 * e ≤ i ∧ i < 40 * e + j then u 77 (i + 5) else u f i
theorem tk1_s (u : MS) (e j : Nat) : mu (tk1 u e j) 78 j (tk1 u e j 77 (40 * e + j)) = tk1 u e (j + 1) := by
  funext f i
  rw [mu_at]
  unfold tk1
  by_cases h : f = 78 ∧ i = j
  · obtain ⟨rfl, rfl⟩ := h
    simp
  · rw [if_neg h]
    by_cases h2 : f = 78
    · subst h2
      have hij : ¬ i = j := fun z => h ⟨rfl, z⟩
      by_cases h3 : i < j
      · simp [h3, show i < j + 1 by omega]
      · simp [h3, show ¬ i < j + 1 by omega]
    · simp [h2]
theorem tk2_s (u : MS) (e j : Nat) : mu (tk2 u e j) 77 (40 * e + j) (tk2 u e j 77 (40 * e + j + 5)) = tk2 u e (j + 1) := by
  funext f i
  rw [mu_at]
  unfold tk2
  by_cases h : f = 77 ∧ i = 40 * e + j
  · obtain ⟨rfl, rfl⟩ := h
    rw [if_pos ⟨rfl, rfl⟩, if_neg (by omega), if_pos ⟨rfl, by omega, by omega⟩]
  · rw [if_neg h]
    by_cases h2 : f = 77
    · subst h2
      have hij : ¬ i = 40 * e + j := fun z => h ⟨rfl, z⟩
      by_cases h3 : 40 * e ≤ i ∧ i < 40 * e + j
      · rw [if_pos ⟨rfl, h3⟩, if_pos ⟨rfl, h3.1, by omega⟩]
      · rw [if_neg (fun z => h3 z.2), if_neg (fun z => h3 ⟨z.2.1, by omega⟩)]
    · rw [if_neg (fun z => h2 z.1), if_neg (fun z => h2 z.1)]
theorem c_Mod_take {u : MS} {e w : Nat} {Z : MS → Prop} (he : e < 20) (hw : w < 8) (h76 : u 76 e = nI (w + 1)) (h : Z (takeU u e w)) : mMT M_Mod_take [qr 1 (some 0), qi (nI e)] u (mV Z) := by
  have l1 : (nI e).toNatClampNeg = e := nI_clamp (by omega)
  have v1 : vp_in (nI e) 20 := (vpi (by omega)).mpr he
  have e40 : (40 : Int32) * nI e = nI (40 * e) := by rw [nl_40, pk_mul]
  refine mt_Mod_take ?_
  have k2 : ∀ j, j ≤ 5 * w → mWP M_Mod_take 45 [qr 1 (some 0), qi (nI e), qi (nI (40 * e + j))] [] (tk2 (mu (tk1 u e 5) 76 e (nI w)) e j) (mV Z) := by
    have r76 : ∀ j, tk2 (mu (tk1 u e 5) 76 e (nI w)) e j 76 e = nI w := fun j => by simp [tk2, mu_at]
    refine dn (5 * w) ?_ ?_
    · refine mb_Mod_take_45 ⟨v1, fun _ => ?_, fun c => absurd ?_ c⟩
      · have : tk2 (mu (tk1 u e 5) 76 e (nI w)) e (5 * w) = takeU u e w := by
          funext f i
          unfold tk2 takeU
          by_cases c1 : f = 77 ∧ 40 * e ≤ i ∧ i < 40 * e + 5 * w
          · rw [if_pos c1, if_neg (fun z => by omega), if_neg (fun z => by omega), if_pos c1]
            simp [mu_at, tk1]
          · rw [if_neg c1]
            by_cases c2 : f = 78 ∧ i < 5
            · rw [if_pos c2]
              simp [mu_at, tk1, c2]
            · rw [if_neg c2]
              by_cases c3 : f = 76 ∧ i = e
              · rw [if_pos c3]
                simp [mu_at, c3]
              · rw [if_neg c3, if_neg c1, mu_at, if_neg c3]
                unfold tk1
                rw [if_neg c2]
        rw [this]; exact h
      · rw [l1, r76, e40, nl_5, pk_mul, nI_add]
        exact nI_le (Nat.le_refl _) (by omega)
    · intro j hj ih
      refine mb_Mod_take_45 ⟨v1, fun c => ?_, fun _ => ?_⟩
      · rw [l1, r76, e40, nl_5, pk_mul, nI_add] at c
        exact absurd c (nI_ge (by omega) (by omega))
      · have e5 : nI (40 * e + j) + 5 = nI (40 * e + j + 5) := nI_add _ 5
        rw [e5, nI_clamp (show 40 * e + j + 5 < 2 ^ 31 by omega), nI_clamp (show 40 * e + j < 2 ^ 31 by omega), nI_1]
        refine ⟨(vpi (by omega)).mpr (by omega), (vpi (by omega)).mpr (by omega), fun u1 hu1 => ?_⟩
        rw [tk2_s] at hu1
        subst hu1
        exact ih
  have k1 : ∀ j, j ≤ 5 → mWP M_Mod_take 2 [qr 1 (some 0), qi (nI e), qi (nI j)] [] (tk1 u e j) (mV Z) := by
    refine dn 5 ?_ ?_
    · refine mb_Mod_take_2 ⟨fun _ => ⟨v1, fun u1 hu1 => ?_⟩, fun c => absurd (by decide) c⟩
      have r : tk1 u e 5 76 e = nI (w + 1) := by rw [← h76]; simp [tk1]
      rw [l1, r, nI_sub1] at hu1
      subst hu1
      have := k2 0 (Nat.zero_le _)
      have z : tk2 (mu (tk1 u e 5) 76 e (nI w)) e 0 = mu (tk1 u e 5) 76 e (nI w) := by
        funext f i
        unfold tk2
        rw [if_neg (by omega)]
      rw [z] at this
      rw [e40]
      exact this
    · intro j hj ih
      refine mb_Mod_take_2 ⟨fun c => ?_, fun _ => ?_⟩
      · rw [nl_5, nI_leI (by omega) (by omega)] at c
        omega
      · rw [e40, nI_add, nI_clamp (show 40 * e + j < 2 ^ 31 by omega), nI_clamp (show j < 2 ^ 31 by omega), nI_1]
        refine ⟨(vpi (by omega)).mpr (by omega), (vpi (by omega)).mpr (by omega), fun u1 hu1 => ?_⟩
        rw [tk1_s] at hu1
        subst hu1
        exact ih
  have := k1 0 (Nat.zero_le _)
  have z : tk1 u e 0 = u := by
    funext f i
    unfold tk1
    rw [if_neg (by omega)]
  rw [z] at this
  exact this
def dropG (g : sg) (e n j : Nat) : sg := (g.1, (fun f a i => if f = 196 ∧ a = e ∧ i = 0 then nI n else g.2.1 f a i), (fun f a i => if f = 195 ∧ a = e ∧ i < j then g.2.2.1 f a (i + 1) else g.2.2.1 f a i), g.2.2.2)
theorem dropG_s (g : sg) (e n j : Nat) : pR (dropG g e n j) 195 e j (gR (dropG g e n j) 195 e (j + 1)) = dropG g e n (j + 1) := by
  unfold pR dropG gR
  refine Prod.ext rfl (Prod.ext rfl (Prod.ext ?_ rfl))
  funext f a i
  dsimp only
  by_cases h : f = 195 ∧ a = e ∧ i = j
  · obtain ⟨rfl, rfl, rfl⟩ := h
    rw [if_pos ⟨rfl, rfl, rfl⟩, if_neg (by omega), if_pos ⟨rfl, rfl, by omega⟩]
  · rw [if_neg h]
    by_cases h2 : f = 195 ∧ a = e
    · have hij : ¬ i = j := fun z => h ⟨h2.1, h2.2, z⟩
      by_cases h3 : i < j
      · rw [if_pos ⟨h2.1, h2.2, h3⟩, if_pos ⟨h2.1, h2.2, by omega⟩]
      · rw [if_neg (fun z => h3 z.2.2), if_neg (fun z => h3 (by omega))]
    · rw [if_neg (fun z => h2 ⟨z.1, z.2.1⟩), if_neg (fun z => h2 ⟨z.1, z.2.1⟩)]
theorem c_Face_dropFirst {X : Nat × (Nat → Int32)} {kk e w : Nat} {g : sg} {Z : sg → Prop} (hw : w < 8) (hA : gA g 195 e = some 8) (h196 : gI g 196 e 0 = nI (w + 1)) (h : Z (dropG g e w w)) : nnMT X M_Face_dropFirst kk [qr 3 (some e)] g (zV Z) := by
  refine t_Face_dropFirst ⟨fun c => ?_, fun _ g1 hg1 => ?_⟩
  · rw [h196, nI_le0 (by omega)] at c
    omega
  · rw [h196, nI_sub1] at hg1
    have key : ∀ j, j ≤ w → nnWP X M_Face_dropFirst kk 19 [qr 3 (some e), qi (nI j)] [] (dropG g e w j) (zV Z) := by
      have r196 : ∀ j, gI (dropG g e w j) 196 e 0 = nI w := fun j => if_pos ⟨rfl, rfl, rfl⟩
      refine dn w ?_ ?_
      · refine b_Face_dropFirst_19 ⟨fun _ => h, fun c => absurd ?_ c⟩
        rw [r196]; exact nI_le (Nat.le_refl _) (by omega)
      · intro j hj ih
        refine b_Face_dropFirst_19 ⟨fun c => ?_, fun _ => ?_⟩
        · rw [r196] at c
          exact absurd c (nI_ge hj (by omega))
        · rw [nI_1, nI_clamp (show j + 1 < 2 ^ 31 by omega), nI_clamp (show j < 2 ^ 31 by omega)]
          refine ⟨hA, (vpi (by omega)).mpr (by omega), (vpi (by omega)).mpr (by omega), fun g2 hg2 => ?_⟩
          rw [dropG_s] at hg2
          subst hg2
          exact ih
    have z : dropG g e w 0 = g1 := by
      rw [hg1]
      unfold dropG pI
      refine Prod.ext rfl (Prod.ext rfl (Prod.ext ?_ rfl))
      funext f a i
      dsimp only
      rw [if_neg (by omega)]
    have := key 0 (Nat.zero_le _)
    rw [z] at this
    exact this
theorem rl_take {S P N R Q e w : Nat} {g : sg} {u : MS} (h : rl9 S P N R Q g u) (he : e < 20) (hw : w < 8) (h76 : u 76 e = nI (w + 1)) : rl9 S P N R Q (dropG g e w w) (takeU u e w) := by
  obtain ⟨hsh, hT, hN, hW, h'⟩ := h
  have hR : ∀ i f, i < 5 → f < 4 → gR (dropG g e w w) 385 i f = some (4 * i + f) := hsh.1.2.2.1
  refine ⟨hsh, hT, hN, ?_, h'⟩
  intro e' he'
  obtain ⟨b0, b1, b2', w', b3, b4, b5, b6, b7⟩ := hW e' he'
  by_cases q : e' = e
  · subst q
    have hww : w' = w + 1 := by
      rw [h76, nI_eq (by omega) (by omega)] at b5
      omega
    subst hww
    refine ⟨b0, b1, b2', w, by omega, if_pos ⟨rfl, rfl, rfl⟩, ?_, fun _ => b6 (by omega), ?_⟩
    · simp [takeU]
    · intro j hj
      obtain ⟨p, p1, p2⟩ := b7 (j + 1) (by omega)
      refine ⟨p, ?_, ?_⟩
      · show (if (195 : Nat) = 195 ∧ e' = e' ∧ j < w then gR g 195 e' (j + 1) else gR g 195 e' j) = some p
        rw [if_pos ⟨rfl, rfl, hj⟩]
        exact p1
      · have r0 : ∀ t, t < 5 → takeU u e' w 77 (40 * e' + 5 * j + t) = u 77 (40 * e' + 5 * (j + 1) + t) := by
          intro t ht
          unfold takeU
          rw [if_neg (by omega), if_neg (by omega), if_pos ⟨rfl, by omega, by omega⟩]
          congr 1; omega
        have r := r0 0 (by omega)
        rw [show 40 * e' + 5 * j + 0 = 40 * e' + 5 * j from rfl, show 40 * e' + 5 * (j + 1) + 0 = 40 * e' + 5 * (j + 1) from rfl] at r
        rw [r, r0 1 (by omega), r0 2 (by omega), r0 3 (by omega), r0 4 (by omega)]
        exact p2
  · refine ⟨b0, b1, b2', w', b3, ?_, ?_, b6, ?_⟩
    · rw [← b4]
      show (if (196 : Nat) = 196 ∧ e' = e ∧ 0 = 0 then nI w else gI g 196 e' 0) = _
      rw [if_neg (fun z => q z.2.1)]
    · rw [← b5]
      unfold takeU
      rw [if_neg (by omega), if_neg (fun z => q z.2), if_neg (by omega)]
    · intro j hj
      obtain ⟨p, p1, p2⟩ := b7 j hj
      refine ⟨p, ?_, ?_⟩
      · show (if (195 : Nat) = 195 ∧ e' = e ∧ j < w then gR g 195 e' (j + 1) else gR g 195 e' j) = some p
        rw [if_neg (fun z => q z.2.1)]
        exact p1
      · have r0 : ∀ t, t < 5 → takeU u e w 77 (40 * e' + 5 * j + t) = u 77 (40 * e' + 5 * j + t) := by
          intro t ht
          unfold takeU
          rw [if_neg (by omega), if_neg (by omega), if_neg (by omega)]
        have r := r0 0 (by omega)
        rw [show 40 * e' + 5 * j + 0 = 40 * e' + 5 * j from rfl] at r
        rw [r, r0 1 (by omega), r0 2 (by omega), r0 3 (by omega), r0 4 (by omega)]
        exact p2
