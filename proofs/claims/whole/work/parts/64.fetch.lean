/-! a fetch begun -/
theorem fdN_congr {m m' : Nat → Bool} : ∀ n, (∀ k, k < n → m k = m' k) → fdN m n = fdN m' n
  | 0, _ => rfl
  | n + 1, h => by
    show (match fdN m n with
      | some k => some k
      | none => if m n = true then some n else none) = (match fdN m' n with
      | some k => some k
      | none => if m' n = true then some n else none)
    rw [fdN_congr n (fun k hk => h k (by omega)), h n (by omega)]
theorem mC_mk {u : MS} {N n : Nat} {p a b c d p' x y z : Int32} (hn : n < N) : mC (mkU u N p a b c d) p' x y z n = mC u p' x y z n := by
  unfold mC
  rw [mkU_lo (by omega), mkU_lo (by omega), mkU_lo (by omega), mkU_lo (by omega)]
theorem fd_mk {u : MS} {N : Nat} {p a b c d p' x y z : Int32} (hx : ¬ a = x) : fdN (mC (mkU u N p a b c d) p' x y z) (N + 1) = fdN (mC u p' x y z) N := by
  have e : fdN (mC (mkU u N p a b c d) p' x y z) N = fdN (mC u p' x y z) N := fdN_congr N fun k hk => mC_mk hk
  have no : ¬ mC (mkU u N p a b c d) p' x y z N = true := by
    intro q
    have := (mC_i.mp q).2.2.1
    apply hx
    rw [← this]
    unfold mkU
    simp [mu_at]
  cases hf : fdN (mC u p' x y z) N with
  | none => exact fdN_f (e.trans hf) no
  | some k => exact fdN_up (e.trans hf) 1
def msF (u : MS) (N n : Nat) : Nat → Nat → Nat
  | _, 0 => 0
  | j, d + 1 => (if fdN (mC u (nI n) (nI (48 + j)) (nI 32) (nI 32)) N = none then 1 else 0) + msF u N n (j + 1) d
theorem msF_mk {u : MS} {N n j0 : Nat} {dd : Int32} : ∀ d j, j0 < j → j + d ≤ 10 → msF (mkU u N (nI n) (nI (48 + j0)) (nI 32) (nI 32) dd) (N + 1) n j d = msF u N n j d
  | 0, _, _, _ => rfl
  | d + 1, j, h1, h2 => by
    show (if fdN (mC (mkU u N (nI n) (nI (48 + j0)) (nI 32) (nI 32) dd) (nI n) (nI (48 + j)) (nI 32) (nI 32)) (N + 1) = none then 1 else 0) + msF (mkU u N (nI n) (nI (48 + j0)) (nI 32) (nI 32) dd) (N + 1) n (j + 1) d = (if fdN (mC u (nI n) (nI (48 + j)) (nI 32) (nI 32)) N = none then 1 else 0) + msF u N n (j + 1) d
    rw [msF_mk d (j + 1) (by omega) (by omega), fd_mk (fun q => by rw [nI_eq (by omega) (by omega)] at q; omega)]
theorem okT_s {j : Nat} (hj : j < 10) : okT (48 + j) 32 32 := ⟨Or.inr ⟨by omega, by omega⟩, Or.inl ⟨rfl, rfl⟩⟩
theorem rg1 {x : Int32} {n : Nat} (hn : n < 2 ^ 31) (h1 : ¬ x < 1) (h2 : ¬ nI n < x) : ∃ k, 1 ≤ k ∧ k ≤ n ∧ x = nI k := by
  rw [Int32.lt_iff_toInt_lt] at h1 h2
  rw [nI_toInt hn] at h2
  have e1 : (1 : Int32).toInt = 1 := rfl
  rw [e1] at h1
  obtain ⟨j, hj, rfl⟩ := nI_of (x := x) (by rw [Int32.lt_iff_toInt_lt]; have : (0 : Int32).toInt = 0 := rfl; omega)
  rw [nI_toInt hj] at h1 h2
  exact ⟨j, by omega, by omega, rfl⟩
theorem mk_109 {u : MS} {N i : Nat} {p a b c d x : Int32} : mkU (mu u 109 i x) N p a b c d = mu (mkU u N p a b c d) 109 i x := by
  funext f y
  by_cases h : f = 109 ∧ y = i
  · obtain ⟨rfl, rfl⟩ := h
    rw [mkU_lo (by omega), mu_at, mu_at, if_pos ⟨rfl, rfl⟩, if_pos ⟨rfl, rfl⟩]
  · rw [mu_at, if_neg h]
    unfold mkU
    simp only [mu_at, if_neg h]
theorem mk_256 {g : sg} {N i : Nat} {p k d x : Int32} : mkG (pI g 256 i 0 x) N p k d = pI (mkG g N p k d) 256 i 0 x := by
  refine Prod.ext rfl (Prod.ext ?_ rfl)
  funext f a y
  show gI (mkG (pI g 256 i 0 x) N p k d) f a y = gI (pI (mkG g N p k d) 256 i 0 x) f a y
  by_cases h : f = 256 ∧ a = i ∧ y = 0
  · obtain ⟨rfl, rfl, rfl⟩ := h
    rw [mkG_lo (by omega), gI_pI, gI_pI, if_pos ⟨rfl, rfl, rfl⟩, if_pos ⟨rfl, rfl, rfl⟩]
  · rw [gI_pI, if_neg h]
    unfold mkG
    simp only [gI_pI, if_neg h]
/-- the fetch of node i stands with its first j segments -/
def feJ (S P N R Q i k j : Nat) (g : sg) (u : MS) : Prop := rl9 S P N R Q (pI g 256 i 0 (nI j)) (mu u 109 i (nI j)) ∧ gI g 256 i 0 = nI k ∧ u 109 i = nI k ∧ ∀ j', j' < 10 → gI g 260 i j' = 0 ∧ gI g 261 i j' = 0
theorem feJ_mk {S P N R Q i k j p a b c d : Nat} {g : sg} {u : MS} (h : feJ S P N R Q i k j g u) (hN48 : N < 48) (hp : p < N) (h72 : u 72 p = nI d) (hd : d < 4) (ho : okT a b c) : feJ S P (N + 1) R Q i k j (mkG g N (nI p) (nI (pk3 a b c)) (nI (d + 1))) (mkU u N (nI p) (nI a) (nI b) (nI c) (nI (d + 1))) := by
  obtain ⟨h1, h2, h3, h4⟩ := h
  refine ⟨?_, by rw [mkG_lo (by omega)]; exact h2, by rw [mkU_lo (by omega)]; exact h3, fun j' hj' => by rw [mkG_lo (by omega), mkG_lo (by omega)]; exact h4 j' hj'⟩
  have := rl_mk h1 hN48 hp h72 hd ho
  rw [mk_109, mk_256] at this
  exact this
theorem feJ_s {S P N R Q i k j n : Nat} {g : sg} {u : MS} (h : feJ S P N R Q i k j g u) (hi : i < 5) (hj : j < 10) (hn : n < N) : feJ S P N R Q i k (j + 1) (pI g 259 i j (nI n)) (mu (mu (mu u 112 (10 * i + j) (nI n)) 113 (10 * i + j) 0) 114 (10 * i + j) 0) := by
  obtain ⟨h1, h2, h3, h4⟩ := h
  refine ⟨?_, by rw [gI_pI, if_neg (by omega)]; exact h2, by rw [mu_at, if_neg (by omega), mu_at, if_neg (by omega), mu_at, if_neg (by omega)]; exact h3, fun j' hj' => by rw [gI_pI, if_neg (by omega), gI_pI, if_neg (by omega)]; exact h4 j' hj'⟩
  obtain ⟨hsh, hT, hN, hW, hG, hRR, hS, hE, hQ, hF, hP⟩ := h1
  refine ⟨hsh, hT, hN, hW, hG, hRR, hS, hE, hQ, fun i' hi' => ?_, hP⟩
  obtain ⟨c, w, f1, f2, f3, f4, f5, f6, f7, f8, f9⟩ := hF i' hi'
  by_cases e : i' = i
  · subst e
    have hc : c = j := by
      rw [mu_at, if_pos ⟨rfl, rfl⟩, nI_eq (by omega) (by omega)] at f4
      exact f4.symm
    subst hc
    refine ⟨c + 1, w, by omega, f2, ?_, ?_, f5, f6, f7, f8, fun j' hj' => ?_⟩
    · rw [gI_pI, if_pos ⟨rfl, rfl, rfl⟩]
    · rw [mu_at, if_pos ⟨rfl, rfl⟩]
    · by_cases ej : j' = c
      · subst ej
        have y1 : gI (pI (pI g 259 i' j' (nI n)) 256 i' 0 (nI (j' + 1))) 259 i' j' = nI n := by rw [gI_pI, if_neg (by omega), gI_pI, if_pos ⟨rfl, rfl, rfl⟩]
        have y2 : gI (pI (pI g 259 i' j' (nI n)) 256 i' 0 (nI (j' + 1))) 260 i' j' = 0 := by rw [gI_pI, if_neg (by omega), gI_pI, if_neg (by omega)]; exact (h4 j' hj).1
        have y3 : gI (pI (pI g 259 i' j' (nI n)) 256 i' 0 (nI (j' + 1))) 261 i' j' = 0 := by rw [gI_pI, if_neg (by omega), gI_pI, if_neg (by omega)]; exact (h4 j' hj).2
        have x1 : mu (mu (mu (mu u 112 (10 * i' + j') (nI n)) 113 (10 * i' + j') 0) 114 (10 * i' + j') 0) 109 i' (nI (j' + 1)) 112 (10 * i' + j') = nI n := by rw [mu_at, if_neg (by omega), mu_at, if_neg (by omega), mu_at, if_neg (by omega), mu_at, if_pos ⟨rfl, rfl⟩]
        have x2 : mu (mu (mu (mu u 112 (10 * i' + j') (nI n)) 113 (10 * i' + j') 0) 114 (10 * i' + j') 0) 109 i' (nI (j' + 1)) 113 (10 * i' + j') = 0 := by rw [mu_at, if_neg (by omega), mu_at, if_neg (by omega), mu_at, if_pos ⟨rfl, rfl⟩]
        have x3 : mu (mu (mu (mu u 112 (10 * i' + j') (nI n)) 113 (10 * i' + j') 0) 114 (10 * i' + j') 0) 109 i' (nI (j' + 1)) 114 (10 * i' + j') = 0 := by rw [mu_at, if_neg (by omega), mu_at, if_pos ⟨rfl, rfl⟩]
        rw [y1, y2, y3, x1, x2, x3]
        exact ⟨rfl, ⟨n, hn, rfl⟩, rfl, 0, by omega, rfl, rfl, Or.inl ⟨rfl, fun _ => by omega⟩⟩
      · have y : ∀ f, f ≠ 256 → gI (pI (pI g 259 i' c (nI n)) 256 i' 0 (nI (c + 1))) f i' j' = gI (pI g 256 i' 0 (nI c)) f i' j' := by
          intro f hf
          rw [gI_pI, if_neg (by omega), gI_pI, if_neg (by omega), gI_pI, if_neg (by omega)]
        have x : ∀ f, 112 ≤ f → mu (mu (mu (mu u 112 (10 * i' + c) (nI n)) 113 (10 * i' + c) 0) 114 (10 * i' + c) 0) 109 i' (nI (c + 1)) f (10 * i' + j') = mu u 109 i' (nI c) f (10 * i' + j') := by
          intro f hf
          rw [mu_at, if_neg (by omega), mu_at, if_neg (by omega), mu_at, if_neg (by omega), mu_at, if_neg (by omega), mu_at, if_neg (by omega)]
        rw [y 259 (by omega), y 260 (by omega), y 261 (by omega), x 112 (by omega), x 113 (by omega), x 114 (by omega), x 115 (by omega)]
        exact f9 j' (by omega)
  · have y0 : gI (pI (pI g 259 i j (nI n)) 256 i 0 (nI (j + 1))) 256 i' 0 = gI (pI g 256 i 0 (nI j)) 256 i' 0 := by
      rw [gI_pI, if_neg (fun z => e z.2.1), gI_pI, if_neg (by omega), gI_pI, if_neg (fun z => e z.2.1)]
    have x0 : mu (mu (mu (mu u 112 (10 * i + j) (nI n)) 113 (10 * i + j) 0) 114 (10 * i + j) 0) 109 i (nI (j + 1)) 109 i' = mu u 109 i (nI j) 109 i' := by
      rw [mu_at, if_neg (fun z => e z.2), mu_at, if_neg (by omega), mu_at, if_neg (by omega), mu_at, if_neg (by omega), mu_at, if_neg (fun z => e z.2)]
    refine ⟨c, w, f1, f2, y0.trans f3, x0.trans f4, f5, f6, f7, f8, fun j' hj' => ?_⟩
    have y : ∀ f, f ≠ 256 → gI (pI (pI g 259 i j (nI n)) 256 i 0 (nI (j + 1))) f i' j' = gI (pI g 256 i 0 (nI j)) f i' j' := by
      intro f hf
      rw [gI_pI, if_neg (by omega), gI_pI, if_neg (by omega), gI_pI, if_neg (by omega)]
    have x : ∀ f, 112 ≤ f → mu (mu (mu (mu u 112 (10 * i + j) (nI n)) 113 (10 * i + j) 0) 114 (10 * i + j) 0) 109 i (nI (j + 1)) f (10 * i' + j') = mu u 109 i (nI j) f (10 * i' + j') := by
      intro f hf
      rw [mu_at, if_neg (by omega), mu_at, if_neg (by omega), mu_at, if_neg (by omega), mu_at, if_neg (by omega), mu_at, if_neg (by omega)]
    rw [y 259 (by omega), y 260 (by omega), y 261 (by omega), x 112 (by omega), x 113 (by omega), x 114 (by omega), x 115 (by omega)]
    exact f9 j' hj'
theorem pI_id {g : sg} {f a k : Nat} {x : Int32} (h : gI g f a k = x) : pI g f a k x = g := by
  refine Prod.ext rfl (Prod.ext ?_ rfl)
  funext f' a' k'
  show gI (pI g f a k x) f' a' k' = gI g f' a' k'
  rw [gI_pI]
  split
  · rename_i c
    rw [c.1, c.2.1, c.2.2, h]
  · rfl
theorem fetch_loop {i n k dd : Nat} (hi : i < 5) (hk : k ≤ 10) (hdd : dd < 4) : ∀ d j, j + d = k → ∀ (u : MS) (N : Nat), 1 ≤ N → N ≤ 48 → u 70 0 = nI N → n < N → u 72 n = nI dd → N + msF u N n j d ≤ 48 →
    ∃ v, (∀ Z : Int32 → MS → Prop, Z 1 v → mWP M_Mod_fetch 136 [qr 1 (some 0), qi (nI i), qi (nI n), qi (nI k), none, none, qi (nI j)] [] u (mI Z)) ∧
      ∀ S P R Q g, feJ S P N R Q i k j g u → ∀ (X : Nat × (Nat → Int32)) (kk : Nat) (Z : Int32 → sg → Prop), (∀ g', RL g' v → Z 1 g') → nnWP X M_Net_fetch kk 129 [qr 0 (some 0), none, qi (nI n), qi (nI k), none, none, qr 4 (some i), qi (nI j)] [] g (zI Z) := by
  intro d
  induction d with
  | zero =>
    intro j hj u N _ _ _ _ _ _
    obtain rfl : j = k := by omega
    refine ⟨u, fun Z hZ => mb_Mod_fetch_136 ⟨fun _ => hZ, fun q => absurd (nI_le (Nat.le_refl _) (by omega)) q⟩, fun S P R Q g h X kk Z hZ => b_Net_fetch_129 ⟨fun _ => hZ g ⟨S, P, N, R, Q, ?_⟩, fun q => absurd (nI_le (Nat.le_refl _) (by omega)) q⟩⟩
    have := h.1
    rw [pI_id h.2.1, mu_id h.2.2.1] at this
    exact this
  | succ d ih =>
    intro j hj u N h1 hN h70 hn h72 hms
    have hms' : N + ((if fdN (mC u (nI n) (nI (48 + j)) (nI 32) (nI 32)) N = none then 1 else 0) + msF u N n (j + 1) d) ≤ 48 := hms
    have nle : ¬ nI k ≤ nI j := nI_ge (by omega) (by omega)
    have e48 : (48 : Int32) + nI j = nI (48 + j) := nI_add 48 j
    have ech : ((48 + nI j).toUInt32 % 65536).toInt32 = nI (48 + j) := by rw [e48]; exact ch_nI _ (by omega)
    have e10 : (10 : Int32) * nI i + nI j = nI (10 * i + j) := by rw [nl_10, pk_mul, nI_add]
    have ho : okT (48 + j) 32 32 := okT_s (by omega)
    have ep : pk3 (48 + j) 32 32 = 48 + j := rfl
    have hmd : ∀ Z : Int32 → MS → Prop, ((∀ m, fdN (mC u (nI n) (nI (48 + j)) (nI 32) (nI 32)) N = some m → mWP M_Mod_fetch 136 [qr 1 (some 0), qi (nI i), qi (nI n), qi (nI k), none, none, qi (nI (j + 1))] [] (mu (mu (mu u 112 (10 * i + j) (nI m)) 113 (10 * i + j) 0) 114 (10 * i + j) 0) (mI Z)) ∧ (fdN (mC u (nI n) (nI (48 + j)) (nI 32) (nI 32)) N = none → N < 48 ∧ mWP M_Mod_fetch 136 [qr 1 (some 0), qi (nI i), qi (nI n), qi (nI k), none, none, qi (nI (j + 1))] [] (mu (mu (mu (mkU u N (nI n) (nI (48 + j)) (nI 32) (nI 32) (nI (dd + 1))) 112 (10 * i + j) (nI N)) 113 (10 * i + j) 0) 114 (10 * i + j) 0) (mI Z))) → mWP M_Mod_fetch 136 [qr 1 (some 0), qi (nI i), qi (nI n), qi (nI k), none, none, qi (nI j)] [] u (mI Z) := by
      intro Z hZ
      refine mb_Mod_fetch_136 ⟨fun q => absurd q nle, fun _ => ?_⟩
      rw [ech, e10, nI_1, nI_clamp (show 10 * i + j < 2 ^ 31 by omega)]
      refine c_Mod_made h1 hN h70 hn h72 ho ⟨fun m hm => ⟨(vpi (by omega)).mpr (by omega), fun u2 y2 u3 y3 u4 y4 => ?_⟩, fun hf => ⟨(hZ.2 hf).1, (vpi (by omega)).mpr (by omega), fun u2 y2 u3 y3 u4 y4 => ?_⟩⟩
      · subst y4 y3 y2
        exact hZ.1 m hm
      · subst y4 y3 y2
        exact (hZ.2 hf).2
    have hcl : ∀ (S P R Q : Nat) (g : sg), feJ S P N R Q i k j g u → ∀ (X : Nat × (Nat → Int32)) (kk : Nat) (Z : Int32 → sg → Prop), ((∀ m, fdN (mC u (nI n) (nI (48 + j)) (nI 32) (nI 32)) N = some m → nnWP X M_Net_fetch kk 129 [qr 0 (some 0), none, qi (nI n), qi (nI k), none, none, qr 4 (some i), qi (nI (j + 1))] [] (pI g 259 i j (nI m)) (zI Z)) ∧ (fdN (mC u (nI n) (nI (48 + j)) (nI 32) (nI 32)) N = none → N < 48 ∧ nnWP X M_Net_fetch kk 129 [qr 0 (some 0), none, qi (nI n), qi (nI k), none, none, qr 4 (some i), qi (nI (j + 1))] [] (pI (mkG g N (nI n) (nI (48 + j)) (nI (dd + 1))) 259 i j (nI N)) (zI Z))) → nnWP X M_Net_fetch kk 129 [qr 0 (some 0), none, qi (nI n), qi (nI k), none, none, qr 4 (some i), qi (nI j)] [] g (zI Z) := by
      intro S P R Q g hJ X kk Z hZ
      have hsh : shC S P g := hJ.1.1
      have hrN : rN N g u := hJ.1.2.2.1
      refine b_Net_fetch_129 ⟨fun q => absurd q nle, fun _ => ⟨i, rfl, (hsh.2.2.1 i hi).2.2.2.2.2.1, t_Net_segmentComponent fun _ => ⟨0, hsh.1.1, ?_⟩⟩⟩
      rw [e48, nI_1, nI_clamp (show j < 2 ^ 31 by omega)]
      refine c_Names_findOrMake (b := 32) (c := 32) hsh hrN hn h72 ho ⟨fun m hm _ => ⟨(vpi (by omega)).mpr (by omega), fun g3 y3 => ?_⟩, fun hf => ⟨(hZ.2 hf).1, fun _ => ⟨(vpi (by omega)).mpr (by omega), fun g3 y3 => ?_⟩⟩⟩
      · subst y3
        exact hZ.1 m hm
      · subst y3
        exact (hZ.2 hf).2
    cases hf : fdN (mC u (nI n) (nI (48 + j)) (nI 32) (nI 32)) N with
    | some m =>
      have hm := (fdN_lt _ _ hf).1
      obtain ⟨v, w1, w2⟩ := ih (j + 1) (by omega) (mu (mu (mu u 112 (10 * i + j) (nI m)) 113 (10 * i + j) 0) 114 (10 * i + j) 0) N h1 hN h70 hn h72 (by
        have : ∀ d' j', msF (mu (mu (mu u 112 (10 * i + j) (nI m)) 113 (10 * i + j) 0) 114 (10 * i + j) 0) N n j' d' = msF u N n j' d' := by
          intro d'
          induction d' with
          | zero => intro j'; rfl
          | succ d' ihd =>
            intro j'
            show (if fdN (mC u (nI n) (nI (48 + j')) (nI 32) (nI 32)) N = none then 1 else 0) + msF (mu (mu (mu u 112 (10 * i + j) (nI m)) 113 (10 * i + j) 0) 114 (10 * i + j) 0) N n (j' + 1) d' = _
            rw [ihd]
            rfl
        rw [this]
        omega)
      refine ⟨v, fun Z hZ => hmd Z ⟨fun m' hm' => ?_, fun q => ?_⟩, fun S P R Q g hJ X kk Z hZ => hcl S P R Q g hJ X kk Z ⟨fun m' hm' => ?_, fun q => ?_⟩⟩
      · rw [hf] at hm'; cases hm'
        exact w1 Z hZ
      · rw [hf] at q; cases q
      · rw [hf] at hm'; cases hm'
        exact w2 S P R Q _ (feJ_s hJ hi (by omega) hm) X kk Z hZ
      · rw [hf] at q; cases q
    | none =>
      rw [if_pos hf] at hms'
      obtain ⟨v, w1, w2⟩ := ih (j + 1) (by omega) (mu (mu (mu (mkU u N (nI n) (nI (48 + j)) (nI 32) (nI 32) (nI (dd + 1))) 112 (10 * i + j) (nI N)) 113 (10 * i + j) 0) 114 (10 * i + j) 0) (N + 1) (by omega) (by omega) (by unfold mkU; simp [mu_at]) (by omega) (by
          rw [mu_at, if_neg (by omega), mu_at, if_neg (by omega), mu_at, if_neg (by omega), mkU_lo (by omega)]; exact h72) (by
        have : ∀ d' j', msF (mu (mu (mu (mkU u N (nI n) (nI (48 + j)) (nI 32) (nI 32) (nI (dd + 1))) 112 (10 * i + j) (nI N)) 113 (10 * i + j) 0) 114 (10 * i + j) 0) (N + 1) n j' d' = msF (mkU u N (nI n) (nI (48 + j)) (nI 32) (nI 32) (nI (dd + 1))) (N + 1) n j' d' := by
          intro d'
          induction d' with
          | zero => intro j'; rfl
          | succ d' ihd =>
            intro j'
            show (if fdN (mC (mkU u N (nI n) (nI (48 + j)) (nI 32) (nI 32) (nI (dd + 1))) (nI n) (nI (48 + j')) (nI 32) (nI 32)) (N + 1) = none then 1 else 0) + msF (mu (mu (mu (mkU u N (nI n) (nI (48 + j)) (nI 32) (nI 32) (nI (dd + 1))) 112 (10 * i + j) (nI N)) 113 (10 * i + j) 0) 114 (10 * i + j) 0) (N + 1) n (j' + 1) d' = _
            rw [ihd]
            rfl
        rw [this, msF_mk d (j + 1) (by omega) (by omega)]
        omega)
      refine ⟨v, fun Z hZ => hmd Z ⟨fun m' hm' => ?_, fun _ => ⟨by omega, w1 Z hZ⟩⟩, fun S P R Q g hJ X kk Z hZ => hcl S P R Q g hJ X kk Z ⟨fun m' hm' => ?_, fun _ => ⟨by omega, w2 S P R Q _ (feJ_s (feJ_mk hJ (by omega) hn h72 hdd ho) hi (by omega) (by omega)) X kk Z hZ⟩⟩⟩
      · rw [hf] at hm'; cases hm'
      · rw [hf] at hm'; cases hm'
