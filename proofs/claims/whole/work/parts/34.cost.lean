/-! the least of the costs that there are; 0 stands for none, and a cost c for c + 1 -/
def mst (b c : Nat) : Nat := if 0 < c ∧ (b = 0 ∨ c < b) then c else b
def mf (v : Nat → Nat) : Nat → Nat
  | 0 => 0
  | n + 1 => mst (mf v n) (v n)
theorem mf_spec (v : Nat → Nat) : ∀ n, (mf v n = 0 ∧ ∀ r, r < n → v r = 0) ∨ (0 < mf v n ∧ (∃ r, r < n ∧ v r = mf v n) ∧ ∀ r, r < n → 0 < v r → mf v n ≤ v r)
  | 0 => Or.inl ⟨rfl, fun r h => absurd h (Nat.not_lt_zero _)⟩
  | n + 1 => by
    have e : mf v (n + 1) = if 0 < v n ∧ (mf v n = 0 ∨ v n < mf v n) then v n else mf v n := rfl
    rcases mf_spec v n with ⟨h1, h2⟩ | ⟨h1, ⟨r, h2, h3⟩, h4⟩
    · by_cases hv : 0 < v n
      · right
        rw [e, if_pos ⟨hv, Or.inl h1⟩]
        refine ⟨hv, ⟨n, by omega, rfl⟩, fun r hr hp => ?_⟩
        by_cases hrn : r = n
        · rw [hrn]; omega
        · have := h2 r (by omega); omega
      · left
        rw [e, if_neg (fun z => hv z.1)]
        refine ⟨h1, fun r hr => ?_⟩
        by_cases hrn : r = n
        · rw [hrn]; omega
        · exact h2 r (by omega)
    · right
      by_cases hc : 0 < v n ∧ (mf v n = 0 ∨ v n < mf v n)
      · rw [e, if_pos hc]
        refine ⟨hc.1, ⟨n, by omega, rfl⟩, fun r hr hp => ?_⟩
        by_cases hrn : r = n
        · rw [hrn]; omega
        · have := h4 r (by omega) hp
          rcases hc.2 with z | z <;> omega
      · rw [e, if_neg hc]
        refine ⟨h1, ⟨r, by omega, h3⟩, fun r' hr hp => ?_⟩
        by_cases hrn : r' = n
        · rw [hrn] at hp ⊢
          rcases Nat.lt_or_ge (v n) (mf v n) with z | z
          · exact absurd ⟨hp, Or.inr z⟩ hc
          · exact z
        · exact h4 r' (by omega) hp
theorem mf_eq {v w : Nat → Nat} {n m : Nat} (h1 : ∀ r, r < n → 0 < v r → ∃ j, j < m ∧ w j = v r) (h2 : ∀ j, j < m → 0 < w j → ∃ r, r < n ∧ v r = w j) : mf v n = mf w m := by
  rcases mf_spec v n with ⟨a1, a2⟩ | ⟨a1, ⟨r, a2, a3⟩, a4⟩ <;> rcases mf_spec w m with ⟨b1, b2⟩ | ⟨b1, ⟨j, b2, b3⟩, b4⟩
  · rw [a1, b1]
  · obtain ⟨r, hr, e⟩ := h2 j b2 (by omega)
    have := a2 r hr
    omega
  · obtain ⟨j, hj, e⟩ := h1 r a2 (by omega)
    have := b2 j hj
    omega
  · obtain ⟨j', hj', e⟩ := h1 r a2 (by omega)
    have := b4 j' hj' (by omega)
    obtain ⟨r', hr', e'⟩ := h2 j b2 (by omega)
    have := a4 r' hr' (by omega)
    omega
theorem mf_le {v : Nat → Nat} {n B : Nat} (h : ∀ r, r < n → v r ≤ B) : mf v n ≤ B := by
  rcases mf_spec v n with ⟨a1, -⟩ | ⟨-, ⟨r, a2, a3⟩, -⟩
  · omega
  · rw [← a3]; exact h r a2
theorem mf_congr {v w : Nat → Nat} {n : Nat} (h : ∀ r, r < n → v r = w r) : mf v n = mf w n := by
  induction n with
  | zero => rfl
  | succ n ih =>
    show mst (mf v n) (v n) = mst (mf w n) (w n)
    rw [ih (fun r hr => h r (by omega)), h n (by omega)]
theorem cm1 {c : Nat} (h : c < 2 ^ 31) : nI c - 1 = -1 ↔ c = 0 := by
  constructor
  · intro e
    rcases Nat.eq_zero_or_pos c with z | z
    · exact z
    · obtain ⟨d, rfl⟩ : ∃ d, c = d + 1 := ⟨c - 1, by omega⟩
      rw [nI_sub1] at e
      exact absurd e (nI_m1 (by omega))
  · rintro rfl; decide
theorem cle {b c : Nat} (hb : 0 < b) (hc : 0 < c) (h1 : b < 2 ^ 31) (h2 : c < 2 ^ 31) : nI b - 1 ≤ nI c - 1 ↔ b ≤ c := by
  obtain ⟨d, rfl⟩ : ∃ d, c = d + 1 := ⟨c - 1, by omega⟩
  obtain ⟨e, rfl⟩ : ∃ e, b = e + 1 := ⟨b - 1, by omega⟩
  rw [nI_sub1, nI_sub1, nI_leI (by omega) (by omega)]; omega
/-- a node's price of a name along a face -/
def prV (u : MS) (i : Nat) (x : Int32) (f r : Nat) : Nat := if u 81 r = x then (u 83 (250 * i + 5 * r + f)).toNatClampNeg else 0
def prF (u : MS) (i : Nat) (x : Int32) (f R : Nat) : Nat := mf (prV u i x f) R
def okC (u : MS) (R : Nat) : Prop := ∀ i r f, i < 5 → r < R → f < 5 → ∃ c, c ≤ 100 ∧ u 83 (250 * i + 5 * r + f) = nI c
theorem rR.okC {R : Nat} {g : sg} {u : MS} (h : rR R g u) : okC u R := by
  intro i r f hi hr hf
  obtain ⟨m, ρ, π, h1, h2, h3, h4, h5, h6⟩ := h.1 i hi
  by_cases hj : ∃ j, j < m ∧ π j = r
  · obtain ⟨j, hj, rfl⟩ := hj
    obtain ⟨-, -, -, -, -, -, -, k⟩ := h3 j hj
    obtain ⟨c, c1, c2, -⟩ := k f hf
    exact ⟨c, c1, c2⟩
  · exact ⟨0, by omega, (h5 r hr (fun j hjm e => hj ⟨j, hjm, e⟩)).2 f hf⟩
theorem prV_le {u : MS} {R i f r : Nat} {x : Int32} (h : okC u R) (hi : i < 5) (hr : r < R) (hf : f < 5) : prV u i x f r ≤ 100 := by
  unfold prV
  split
  · obtain ⟨c, c1, c2⟩ := h i r f hi hr hf
    rw [c2, nI_clamp (by omega)]; exact c1
  · omega
theorem c_Mod_priced {u : MS} {i f R : Nat} {x : Int32} {Z : Int32 → MS → Prop} (hi : i < 5) (hf : f < 5) (hR : R ≤ 50) (h79 : u 79 0 = nI R) (hC : okC u R) (h : Z (nI (prF u i x f R)) u) : mMT M_Mod_priced [qr 1 (some 0), qi (nI i), qi x, qi (nI f)] u (mI Z) := by
  refine mt_Mod_priced ?_
  have key : ∀ r, r ≤ R → mWP M_Mod_priced 6 [qr 1 (some 0), qi (nI i), qi x, qi (nI f), qi (nI (prF u i x f r)), qi (nI r), none] [] u (mI Z) := by
    refine dn R ?_ ?_
    · refine mb_Mod_priced_6 ⟨fun _ => h, fun hc => absurd ?_ hc⟩
      rw [h79]; exact nI_le (Nat.le_refl _) (by omega)
    · intro r hr ih
      have hb : prF u i x f r ≤ 100 := mf_le fun r' hr' => prV_le hC hi (by omega) hf
      have es : prF u i x f (r + 1) = mst (prF u i x f r) (prV u i x f r) := rfl
      obtain ⟨c, c1, c2⟩ := hC i r f hi hr hf
      have ei : (250 : Int32) * nI i + (5 : Int32) * nI r + nI f = nI (250 * i + 5 * r + f) := by rw [nl_250, nl_5, pk_mul, pk_mul, nI_add, nI_add]
      refine mb_Mod_priced_6 ⟨fun hc => ?_, fun _ => ⟨(vpi (by omega)).mpr (by omega), fun h1 => ⟨fun _ => ?_, fun q => absurd (by decide) q⟩, fun h1 => ?_⟩⟩
      · rw [h79] at hc
        exact absurd hc (nI_ge hr (by omega))
      · rw [nI_clamp (by omega)] at h1
        have ev : prV u i x f r = 0 := if_neg h1
        rw [es, ev] at ih
        exact meq ih (by rw [nI_1]; simp [mst])
      · rw [nI_clamp (by omega)] at h1
        have ev : prV u i x f r = c := by
          unfold prV
          rw [if_pos h1, c2, nI_clamp (by omega)]
        rw [es, ev] at ih
        rw [ei, nI_clamp (show 250 * i + 5 * r + f < 2 ^ 31 by omega), c2, nI_1]
        refine ⟨(vpi (by omega)).mpr (by omega), fun q => ?_, fun q => ⟨fun q2 => ?_, fun q2 => ⟨fun q3 => ?_, fun q3 => ?_⟩⟩⟩
        · rw [nI_le0 (by omega)] at q
          exact meq ih (by simp [mst, q])
        · rw [nI_le0 (by omega)] at q
          rw [nl_0, nI_eq (by omega) (by decide)] at q2
          exact meq ih (by simp [mst, q2, show 0 < c by omega])
        · rw [nI_le0 (by omega)] at q
          rw [nl_0, nI_eq (by omega) (by decide)] at q2
          rw [nI_leI (by omega) (by omega)] at q3
          exact meq ih (by simp [mst, q2, show ¬ c < prF u i x f r by omega])
        · rw [nI_le0 (by omega)] at q
          rw [nl_0, nI_eq (by omega) (by decide)] at q2
          rw [nI_leI (by omega) (by omega)] at q3
          exact meq ih (by simp [mst, q2, show 0 < c by omega, show c < prF u i x f r by omega])
  exact key 0 (Nat.zero_le _)
theorem prF_rows {R i m : Nat} {ρ π : Nat → Nat} {g : sg} {u : MS} (h : rRn R i m ρ π g u) (x : Int32) {f : Nat} (hf : f < 5) : mf (fun j => prV u i x f (π j)) m = prF u i x f R := by
  obtain ⟨h1, h2, h3, h4, h5, h6⟩ := h
  refine mf_eq (fun j hj hp => ⟨π j, (h3 j hj).2.2.2.1, rfl⟩) (fun r hr hp => ?_)
  by_cases hj : ∃ j, j < m ∧ π j = r
  · obtain ⟨j, hj, e⟩ := hj
    exact ⟨j, hj, by rw [e]⟩
  · exfalso
    have := (h5 r hr (fun j hjm e => hj ⟨j, hjm, e⟩)).2 f hf
    unfold prV at hp
    rw [this] at hp
    split at hp
    · exact absurd hp (by decide)
    · exact absurd hp (by decide)
theorem c_Routes_costOf {X : Nat × (Nat → Int32)} {kk R i m f : Nat} {ρ π : Nat → Nat} {g : sg} {u : MS} {x : Int32} {Z : Int32 → sg → Prop} (hR : R ≤ 50) (hf : f < 5) (hA : gA g 704 i = some 50) (hn : rRn R i m ρ π g u) (h : Z (nI (prF u i x f R) - 1) g) : nnMT X M_Routes_costOf kk [qr 11 (some i), qi x, qi (nI f)] g (zI Z) := by
  have hn0 := hn
  obtain ⟨h1, h2, h3, h4, h5, h6⟩ := hn
  have hle : ∀ j, j < m → prV u i x f (π j) ≤ 100 := by
    intro j hj
    obtain ⟨-, -, -, -, -, -, -, k⟩ := h3 j hj
    obtain ⟨c, c1, c2, -⟩ := k f hf
    unfold prV
    split
    · rw [c2, nI_clamp (by omega)]; exact c1
    · omega
  refine t_Routes_costOf ?_
  have key : ∀ j, j ≤ m → nnWP X M_Routes_costOf kk 5 [qr 11 (some i), qi x, qi (nI f), qi (nI (mf (fun j => prV u i x f (π j)) j) - 1), qi (nI j), none] [] g (zI Z) := by
    refine dn m ?_ ?_
    · refine b_Routes_costOf_5 ⟨fun _ => ?_, fun hc => absurd ?_ hc⟩
      · rw [prF_rows hn0 x hf]; exact h
      · rw [h2]; exact nI_le (Nat.le_refl _) (by omega)
    · intro j hj ih
      have hb : mf (fun j => prV u i x f (π j)) j ≤ 100 := mf_le fun r' hr' => hle r' (by omega)
      have es : mf (fun j => prV u i x f (π j)) (j + 1) = mst (mf (fun j => prV u i x f (π j)) j) (prV u i x f (π j)) := rfl
      generalize hB : mf (fun j => prV u i x f (π j)) j = B at hb es
      obtain ⟨r1, r2, r3, r4, r5, r6, r7, k⟩ := h3 j hj
      obtain ⟨c, c1, c2, c3⟩ := k f hf
      refine b_Routes_costOf_5 ⟨fun hc => ?_, fun _ => ⟨hA, (vpi (by omega)).mpr (by omega), ρ j, by rw [nI_clamp (by omega)]; exact r1, fun q1 => ⟨fun _ => ?_, fun q => absurd rfl q⟩, fun q1 => ?_⟩⟩
      · rw [h2] at hc
        exact absurd hc (nI_ge hj (by omega))
      · rw [r6] at q1
        have ev : prV u i x f (π j) = 0 := if_neg q1
        rw [es, ev] at ih
        rw [nI_1]
        simpa [mst] using ih
      · rw [r6] at q1
        have ev : prV u i x f (π j) = c := by
          unfold prV
          rw [if_pos q1, c2, nI_clamp (by omega)]
        rw [es, ev] at ih
        rw [nI_clamp (show f < 2 ^ 31 by omega), c3, nI_1]
        refine ⟨r3, (vpi (by omega)).mpr (by omega), fun q => ?_, fun q => ⟨fun q2 => ?_, fun q2 => ⟨fun q3 => ?_, fun q3 => ?_⟩⟩⟩
        · rw [cm1 (by omega)] at q
          simpa [mst, q] using ih
        · rw [cm1 (by omega)] at q
          rw [cm1 (by omega)] at q2
          simpa [mst, q2, show 0 < c by omega] using ih
        · rw [cm1 (by omega)] at q
          rw [cm1 (by omega)] at q2
          rw [cle (by omega) (by omega) (by omega) (by omega)] at q3
          simpa [mst, q2, show ¬ c < B by omega] using ih
        · rw [cm1 (by omega)] at q
          rw [cm1 (by omega)] at q2
          rw [cle (by omega) (by omega) (by omega) (by omega)] at q3
          simpa [mst, q2, show 0 < c by omega, show c < B by omega] using ih
  exact key 0 (Nat.zero_le _)
theorem pair_cost (g : sg) (u : MS) (x y z : Int32) (hr : RL g u) : PairI 0 M_Net_cost M_Mod_cost [qi x, qi y, qi z] g u := by
  have hr0 := hr
  obtain ⟨S, P, N, R, Q, hsh, hT, hN, hW, hG, hRR, h⟩ := hr
  have n3 := hN.2.2.1
  have n4 := hN.2.2.2.1
  cases hb : inN x 5 with
  | false => exact ⟨-1, u, fun Z hz => mt_Mod_cost (c_Mod_isNode ⟨fun _ => hz, fun c => absurd (b2_f hb) c⟩), fun X Z hz => t_Net_cost (c_Net_isNode fun _ => ⟨fun _ => hz g hr0, fun c => absurd (b2_f hb) c⟩)⟩
  | true =>
    have m0 : ¬ b2 (inN x 5) = 0 := by rw [b2_t hb]; decide
    cases hc : inN y N with
    | false => exact ⟨-1, u, fun Z hz => mt_Mod_cost (c_Mod_isNode ⟨fun c => absurd c m0, fun _ => c_Mod_isName n4 ⟨fun _ => hz, fun c => absurd (b2_f hc) c⟩⟩), fun X Z hz => t_Net_cost (c_Net_isNode fun _ => ⟨fun c => absurd c m0, fun _ => ⟨0, hsh.1.1, c_Names_has n3 fun _ => ⟨fun _ => hz g hr0, fun c => absurd (b2_f hc) c⟩⟩⟩)⟩
    | true =>
      have m1 : ¬ b2 (inN y N) = 0 := by rw [b2_t hc]; decide
      obtain ⟨i, hi, rfl⟩ := inN_of (by decide) hb
      have vi : vp_in (nI i) 5 := (vpi (by omega)).mpr hi
      have cl : (nI i).toNatClampNeg = i := nI_clamp (by omega)
      by_cases c1 : z < 0
      · exact ⟨-1, u, fun Z hz => mt_Mod_cost (c_Mod_isNode ⟨fun c => absurd c m0, fun _ => c_Mod_isName n4 ⟨fun c => absurd c m1, fun _ => ⟨fun _ => hz, fun c => absurd c1 c⟩⟩⟩), fun X Z hz => t_Net_cost (c_Net_isNode fun _ => ⟨fun c => absurd c m0, fun _ => ⟨0, hsh.1.1, c_Names_has n3 fun _ => ⟨fun c => absurd c m1, fun _ => ⟨fun _ => hz g hr0, fun c => absurd c1 c⟩⟩⟩⟩)⟩
      · by_cases c2 : nI 5 ≤ z
        · exact ⟨-1, u, fun Z hz => mt_Mod_cost (c_Mod_isNode ⟨fun c => absurd c m0, fun _ => c_Mod_isName n4 ⟨fun c => absurd c m1, fun _ => ⟨fun c => absurd c c1, fun _ => ⟨fun _ => hz, fun c => absurd ((lt4 z).mpr c2) c⟩⟩⟩⟩), fun X Z hz => t_Net_cost (c_Net_isNode fun _ => ⟨fun c => absurd c m0, fun _ => ⟨0, hsh.1.1, c_Names_has n3 fun _ => ⟨fun c => absurd c m1, fun _ => ⟨fun c => absurd c c1, fun _ => ⟨fun c => absurd c2 (Int32.not_le.mpr c), fun _ => hz g hr0⟩⟩⟩⟩⟩)⟩
        · obtain ⟨f, hf, rfl⟩ := ins5 c1 c2 (by decide)
          obtain ⟨m, ρ, π, hn⟩ := hRR.1 i hi
          refine ⟨nI (prF u i y f R) - 1, u, fun Z hz => mt_Mod_cost (c_Mod_isNode ⟨fun c => absurd c m0, fun _ => c_Mod_isName n4 ⟨fun c => absurd c m1, fun _ => ⟨fun c => absurd c c1, fun _ => ⟨fun c => absurd ((lt4 _).mp c) c2, fun _ => c_Mod_priced hi hf hG.1 hG.2.1 hRR.okC hz⟩⟩⟩⟩), fun X Z hz => t_Net_cost (c_Net_isNode fun _ => ⟨fun c => absurd c m0, fun _ => ⟨0, hsh.1.1, c_Names_has n3 fun _ => ⟨fun c => absurd c m1, fun _ => ⟨fun c => absurd c c1, fun _ => ⟨fun _ => ⟨hsh.2.1.2.2.1, vi, i, by rw [cl]; exact hsh.1.2.1 i hi, i, (hsh.1.2.2.2 i hi).1, c_Routes_costOf hG.1 hf (hsh.2.2.1 i hi).2.1 hn fun _ => hz g hr0⟩, fun c => absurd (Int32.not_le.mp c2) c⟩⟩⟩⟩⟩)⟩
