/-- names as a tree -/
def nmO (N : Nat) (u : MS) : Prop := ∀ n, n < N → ∃ d, d ≤ 4 ∧ u 72 n = nI d ∧ (n = 0 → d = 0) ∧ (n ≠ 0 → 1 ≤ d ∧ ∃ p, p < n ∧ u 71 n = nI p ∧ u 72 p = nI (d - 1))
theorem rN.nm {N : Nat} {g : sg} {u : MS} (h : rN N g u) : nmO N u := by
  obtain ⟨h1, h2, h3, h4, h5, h6, h7, h8⟩ := h
  intro n hn
  by_cases h0 : n = 0
  · subst h0
    exact ⟨0, by omega, h7, fun _ => rfl, fun q => absurd rfl q⟩
  · obtain ⟨-, -, -, p, d, a1, a2, a3, a4, a5⟩ := h8 n (by omega) hn
    exact ⟨d + 1, by omega, a5, fun q => absurd q h0, fun _ => ⟨by omega, p, a1, a3, a4⟩⟩
def pa (u : MS) (n : Nat) : Nat := (u 71 n).toNatClampNeg
def dp (u : MS) (n : Nat) : Nat := (u 72 n).toNatClampNeg
theorem nmO.pA {N n : Nat} {u : MS} (h : nmO N u) (hN : N ≤ 48) (hn : n < N) : dp u n ≤ 4 ∧ u 72 n = nI (dp u n) ∧ (n = 0 → dp u n = 0) ∧ (n ≠ 0 → 1 ≤ dp u n ∧ pa u n < n ∧ u 71 n = nI (pa u n) ∧ dp u (pa u n) + 1 = dp u n) := by
  obtain ⟨d, d1, d2, d3, d4⟩ := h n hn
  have e : dp u n = d := by unfold dp; rw [d2, nI_clamp (by omega)]
  refine ⟨by omega, by rw [e]; exact d2, fun q => by rw [e]; exact d3 q, fun q => ?_⟩
  obtain ⟨a1, p, a2, a3, a4⟩ := d4 q
  have ep : pa u n = p := by unfold pa; rw [a3, nI_clamp (by omega)]
  have ed : dp u p = d - 1 := by unfold dp; rw [a4, nI_clamp (by omega)]
  rw [ep, e, ed]
  exact ⟨a1, a2, a3, by omega⟩
def isp (u : MS) : Nat → Nat → Nat → Bool
  | 0, _, _ => false
  | k + 1, n, p => if n = p then true else if n = 0 then false else isp u k (pa u n) p
theorem isp_lt {N p : Nat} {u : MS} (h : nmO N u) (hN : N ≤ 48) : ∀ k n, n < N → dp u n < dp u p → isp u k n p = false
  | 0, _, _, _ => rfl
  | k + 1, n, hn, hd => by
    show (if n = p then true else if n = 0 then false else isp u k (pa u n) p) = false
    have hne : n ≠ p := by intro e; rw [e] at hd; omega
    rw [if_neg hne]
    by_cases h0 : n = 0
    · rw [if_pos h0]
    · rw [if_neg h0]
      obtain ⟨-, -, -, a⟩ := h.pA hN hn
      obtain ⟨a1, a2, a3, a4⟩ := a h0
      exact isp_lt h hN k _ (by omega) (by omega)
theorem c_Mod_isPrefix {N p n : Nat} {u : MS} {Z : Int32 → MS → Prop} (hm : nmO N u) (hN : N ≤ 48) (hp : p < N) (hn : n < N) (h : Z (b2 (isp u 5 n p)) u) : mMT M_Mod_isPrefix [qr 1 (some 0), qi (nI p), qi (nI n)] u (mI Z) := by
  refine mt_Mod_isPrefix ?_
  obtain ⟨p1, p2, p3, p4⟩ := hm.pA hN hp
  have key : ∀ k n, n < N → dp u n < k → Z (b2 (isp u k n p)) u → mWP M_Mod_isPrefix 2 [qr 1 (some 0), qi (nI p), none, qi (nI n)] [] u (mI Z) := by
    intro k
    induction k with
    | zero => intro n _ hk; omega
    | succ k ih =>
      intro n hn hk hz
      obtain ⟨a1, a2, a3, a4⟩ := hm.pA hN hn
      have es : isp u (k + 1) n p = if n = p then true else if n = 0 then false else isp u k (pa u n) p := rfl
      rw [es] at hz
      refine mb_Mod_isPrefix_2 ?_
      rw [nI_clamp (show n < 2 ^ 31 by omega), nI_clamp (show p < 2 ^ 31 by omega), a2, p2]
      refine ⟨(vpi (by omega)).mpr (by omega), (vpi (by omega)).mpr (by omega), fun q => ⟨fun q2 => ?_, fun q2 => ?_⟩, fun q => ?_⟩
      · rw [nI_eq (by omega) (by omega)] at q2
        rw [nI_leI (by omega) (by omega)] at q
        rw [if_neg q2] at hz
        by_cases h0 : n = 0
        · rw [if_pos h0] at hz; exact hz
        · rw [if_neg h0] at hz
          obtain ⟨b1, b2', b3, b4⟩ := a4 h0
          rw [isp_lt hm hN k _ (by omega) (by omega)] at hz
          exact hz
      · rw [nI_eq (by omega) (by omega)] at q2
        rw [if_pos q2] at hz; exact hz
      · rw [nI_leI (by omega) (by omega)] at q
        have h0 : n ≠ 0 := fun e => by have := a3 e; omega
        obtain ⟨b1, b2', b3, b4⟩ := a4 h0
        rw [if_neg (fun e => by rw [e] at q; omega), if_neg h0] at hz
        rw [b3]
        exact ih _ (by omega) (by omega) hz
  exact key 5 n hn (by have := (hm.pA hN hn).1; omega) h
theorem c_Names_isPrefix {X : Nat × (Nat → Int32)} {kk N S P p n : Nat} {g : sg} {u : MS} {Z : Int32 → sg → Prop} (hr : rN N g u) (hsh : shC S P g) (hp : p < N) (hn : n < N) (h : Z (b2 (isp u 5 n p)) g) : nnMT X M_Names_isPrefix kk [qr 5 (some 0), qi (nI p), qi (nI n)] g (zI Z) := by
  have hm := hr.nm
  have hN := hr.2.1
  have hA : gA g 320 0 = some 48 := hsh.2.1.2.2.2.2.2.2.1
  refine t_Names_isPrefix ?_
  have key : ∀ k, k ≤ 5 → ∀ n, n < N → Z (b2 (isp u k n p)) g → nnWP X M_Names_isPrefix kk 5 [qr 5 (some 0), qi (nI p), none, qi (nI n), qi (nI (5 - k))] [] g (zI Z) := by
    intro k
    induction k with
    | zero =>
      intro _ n _ hz
      exact b_Names_isPrefix_5 ⟨fun _ => hz, fun q => absurd (by decide) q⟩
    | succ k ih =>
      intro hk n hn hz
      have es : isp u (k + 1) n p = if n = p then true else if n = 0 then false else isp u k (pa u n) p := rfl
      rw [es] at hz
      refine b_Names_isPrefix_5 ⟨fun q => ?_, fun _ => ⟨fun q => absurd q (nI_pos (by omega)), fun _ => ⟨fun q => ?_, fun q => ?_⟩⟩⟩
      · rw [nl_4, nI_ltI (by omega) (by omega)] at q
        omega
      · rw [nI_eq (by omega) (by omega)] at q
        rw [if_neg q] at hz
        rw [nI_clamp (show n < 2 ^ 31 by omega), nI_1, show 5 - (k + 1) + 1 = 5 - k by omega]
        refine ⟨hA, (vpi (by omega)).mpr (by omega), ?_⟩
        by_cases h0 : n = 0
        · rw [if_pos h0] at hz
          rw [h0, hr.2.2.2.2.1]
          exact b_Names_isPrefix_5 ⟨fun _ => hz, fun _ => ⟨fun _ => hz, fun q => absurd (by decide) q⟩⟩
        · rw [if_neg h0] at hz
          obtain ⟨b1, b2', b3, b4⟩ := (hm.pA hN hn).2.2.2 h0
          rw [(hr.2.2.2.2.2.2.2 n (by omega) hn).1, b3]
          exact ih (by omega) _ (by omega) hz
      · rw [nI_eq (by omega) (by omega)] at q
        rw [if_pos q] at hz; exact hz
  exact key 5 (Nat.le_refl _) n hn h
theorem fl1 : ∀ f, f < 4 → ((nI f &&& 1 = 0 ↔ f % 2 = 0) ∧ (nI f &&& 1 = 1 ↔ f % 2 = 1) ∧ (nI f &&& 2 = 0 ↔ f < 2)) := by decide +kernel
def anF (u : MS) (x y f : Nat) : Bool := decide (x = y) || (decide (f % 2 = 1) && isp u 5 x y)
theorem c_Mod_answers {N x y f : Nat} {u : MS} {Z : Int32 → MS → Prop} (hm : nmO N u) (hN : N ≤ 48) (hx : x < N) (hy : y < N) (hf : f < 4) (h : Z (b2 (anF u x y f)) u) : mMT M_Mod_answers [qr 1 (some 0), qi (nI x), qi (nI y), qi (nI f)] u (mI Z) := by
  obtain ⟨f1, f2, f3⟩ := fl1 f hf
  unfold anF at h
  refine mt_Mod_answers ⟨fun q => ?_, fun q => ⟨fun q2 => ?_, fun q2 => c_Mod_isPrefix hm hN hy hx ?_⟩⟩
  · rw [nI_eq (by omega) (by omega)] at q
    rw [show decide (x = y) = true by simpa using q] at h; exact h
  · rw [nI_eq (by omega) (by omega)] at q
    rw [f2] at q2
    rw [show decide (x = y) = false by simpa using q, show decide (f % 2 = 1) = false by simpa using q2] at h; exact h
  · rw [nI_eq (by omega) (by omega)] at q
    rw [f2] at q2
    rw [show decide (x = y) = false by simpa using q, show decide (f % 2 = 1) = true by simpa using q2] at h
    cases hb : isp u 5 x y with
    | false => rw [hb] at h; exact ⟨fun _ => h, fun q => absurd rfl q⟩
    | true => rw [hb] at h; exact ⟨fun q => absurd q (by decide), fun _ => h⟩
theorem c_Names_answers {X : Nat × (Nat → Int32)} {kk N S P x y f : Nat} {g : sg} {u : MS} {Z : Int32 → sg → Prop} (hr : rN N g u) (hsh : shC S P g) (hx : x < N) (hy : y < N) (hf : f < 4) (h : Z (b2 (anF u x y f)) g) : nnMT X M_Names_answers kk [qr 5 (some 0), qi (nI x), qi (nI y), qi (nI f)] g (zI Z) := by
  have hN := hr.2.1
  obtain ⟨f1, f2, f3⟩ := fl1 f hf
  unfold anF at h
  refine t_Names_answers ⟨fun q => ⟨fun q2 => ?_, fun q2 => c_Names_isPrefix hr hsh hy hx fun _ => ?_⟩, fun q => ?_⟩
  · rw [nI_eq (by omega) (by omega)] at q
    rw [f1] at q2
    rw [show decide (x = y) = false by simpa using q, show decide (f % 2 = 1) = false by simp; omega] at h; exact h
  · rw [nI_eq (by omega) (by omega)] at q
    rw [f1] at q2
    rw [show decide (x = y) = false by simpa using q, show decide (f % 2 = 1) = true by simp; omega] at h
    cases hb : isp u 5 x y with
    | false => rw [hb] at h; exact ⟨fun _ => h, fun q => absurd rfl q⟩
    | true => rw [hb] at h; exact ⟨fun q => absurd q (by decide), fun _ => h⟩
  · rw [nI_eq (by omega) (by omega)] at q
    rw [show decide (x = y) = true by simpa using q] at h; exact h
/-- the longest known beginning -/
def hrP (u : MS) (i R n : Nat) : Prop := ∃ f, f < 5 ∧ 0 < prF u i (nI n) f R
def hrB (u : MS) (i R n : Nat) : Bool := decide (0 < prF u i (nI n) 0 R) || decide (0 < prF u i (nI n) 1 R) || decide (0 < prF u i (nI n) 2 R) || decide (0 < prF u i (nI n) 3 R) || decide (0 < prF u i (nI n) 4 R)
theorem hrB_iff {u : MS} {i R n : Nat} : hrB u i R n = true ↔ hrP u i R n := by
  unfold hrB hrP
  simp only [Bool.or_eq_true, decide_eq_true_eq]
  constructor
  · rintro ((((h | h) | h) | h) | h)
    · exact ⟨0, by omega, h⟩
    · exact ⟨1, by omega, h⟩
    · exact ⟨2, by omega, h⟩
    · exact ⟨3, by omega, h⟩
    · exact ⟨4, by omega, h⟩
  · rintro ⟨f, hf, h⟩
    have : f = 0 ∨ f = 1 ∨ f = 2 ∨ f = 3 ∨ f = 4 := by omega
    rcases this with e | e | e | e | e <;> subst e <;> simp [h]
def lg (u : MS) (i R : Nat) : Nat → Nat → Int32
  | 0, _ => -1
  | k + 1, n => if hrB u i R n = true then nI n else if n = 0 then -1 else lg u i R k (pa u n)
theorem lg_cases {N i R : Nat} {u : MS} (hm : nmO N u) (hN : N ≤ 48) : ∀ k n, n < N → lg u i R k n = -1 ∨ ∃ p, p < N ∧ lg u i R k n = nI p
  | 0, _, _ => Or.inl rfl
  | k + 1, n, hn => by
    have es : lg u i R (k + 1) n = if hrB u i R n = true then nI n else if n = 0 then -1 else lg u i R k (pa u n) := rfl
    rw [es]
    by_cases h1 : hrB u i R n = true
    · rw [if_pos h1]; exact Or.inr ⟨n, hn, rfl⟩
    · rw [if_neg h1]
      by_cases h0 : n = 0
      · rw [if_pos h0]; exact Or.inl rfl
      · rw [if_neg h0]
        obtain ⟨b1, b2', b3, b4⟩ := (hm.pA hN hn).2.2.2 h0
        exact lg_cases hm hN k _ (by omega)
theorem c_Mod_longest {N i R n : Nat} {u : MS} {Z : Int32 → MS → Prop} (hm : nmO N u) (hN : N ≤ 48) (hi : i < 5) (hR : R ≤ 50) (h79 : u 79 0 = nI R) (hC : okC u R) (hn : n < N) (h : Z (lg u i R 5 n) u) : mMT M_Mod_longest [qr 1 (some 0), qi (nI i), qi (nI n)] u (mI Z) := by
  refine mt_Mod_longest ?_
  obtain ⟨n1, n2, n3, n4⟩ := hm.pA hN hn
  rw [nI_clamp (show n < 2 ^ 31 by omega), n2]
  refine ⟨(vpi (by omega)).mpr (by omega), ?_⟩
  have key : ∀ k n, n < N → dp u n < k → Z (lg u i R k n) u → mWP M_Mod_longest 10 [qr 1 (some 0), qi (nI i), none, qi (nI n), qi (nI (dp u n)), none] [] u (mI Z) := by
    intro k
    induction k with
    | zero => intro n _ hk; omega
    | succ k ih =>
      intro n hn hk hz
      obtain ⟨a1, a2, a3, a4⟩ := hm.pA hN hn
      have es : lg u i R (k + 1) n = if hrB u i R n = true then nI n else if n = 0 then -1 else lg u i R k (pa u n) := rfl
      rw [es] at hz
      refine mb_Mod_longest_10 ⟨fun q => absurd q (nI_pos (by omega)), fun _ => ?_⟩
      have inner : ∀ f, f ≤ 5 → (∀ f', f' < f → ¬ 0 < prF u i (nI n) f' R) → mWP M_Mod_longest 18 [qr 1 (some 0), qi (nI i), none, qi (nI n), qi (nI (dp u n)), qi (nI f)] [] u (mI Z) := by
        refine dn 5 (fun hno => ?_) (fun f hf ihf hno => ?_)
        · rw [if_neg (fun q => by obtain ⟨f, q1, q2⟩ := hrB_iff.mp q; exact hno f q1 q2)] at hz
          refine mb_Mod_longest_18 ⟨fun _ => ⟨(vpi (by omega)).mpr (by omega), ?_⟩, fun q => absurd (by decide) q⟩
          rw [nI_clamp (show n < 2 ^ 31 by omega)]
          by_cases h0 : n = 0
          · rw [if_pos h0] at hz
            rw [a3 h0]
            exact mb_Mod_longest_10 ⟨fun _ => hz, fun q => absurd (by decide) q⟩
          · rw [if_neg h0] at hz
            obtain ⟨b1, b2', b3, b4⟩ := a4 h0
            rw [b3, ← b4, show nI (dp u (pa u n) + 1) + (-1) = nI (dp u (pa u n)) from (Int32.sub_eq_add_neg _ _).symm.trans (nI_sub1 _)]
            exact ih _ (by omega) (by omega) hz
        · refine mb_Mod_longest_18 ⟨fun q => ?_, fun _ => c_Mod_priced hi hf hR h79 hC ⟨fun q => ?_, fun q => ?_⟩⟩
          · rw [nl_5, nI_leI (by omega) (by omega)] at q; omega
          · have hb : prF u i (nI n) f R ≤ 100 := mf_le fun r hr => prV_le hC hi hr hf
            rw [nI_le0 (by omega)] at q
            rw [nI_1]
            refine ihf fun f' hf' => ?_
            by_cases he : f' = f
            · rw [he]; omega
            · exact hno f' (by omega)
          · have hb : prF u i (nI n) f R ≤ 100 := mf_le fun r hr => prV_le hC hi hr hf
            rw [nI_le0 (by omega)] at q
            rw [if_pos (hrB_iff.mpr ⟨f, hf, by omega⟩)] at hz
            exact hz
      exact inner 0 (Nat.zero_le _) (fun f' q => absurd q (Nat.not_lt_zero _))
  exact key 5 n hn (by omega) h
theorem hrP_rows {R i m n : Nat} {ρ π : Nat → Nat} {g : sg} {u : MS} (h : rRn R i m ρ π g u) : hrP u i R n ↔ ∃ j, j < m ∧ u 81 (π j) = nI n ∧ 0 < mf (fun f => (u 83 (250 * i + 5 * π j + f)).toNatClampNeg) 5 := by
  constructor
  · rintro ⟨f, hf, hp⟩
    rw [← prF_rows h (nI n) hf] at hp
    rcases mf_spec (fun j => prV u i (nI n) f (π j)) m with ⟨a1, a2⟩ | ⟨a1, ⟨j, a2, a3⟩, a4⟩
    · omega
    · have hv : 0 < prV u i (nI n) f (π j) := by have := a3; omega
      unfold prV at hv
      by_cases he : u 81 (π j) = nI n
      · rw [if_pos he] at hv
        refine ⟨j, a2, he, ?_⟩
        rcases mf_spec (fun f => (u 83 (250 * i + 5 * π j + f)).toNatClampNeg) 5 with ⟨b1, b2'⟩ | ⟨b1, -⟩
        · have := b2' f hf
          omega
        · exact b1
      · rw [if_neg he] at hv; omega
  · rintro ⟨j, hj, he, hp⟩
    rcases mf_spec (fun f => (u 83 (250 * i + 5 * π j + f)).toNatClampNeg) 5 with ⟨b1, b2'⟩ | ⟨b1, ⟨f, b2', b3⟩, -⟩
    · omega
    · refine ⟨f, b2', ?_⟩
      rw [← prF_rows h (nI n) b2']
      rcases mf_spec (fun j => prV u i (nI n) f (π j)) m with ⟨a1, a2⟩ | ⟨a1, -⟩
      · have := a2 j hj
        unfold prV at this
        rw [if_pos he] at this
        omega
      · exact a1
theorem rRn.cs {R i m j : Nat} {ρ π : Nat → Nat} {g : sg} {u : MS} (h : rRn R i m ρ π g u) (hj : j < m) : ∀ f, f < 5 → (u 83 (250 * i + 5 * π j + f)).toNatClampNeg ≤ 100 ∧ gI g 643 (ρ j) f = nI (u 83 (250 * i + 5 * π j + f)).toNatClampNeg - 1 := by
  intro f hf
  obtain ⟨-, -, -, -, -, -, -, k⟩ := h.2.2.1 j hj
  obtain ⟨c, c1, c2, c3⟩ := k f hf
  rw [c2, nI_clamp (by omega)]
  exact ⟨c1, c3⟩
theorem c_Routes_longest {X : Nat × (Nat → Int32)} {kk N S P R i m n : Nat} {ρ π : Nat → Nat} {g : sg} {u : MS} {Z : Int32 → sg → Prop} (hr : rN N g u) (hsh : shC S P g) (hR : R ≤ 50) (hA : gA g 704 i = some 50) (hrn : rRn R i m ρ π g u) (hn : n < N) (h : Z (lg u i R 5 n) g) : nnMT X M_Routes_longestPrefix kk [qr 11 (some i), qi (nI n), qr 5 (some 0)] g (zI Z) := by
  have hm := hr.nm
  have hN := hr.2.1
  have hmR := hrn.1
  refine t_Routes_longestPrefix ?_
  have key : ∀ k, k ≤ 5 → ∀ n, n < N → Z (lg u i R k n) g → nnWP X M_Routes_longestPrefix kk 5 [qr 11 (some i), none, qr 5 (some 0), qi (nI n), qi (nI (5 - k)), none] [] g (zI Z) := by
    intro k
    induction k with
    | zero =>
      intro _ n _ hz
      exact b_Routes_longestPrefix_5 ⟨fun _ => hz, fun q => absurd (by decide) q⟩
    | succ k ih =>
      intro hk n hn hz
      have es : lg u i R (k + 1) n = if hrB u i R n = true then nI n else if n = 0 then -1 else lg u i R k (pa u n) := rfl
      rw [es] at hz
      refine b_Routes_longestPrefix_5 ⟨fun q => ?_, fun _ => ⟨fun q => absurd q (nI_m1 (by omega)), fun _ => ?_⟩⟩
      · rw [nl_4, nI_ltI (by omega) (by omega)] at q
        omega
      have inner : ∀ j, j ≤ m → (∀ j', j' < j → ¬ (u 81 (π j') = nI n ∧ 0 < mf (fun f => (u 83 (250 * i + 5 * π j' + f)).toNatClampNeg) 5)) → nnWP X M_Routes_longestPrefix kk 19 [qr 11 (some i), none, qr 5 (some 0), qi (nI n), qi (nI (5 - (k + 1))), qi (nI j)] [] g (zI Z) := by
        refine dn m (fun hno => ?_) (fun j hj ihj hno => ?_)
        · rw [if_neg (fun q => by obtain ⟨j, q1, q2⟩ := (hrP_rows hrn).mp (hrB_iff.mp q); exact hno j q1 q2)] at hz
          refine b_Routes_longestPrefix_19 ⟨fun _ => ⟨0, rfl, c_Names_shorterOf hr hsh fun _ => ?_⟩, fun q => absurd ?_ q⟩
          · rw [nI_1, show 5 - (k + 1) + 1 = 5 - k by omega]
            by_cases h0 : n = 0
            · rw [if_pos h0] at hz
              rw [show upI u N (nI n) = -1 by unfold upI; rw [if_neg (fun z => z.2 (by rw [h0]; rfl))]]
              exact b_Routes_longestPrefix_5 ⟨fun _ => hz, fun _ => ⟨fun _ => hz, fun q => absurd rfl q⟩⟩
            · rw [if_neg h0] at hz
              obtain ⟨b1, b2', b3, b4⟩ := (hm.pA hN hn).2.2.2 h0
              rw [show upI u N (nI n) = nI (pa u n) by unfold upI; rw [if_pos ⟨inN_nI hn (by omega), fun z => h0 (by rw [nl_0, nI_eq (by omega) (by omega)] at z; exact z)⟩, nI_clamp (by omega)]; exact b3]
              exact ih (by omega) _ (by omega) hz
          · rw [hrn.2.1]; exact nI_le (Nat.le_refl _) (by omega)
        · obtain ⟨r1, r2, r3, r4, r5, r6, r7, r8⟩ := hrn.2.2.1 j hj
          refine b_Routes_longestPrefix_19 ⟨fun q => ?_, fun _ => ⟨hA, (vpi (by omega)).mpr (by omega), ρ j, by rw [nI_clamp (by omega)]; exact r1, fun q => ?_, fun q => ?_⟩⟩
          · rw [hrn.2.1] at q
            exact absurd q (nI_ge hj (by omega))
          · rw [nI_1]
            refine ihj fun j' hj' => ?_
            by_cases he : j' = j
            · rw [he]; intro z; rw [r6] at q; exact q z.1
            · exact hno j' (by omega)
          · rw [r6] at q
            have hb : mf (fun f => (u 83 (250 * i + 5 * π j + f)).toNatClampNeg) 5 ≤ 100 := mf_le fun f hf => (hrn.cs hj f hf).1
            refine c_Route_least r3 (fun f hf => (hrn.cs hj f hf).1) (fun f hf => (hrn.cs hj f hf).2) fun _ => ⟨fun q2 => ?_, fun q2 => ?_⟩
            · rw [cm1 (by omega)] at q2
              rw [nI_1]
              refine ihj fun j' hj' => ?_
              by_cases he : j' = j
              · rw [he]; intro z; omega
              · exact hno j' (by omega)
            · rw [cm1 (by omega)] at q2
              rw [if_pos (hrB_iff.mpr ((hrP_rows hrn).mpr ⟨j, hj, q, by omega⟩))] at hz
              exact hz
      exact inner 0 (Nat.zero_le _) (fun j' q => absurd q (Nat.not_lt_zero _))
  exact key 5 (Nat.le_refl _) n hn h
