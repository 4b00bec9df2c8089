/-! a tick: an entry's asks, a node's entries, the requests -/
def ovU (u : MS) (e f : Nat) : MS := fun k y => if k = 96 ∧ 5 * e ≤ y ∧ y < 5 * e + f ∧ ¬ u 96 y ≤ 0 ∧ ¬ u 67 0 < u 98 y then 0 else u k y
def lvB (u : MS) (y : Nat) : Bool := !decide (u 96 y ≤ 0) && decide (u 67 0 < u 98 y)
def lvF (u : MS) (e : Nat) : Nat → Bool
  | 0 => false
  | f + 1 => lvF u e f || lvB u (5 * e + f)
theorem ovU_0 (u : MS) (e : Nat) : ovU u e 0 = u := by
  funext k y
  exact if_neg (by omega)
theorem ovU_s (u : MS) (e f : Nat) (h : ¬ u 96 (5 * e + f) ≤ 0 ∧ ¬ u 67 0 < u 98 (5 * e + f)) : ovU u e (f + 1) = mu (ovU u e f) 96 (5 * e + f) 0 := by
  funext k y
  rw [mu_at]
  unfold ovU
  by_cases c : k = 96 ∧ y = 5 * e + f
  · obtain ⟨rfl, rfl⟩ := c
    rw [if_pos ⟨rfl, by omega, by omega, h⟩, if_pos ⟨rfl, rfl⟩]
  · rw [if_neg c]
    by_cases c2 : k = 96 ∧ 5 * e ≤ y ∧ y < 5 * e + f ∧ ¬ u 96 y ≤ 0 ∧ ¬ u 67 0 < u 98 y
    · rw [if_pos c2, if_pos ⟨c2.1, c2.2.1, by omega, c2.2.2.2⟩]
    · rw [if_neg c2, if_neg]
      rintro ⟨z1, z2, z3, z4⟩
      exact c2 ⟨z1, z2, by omega, z4⟩
theorem ovU_n (u : MS) (e f : Nat) (h : ¬ (¬ u 96 (5 * e + f) ≤ 0 ∧ ¬ u 67 0 < u 98 (5 * e + f))) : ovU u e (f + 1) = ovU u e f := by
  funext k y
  unfold ovU
  by_cases c2 : k = 96 ∧ 5 * e ≤ y ∧ y < 5 * e + f ∧ ¬ u 96 y ≤ 0 ∧ ¬ u 67 0 < u 98 y
  · rw [if_pos c2, if_pos ⟨c2.1, c2.2.1, by omega, c2.2.2.2⟩]
  · rw [if_neg c2, if_neg]
    rintro ⟨z1, z2, z3, z4⟩
    by_cases q : y = 5 * e + f
    · rw [q] at z4; exact h z4
    · exact c2 ⟨z1, z2, by omega, z4⟩
theorem ovU_at (u : MS) (e f k : Nat) : ovU u e f k (5 * e + f) = u k (5 * e + f) := if_neg (by omega)
theorem ovU_k (u : MS) (e f k y : Nat) (h : k ≠ 96) : ovU u e f k y = u k y := if_neg (fun z => h z.1)
theorem mu_id {u : MS} {k y : Nat} {x : Int32} (h : u k y = x) : mu u k y x = u := by
  funext k' y'
  rw [mu_at]
  split
  · rename_i c
    rw [c.1, c.2, h]
  · rfl
theorem c_Mod_over {u : MS} {e : Nat} {Z : Int32 → MS → Prop} (he : e < 30) (h : Z (b2 (!lvF u e 5)) (ovU u e 5)) : mMT M_Mod_over [qr 1 (some 0), qi (nI e)] u (mI Z) := by
  refine mt_Mod_over ?_
  have e5 : (5 : Int32) * nI e = nI (5 * e) := by rw [nl_5, pk_mul]
  rw [e5]
  have key : ∀ f, f ≤ 5 → mWP M_Mod_over 6 [qr 1 (some 0), qi (nI e), qi (b2 (lvF u e f)), qi (nI (5 * e + f))] [] (ovU u e f) (mI Z) := by
    refine dn 5 ?_ ?_
    · refine mb_Mod_over_6 ⟨fun _ => ?_, fun c => absurd ?_ c⟩
      · cases hl : lvF u e 5 with
        | true =>
          rw [hl] at h
          exact ⟨fun _ => h, fun c => absurd c (by decide)⟩
        | false =>
          rw [hl] at h
          exact ⟨fun c => absurd rfl c, fun _ => h⟩
      · rw [e5, nl_5, nI_add]
        exact nI_le (Nat.le_refl _) (by omega)
    · intro f hf ih
      refine mb_Mod_over_6 ⟨fun c => ?_, fun _ => ?_⟩
      · rw [e5, nl_5, nI_add] at c
        exact absurd c (nI_ge (by omega) (by omega))
      · rw [nI_clamp (show 5 * e + f < 2 ^ 31 by omega), nI_1, ovU_at, ovU_at, ovU_k _ _ _ 67 _ (by decide)]
        refine ⟨(vpi (by omega)).mpr (by omega), fun q1 u1 hu1 => ?_, fun q1 => ⟨fun q2 u1 hu1 => ?_, fun q2 u1 hu1 => ?_⟩⟩
        · rw [mu_id (ovU_at u e f 96)] at hu1
          subst hu1
          rw [ovU_at]
          rw [ovU_n u e f (fun z => z.1 q1), show lvF u e (f + 1) = lvF u e f by show (lvF u e f || lvB u (5 * e + f)) = _; unfold lvB; rw [decide_eq_true q1]; simp] at ih
          cases hl : lvF u e f with
          | true => rw [hl] at ih; exact ⟨fun _ => ih, fun c => absurd c (by decide)⟩
          | false => rw [hl] at ih; exact ⟨fun c => absurd rfl c, fun _ => ⟨fun _ => ih, fun c => absurd q1 c⟩⟩
        · rw [mu_id (ovU_at u e f 96)] at hu1
          subst hu1
          rw [ovU_at]
          rw [ovU_n u e f (fun z => z.2 q2), show lvF u e (f + 1) = true by show (lvF u e f || lvB u (5 * e + f)) = _; unfold lvB; rw [decide_eq_false q1, decide_eq_true q2]; simp] at ih
          exact ⟨fun _ => ih, fun _ => ⟨fun c => absurd c q1, fun _ => ih⟩⟩
        · rw [← ovU_s u e f ⟨q1, q2⟩] at hu1
          subst hu1
          have z0 : ovU u e (f + 1) 96 (5 * e + f) = 0 := if_pos ⟨rfl, by omega, by omega, q1, q2⟩
          rw [z0]
          rw [show lvF u e (f + 1) = lvF u e f by show (lvF u e f || lvB u (5 * e + f)) = _; unfold lvB; rw [decide_eq_false q2]; simp] at ih
          cases hl : lvF u e f with
          | true => rw [hl] at ih; exact ⟨fun _ => ih, fun c => absurd c (by decide)⟩
          | false => rw [hl] at ih; exact ⟨fun c => absurd rfl c, fun _ => ⟨fun _ => ih, fun c => absurd (by decide) c⟩⟩
  have := key 0 (Nat.zero_le _)
  rw [ovU_0] at this
  exact this
/-- a row of the reference's entries -/
def rowF (u : MS) (i j : Nat) : Nat → Nat → Int32 := fun f k => if 93 ≤ f ∧ f ≤ 95 then u f (6 * i + j) else if 96 ≤ f ∧ f ≤ 100 ∧ k < 5 then u f (5 * (6 * i + j) + k) else 0
def exR (T : Int32) (r : Nat → Nat → Int32) : Nat → Nat → Int32 := fun f k => if f = 96 ∧ ¬ r 96 k ≤ 0 ∧ ¬ T < r 98 k then 0 else r f k
def lvR (T : Int32) (r : Nat → Nat → Int32) : Nat → Bool
  | 0 => false
  | f + 1 => lvR T r f || (!decide (r 96 f ≤ 0) && decide (T < r 98 f))
def rsR (T : Int32) : List (Nat → Nat → Int32) → List (Nat → Nat → Int32)
  | [] => []
  | r :: l => if lvR T r 5 = true then exR T r :: rsR T l else rsR T l
theorem rsR_app (T : Int32) : ∀ a b, rsR T (a ++ b) = rsR T a ++ rsR T b
  | [], b => rfl
  | r :: a, b => by
    show (if lvR T r 5 = true then exR T r :: rsR T (a ++ b) else rsR T (a ++ b)) = (if lvR T r 5 = true then exR T r :: rsR T a else rsR T a) ++ rsR T b
    rw [rsR_app T a b]
    split <;> rfl
def isR (u : MS) (i c : Nat) (L : List (Nat → Nat → Int32)) : Prop := L.length = c ∧ ∀ j, j < c → L[j]? = some (rowF u i j)
theorem row_c {u v : MS} {i j i' j' : Nat} (h3 : ∀ k, 93 ≤ k → k ≤ 95 → v k (6 * i + j) = u k (6 * i' + j')) (h6 : ∀ k f, 96 ≤ k → k ≤ 100 → f < 5 → v k (5 * (6 * i + j) + f) = u k (5 * (6 * i' + j') + f)) : rowF v i j = rowF u i' j' := by
  funext f k
  unfold rowF
  by_cases c1 : 93 ≤ f ∧ f ≤ 95
  · rw [if_pos c1, if_pos c1]; exact h3 f c1.1 c1.2
  · rw [if_neg c1, if_neg c1]
    by_cases c2 : 96 ≤ f ∧ f ≤ 100 ∧ k < 5
    · rw [if_pos c2, if_pos c2]; exact h6 f k c2.1 c2.2.1 c2.2.2
    · rw [if_neg c2, if_neg c2]
theorem row_6 {u : MS} {i j k f : Nat} (k1 : 96 ≤ k) (k2 : k ≤ 100) (hf : f < 5) : rowF u i j k f = u k (5 * (6 * i + j) + f) := by
  unfold rowF
  rw [if_neg (by omega), if_pos ⟨k1, k2, hf⟩]
theorem row_3 {u : MS} {i j k f : Nat} (k1 : 93 ≤ k) (k2 : k ≤ 95) : rowF u i j k f = u k (6 * i + j) := if_pos ⟨k1, k2⟩
theorem row_ov (u : MS) (i j : Nat) : rowF (ovU u (6 * i + j) 5) i j = exR (u 67 0) (rowF u i j) := by
  funext f k
  unfold exR
  by_cases hk : k < 5
  · by_cases c1 : 93 ≤ f ∧ f ≤ 95
    · rw [row_3 c1.1 c1.2, row_3 c1.1 c1.2, ovU_k _ _ _ _ _ (by omega), if_neg (by omega)]
    · by_cases c2 : 96 ≤ f ∧ f ≤ 100
      · rw [row_6 c2.1 c2.2 hk, row_6 c2.1 c2.2 hk, row_6 (by omega) (by omega) hk, row_6 (by omega) (by omega) hk]
        unfold ovU
        by_cases c3 : f = 96 ∧ ¬ u 96 (5 * (6 * i + j) + k) ≤ 0 ∧ ¬ u 67 0 < u 98 (5 * (6 * i + j) + k)
        · rw [if_pos c3, if_pos ⟨c3.1, by omega, by omega, c3.2⟩]
        · rw [if_neg c3, if_neg (fun z => c3 ⟨z.1, z.2.2.2⟩)]
      · rw [if_neg (by omega)]
        unfold rowF
        rw [if_neg c1, if_neg c1, if_neg (by omega), if_neg (by omega)]
  · have z : rowF u i j 96 k = 0 := by unfold rowF; rw [if_neg (by omega), if_neg (by omega)]
    rw [z, if_neg (fun q => q.2.1 (by decide))]
    unfold rowF
    by_cases c1 : 93 ≤ f ∧ f ≤ 95
    · rw [if_pos c1, if_pos c1, ovU_k _ _ _ _ _ (by omega)]
    · rw [if_neg c1, if_neg c1, if_neg (by omega), if_neg (by omega)]
theorem row_ovn {u : MS} {i j i' j' : Nat} (h : 6 * i' + j' ≠ 6 * i + j) : rowF (ovU u (6 * i + j) 5) i' j' = rowF u i' j' :=
  row_c (fun k k1 k2 => ovU_k _ _ _ _ _ (by omega)) (fun k f k1 k2 hf => if_neg (by omega))
theorem lv_row (u : MS) (i j : Nat) : ∀ n, n ≤ 5 → lvR (u 67 0) (rowF u i j) n = lvF u (6 * i + j) n
  | 0, _ => rfl
  | n + 1, h => by
    show (lvR (u 67 0) (rowF u i j) n || (!decide (rowF u i j 96 n ≤ 0) && decide (u 67 0 < rowF u i j 98 n))) = (lvF u (6 * i + j) n || lvB u (5 * (6 * i + j) + n))
    rw [lv_row u i j n (by omega), row_6 (by omega) (by omega) (by omega), row_6 (by omega) (by omega) (by omega)]
    rfl
theorem isR_hd {u : MS} {i c : Nat} {pre suf : List (Nat → Nat → Int32)} {r : Nat → Nat → Int32} (h : isR u i c (pre ++ r :: suf)) : pre.length < c ∧ r = rowF u i pre.length := by
  have h1 := h.1
  rw [List.length_append, List.length_cons] at h1
  refine ⟨by omega, ?_⟩
  have h2 := h.2 pre.length (by omega)
  rw [List.getElem?_append_right (Nat.le_refl _), Nat.sub_self] at h2
  exact Option.some.inj h2
theorem isR_ov {u : MS} {i c : Nat} {pre suf : List (Nat → Nat → Int32)} {r : Nat → Nat → Int32} (h : isR u i c (pre ++ r :: suf)) : isR (ovU u (6 * i + pre.length) 5) i c (pre ++ exR (u 67 0) r :: suf) := by
  obtain ⟨h0, hr⟩ := isR_hd h
  refine ⟨by rw [← h.1]; simp, fun j hj => ?_⟩
  by_cases q : j = pre.length
  · rw [q, List.getElem?_append_right (Nat.le_refl _), Nat.sub_self, row_ov, ← hr]
    rfl
  · rw [row_ovn (by omega), ← h.2 j hj]
    rcases Nat.lt_or_ge j pre.length with z | z
    · rw [List.getElem?_append_left z, List.getElem?_append_left z]
    · rw [List.getElem?_append_right z, List.getElem?_append_right z]
      obtain ⟨d, hd⟩ : ∃ d, j - pre.length = d + 1 := ⟨j - pre.length - 1, by omega⟩
      rw [hd]; rfl
theorem isR_rm {u : MS} {i c : Nat} {pre suf : List (Nat → Nat → Int32)} {r : Nat → Nat → Int32} (h : isR u i (c + 1) (pre ++ r :: suf)) : isR (rmF u i c pre.length) i c (pre ++ suf) := by
  have h1 := h.1
  rw [List.length_append, List.length_cons] at h1
  refine ⟨by rw [List.length_append]; omega, fun j hj => ?_⟩
  rcases Nat.lt_or_ge j pre.length with z | z
  · rw [List.getElem?_append_left z]
    have := h.2 j (by omega)
    rw [List.getElem?_append_left z] at this
    rw [this]
    refine congrArg some (row_c (fun k k1 k2 => ?_) (fun k f k1 k2 hf => ?_)).symm
    · unfold rmF rmU
      rw [if_neg (by omega), if_neg (by omega), if_neg (by omega)]
    · unfold rmF rmU
      rw [if_neg (by omega), if_neg (by omega), if_neg (by omega)]
  · rw [List.getElem?_append_right z]
    have := h.2 (j + 1) (by omega)
    rw [List.getElem?_append_right (by omega), show j + 1 - pre.length = (j - pre.length) + 1 by omega, List.getElem?_cons_succ] at this
    rw [this]
    refine congrArg some (row_c (fun k k1 k2 => ?_) (fun k f k1 k2 hf => ?_)).symm
    · unfold rmF rmU
      rw [if_neg (by omega), if_pos ⟨⟨k1, k2⟩, by omega, by omega⟩]
      rfl
    · unfold rmF rmU
      rw [if_neg (by omega), if_neg (by omega), if_pos ⟨⟨k1, k2⟩, by omega, by omega⟩]
      congr 1; omega
/-- what a node's entries leave -/
def frN (i : Nat) (u v : MS) : Prop := (∀ k, ¬ (92 ≤ k ∧ k ≤ 100) → v k = u k) ∧ (∀ i', i' ≠ i → v 92 i' = u 92 i') ∧ ∀ i' j, i' ≠ i → j < 6 → rowF v i' j = rowF u i' j
theorem frN.rf {i : Nat} {u : MS} : frN i u u := ⟨fun _ _ => rfl, fun _ _ => rfl, fun _ _ _ _ => rfl⟩
theorem frN.tr {i : Nat} {u v w : MS} (h : frN i u v) (k : frN i v w) : frN i u w := ⟨fun a b => (k.1 a b).trans (h.1 a b), fun a b => (k.2.1 a b).trans (h.2.1 a b), fun a b c d => (k.2.2 a b c d).trans (h.2.2 a b c d)⟩
theorem frN_ov {u : MS} {i j : Nat} (hj : j < 6) : frN i u (ovU u (6 * i + j) 5) := by
  refine ⟨fun k hk => ?_, fun i' _ => ovU_k _ _ _ _ _ (by decide), fun i' j' h1 h2 => row_ovn (by omega)⟩
  funext y
  exact ovU_k _ _ _ _ _ (by omega)
theorem frN_rm {u : MS} {i c x : Nat} (hc : c < 6) : frN i u (rmF u i c x) := by
  refine ⟨fun k hk => ?_, fun i' hi' => ?_, fun i' j' h1 h2 => row_c (fun k k1 k2 => ?_) (fun k f k1 k2 hf => ?_)⟩
  · funext y
    unfold rmF rmU
    rw [if_neg (by omega), if_neg (by omega), if_neg (by omega)]
  · unfold rmF rmU
    rw [if_neg (by omega), if_neg (by omega), if_neg (by omega)]
  · unfold rmF rmU
    rw [if_neg (by omega), if_neg (by omega), if_neg (by omega)]
  · unfold rmF rmU
    rw [if_neg (by omega), if_neg (by omega), if_neg (by omega)]
theorem mt_node {i : Nat} (hi : i < 5) : ∀ (suf pre : List (Nat → Nat → Int32)) (u : MS) (c : Nat), c ≤ 6 → u 92 i = nI c → isR u i c (pre ++ suf) →
    ∃ v c', c' ≤ c ∧ v 92 i = nI c' ∧ isR v i c' (pre ++ rsR (u 67 0) suf) ∧ frN i u v ∧ ∀ (r : Nat) (Z : Int32 → MS → Prop), mWP M_Mod_tick 14 [qr 1 (some 0), qi (nI (r + (c - c'))), qi (nI (i + 1)), none] [] v (mI Z) → mWP M_Mod_tick 24 [qr 1 (some 0), qi (nI r), qi (nI i), qi (nI (6 * i + pre.length))] [] u (mI Z) := by
  have e6 : (6 : Int32) * nI i = nI (6 * i) := by rw [show (6 : Int32) = nI 6 from rfl, pk_mul]
  have li : (nI i).toNatClampNeg = i := nI_clamp (by omega)
  have v5 : vp_in (nI i) 5 := (vpi (by omega)).mpr hi
  intro suf
  induction suf with
  | nil =>
    intro pre u c hc h92 hR
    refine ⟨u, c, Nat.le_refl _, h92, hR, frN.rf, fun r Z hZ => mb_Mod_tick_24 ⟨v5, fun _ => ?_, fun q => absurd ?_ q⟩⟩
    · rw [nI_1]
      rw [Nat.sub_self] at hZ
      exact hZ
    · have := hR.1
      rw [List.append_nil] at this
      rw [li, h92, e6, nI_add, this]
      exact nI_le (Nat.le_refl _) (by omega)
  | cons r0 suf ih =>
    intro pre u c hc h92 hR
    obtain ⟨hj, hr0⟩ := isR_hd hR
    have hR1 := isR_ov hR
    have hfr := frN_ov (u := u) (i := i) (show pre.length < 6 by omega)
    have hlv : lvR (u 67 0) r0 5 = lvF u (6 * i + pre.length) 5 := by rw [hr0]; exact lv_row u i _ 5 (by omega)
    have hd : ∀ (r : Nat) (Z : Int32 → MS → Prop), ((b2 (!lvF u (6 * i + pre.length) 5) = 0 → mWP M_Mod_tick 24 [qr 1 (some 0), qi (nI r), qi (nI i), qi (nI (6 * i + pre.length) + 1)] [] (ovU u (6 * i + pre.length) 5) (mI Z)) ∧ (¬ b2 (!lvF u (6 * i + pre.length) 5) = 0 → mMT M_Mod_removeEntry [qr 1 (some 0), qi (nI i), qi (nI (6 * i + pre.length))] (ovU u (6 * i + pre.length) 5) (mV fun u2 => mWP M_Mod_tick 24 [qr 1 (some 0), qi (nI r + 1), qi (nI i), qi (nI (6 * i + pre.length))] [] u2 (mI Z)))) → mWP M_Mod_tick 24 [qr 1 (some 0), qi (nI r), qi (nI i), qi (nI (6 * i + pre.length))] [] u (mI Z) := by
      intro r Z hZ
      refine mb_Mod_tick_24 ⟨v5, fun q => ?_, fun _ => c_Mod_over (by omega) hZ⟩
      rw [li, h92, e6, nI_add] at q
      exact absurd q (nI_ge (by omega) (by omega))
    have t67 : ovU u (6 * i + pre.length) 5 67 0 = u 67 0 := ovU_k _ _ _ _ _ (by decide)
    have t92 : ovU u (6 * i + pre.length) 5 92 i = nI c := by rw [ovU_k _ _ _ _ _ (by decide)]; exact h92
    cases hl : lvF u (6 * i + pre.length) 5 with
    | true =>
      obtain ⟨v, c', y1, y2, y3, y4, y5⟩ := ih (pre ++ [exR (u 67 0) r0]) (ovU u (6 * i + pre.length) 5) c hc t92 (by rw [List.append_assoc]; exact hR1)
      refine ⟨v, c', y1, y2, ?_, hfr.tr y4, fun r Z hZ => hd r Z ⟨fun _ => ?_, fun q => absurd (by rw [hl]; rfl) q⟩⟩
      · show isR v i c' (pre ++ (if lvR (u 67 0) r0 5 = true then exR (u 67 0) r0 :: rsR (u 67 0) suf else rsR (u 67 0) suf))
        rw [if_pos (hlv.trans hl)]
        rw [t67, List.append_assoc] at y3
        exact y3
      · have := y5 r Z hZ
        rw [List.length_append] at this
        rw [nI_1]
        exact this
    | false =>
      obtain ⟨c0, rfl⟩ : ∃ c0, c = c0 + 1 := ⟨c - 1, by omega⟩
      have hR2 := isR_rm hR1
      have s67 : rmF (ovU u (6 * i + pre.length) 5) i c0 pre.length 67 0 = u 67 0 := by
        unfold rmF rmU
        rw [if_neg (by omega), if_neg (by omega), if_neg (by omega)]
        exact t67
      obtain ⟨v, c', y1, y2, y3, y4, y5⟩ := ih pre (rmF (ovU u (6 * i + pre.length) 5) i c0 pre.length) c0 (by omega) (if_pos ⟨rfl, rfl⟩) hR2
      refine ⟨v, c', by omega, y2, ?_, (hfr.tr (frN_rm (by omega))).tr y4, fun r Z hZ => hd r Z ⟨fun q => absurd q (by rw [hl]; decide), fun _ => c_Mod_removeEntry hi (by omega) (by omega) t92 ?_⟩⟩
      · show isR v i c' (pre ++ (if lvR (u 67 0) r0 5 = true then exR (u 67 0) r0 :: rsR (u 67 0) suf else rsR (u 67 0) suf))
        rw [if_neg (by rw [hlv, hl]; decide)]
        rw [s67] at y3
        exact y3
      · rw [nI_1]
        refine y5 (r + 1) Z ?_
        rw [show r + 1 + (c0 - c') = r + (c0 + 1 - c') by omega]
        exact hZ
/-- the class's side of an entry -/
theorem c_Entry_dae {X : Nat × (Nat → Int32)} {kk S P N R Q i j c : Nat} {ε : Nat → Nat} {g : sg} {u : MS} {Z : Int32 → sg → Prop} (h : rl9 S P N R Q g u) (hi : i < 5) (hen : rEn N P i c ε g u) (hj : j < c) (hZ : ∀ g', rl9 S P N R Q g' (ovU u (6 * i + j) 5) → rEn N P i c ε g' (ovU u (6 * i + j) 5) → Z (b2 (lvF u (6 * i + j) 5)) g') : nnMT X M_Entry_dropAsksEnded kk [qr 2 (some (ε j)), qi (u 67 0)] g (zI Z) := by
  refine t_Entry_dropAsksEnded ?_
  have key : ∀ d f, f + d = 5 → ∀ g, rl9 S P N R Q g (ovU u (6 * i + j) f) → rEn N P i c ε g (ovU u (6 * i + j) f) → nnWP X M_Entry_dropAsksEnded kk 4 [qr 2 (some (ε j)), qi (u 67 0), qi (b2 (lvF u (6 * i + j) f)), qi (nI f)] [] g (zI Z) := by
    intro d
    induction d with
    | zero =>
      intro f hf g h hen
      obtain rfl : f = 5 := by omega
      refine b_Entry_dropAsksEnded_4 ⟨fun _ => ⟨?_, hZ g h hen⟩, fun q => absurd (by decide) q⟩
      cases lvF u (6 * i + j) 5 with
      | true => exact Or.inr rfl
      | false => exact Or.inl rfl
    | succ d ih =>
      intro f hf g h hen
      have hf5 : f < 5 := by omega
      have e4 := hen.2.2.2.1 j (by have := hen.1; omega)
      have hA := h.1.en hi e4.2.1 e4.2.2
      have h6 := hen.2.2.2.2.2.1 j hj
      have hf6 := h6.2.2.2.2.2.2 f hf5
      have x96 := ovU_at u (6 * i + j) f 96
      have x98 := ovU_at u (6 * i + j) f 98
      have v96 := hf6.v.1
      rw [x96] at v96
      refine b_Entry_dropAsksEnded_4 ⟨fun q => ?_, fun _ => c_Entry_hasAsk hA hf5 hf6 fun _ => ?_⟩
      · rw [nl_5, nI_leI (by omega) (by omega)] at q
        omega
      · rw [x96, nI_1, nI_clamp (show f < 2 ^ 31 by omega)]
        rcases v96 with v0 | v1
        · have z1 := ovU_n u (6 * i + j) f (fun z => z.1 (by rw [v0]; decide))
          have z2 : lvF u (6 * i + j) (f + 1) = lvF u (6 * i + j) f := by show (lvF u (6 * i + j) f || lvB u (5 * (6 * i + j) + f)) = _; unfold lvB; rw [v0]; simp
          have ih' := ih (f + 1) (by omega) g (by rw [z1]; exact h) (by rw [z1]; exact hen)
          rw [z2] at ih'
          rw [v0]
          refine ⟨fun _ => ⟨fun q => ?_, fun q => c_Entry_hasAsk hA hf5 hf6 fun _ => ?_⟩, fun q => absurd rfl q⟩
          · cases hl : lvF u (6 * i + j) f with
            | true => rw [hl] at ih'; exact ih'
            | false => rw [hl] at q; exact absurd rfl q
          · rw [x96, v0]
            refine ⟨fun _ => ?_, fun q => absurd rfl q⟩
            rw [q] at ih'
            exact ih'
        · have a132 : gI g 132 (ε j) f = u 98 (5 * (6 * i + j) + f) := by
            rcases hf6.1 with ⟨z, -⟩ | ⟨-, -, -, z⟩
            · rw [x96, v1] at z; exact absurd z (by decide)
            · rw [z, x98]
          have n96 : ¬ u 96 (5 * (6 * i + j) + f) ≤ 0 := by rw [v1]; decide
          rw [v1, a132]
          refine ⟨fun q => absurd q (by decide), fun _ => ⟨hA.2.1, (vpi (by omega)).mpr hf5, fun q => ?_, fun q => ⟨hA.1, fun g4 hg4 => ?_⟩⟩⟩
          · have z1 := ovU_n u (6 * i + j) f (fun z => z.2 q)
            have z2 : lvF u (6 * i + j) (f + 1) = true := by show (lvF u (6 * i + j) f || lvB u (5 * (6 * i + j) + f)) = _; unfold lvB; rw [decide_eq_false n96, decide_eq_true q]; simp
            have ih' := ih (f + 1) (by omega) g (by rw [z1]; exact h) (by rw [z1]; exact hen)
            rw [z2] at ih'
            refine ⟨fun _ => ih', fun _ => c_Entry_hasAsk hA hf5 hf6 fun _ => ?_⟩
            rw [x96, v1]
            exact ⟨fun q => absurd q (by decide), fun _ => ih'⟩
          · have z1 := ovU_s u (6 * i + j) f ⟨n96, q⟩
            have z2 : lvF u (6 * i + j) (f + 1) = lvF u (6 * i + j) f := by show (lvF u (6 * i + j) f || lvB u (5 * (6 * i + j) + f)) = _; unfold lvB; rw [decide_eq_false q]; simp
            have hu : ∀ k y, ¬ (96 ≤ k ∧ k ≤ 100 ∧ y = 5 * (6 * i + j) + f) → ¬ (k = 95 ∧ y = 6 * i + j) → ovU u (6 * i + j) (f + 1) k y = ovU u (6 * i + j) f k y := by
              intro k y q1 q2
              rw [z1, mu_at, if_neg (by omega)]
            have hg : ∀ f' b k, ¬ (130 ≤ f' ∧ f' ≤ 134 ∧ b = ε j ∧ (k = f ∨ f' = 130)) → gI g4 f' b k = gI g f' b k := by
              intro f' b k q1
              rw [hg4, gI_pI, if_neg (by omega)]
            have he : enf g4 (ovU u (6 * i + j) (f + 1)) (ε j) (5 * (6 * i + j)) f := by
              refine ⟨Or.inl ⟨?_, ?_⟩, ?_⟩
              · rw [z1, mu_at, if_pos ⟨rfl, rfl⟩]
              · rw [hg4, gI_pI, if_pos ⟨rfl, rfl, rfl⟩]
              · have := hf6.2
                rw [z1, mu_at, if_neg (by omega), mu_at, if_neg (by omega), hg4, gI_pI, if_neg (by omega), gI_pI, if_neg (by omega)]
                exact this
            obtain ⟨r1, r2, -⟩ := rl_face (v := ovU u (6 * i + j) (f + 1)) h hi hen hj hf5 hg (by subst hg4; exact fun _ => rfl) (by subst hg4; exact fun _ _ => rfl) (by subst hg4; exact fun _ => rfl) hu (by rw [hg4, gI_pI, if_neg (by omega), ovU_k _ _ _ 95 _ (by decide), ← ovU_k u (6 * i + j) f 95 _ (by decide)]; exact ⟨h6.2.2.1, h6.2.2.2.2.2.1⟩) he
            have ih' := ih (f + 1) (by omega) g4 r1 r2
            rw [z2] at ih'
            refine ⟨fun q => ?_, fun q => c_Entry_hasAsk (by subst hg4; exact hA) hf5 he fun _ => ?_⟩
            · cases hl : lvF u (6 * i + j) f with
              | true => rw [hl] at ih'; exact ih'
              | false => rw [hl] at q; exact absurd rfl q
            · rw [show ovU u (6 * i + j) (f + 1) 96 (5 * (6 * i + j) + f) = 0 by rw [z1, mu_at, if_pos ⟨rfl, rfl⟩]]
              refine ⟨fun _ => ?_, fun q => absurd rfl q⟩
              rw [q] at ih'
              exact ih'
  exact key 5 0 rfl g (by rw [ovU_0]; exact h) (by rw [ovU_0]; exact hen)
theorem c_node {S P N R Q i : Nat} (hi : i < 5) : ∀ (rv suf : List (Nat → Nat → Int32)) (g : sg) (u : MS) (c : Nat) (ε : Nat → Nat), rl9 S P N R Q g u → rEn N P i c ε g u → isR u i c (rv.reverse ++ suf) →
    ∀ (X : Nat × (Nat → Int32)) (kk : Nat) (l2 : Int32) (Z : Int32 → sg → Prop), (∀ g' u' c' ε', rl9 S P N R Q g' u' → rEn N P i c' ε' g' u' → isR u' i c' (rsR (u 67 0) rv.reverse ++ suf) → frN i u u' → Z (l2 - nI c') g') → nnWP X M_Pending_dropEnded kk 9 [qr 8 (some i), qi (u 67 0), qi l2, qi (nI rv.length - 1)] [] g (zI Z) := by
  intro rv
  induction rv with
  | nil =>
    intro suf g u c ε h hen hR X kk l2 Z hZ
    refine b_Pending_dropEnded_9 ⟨fun _ => ?_, fun q => absurd (by decide) q⟩
    rw [hen.2.1]
    exact hZ g u c ε h hen hR frN.rf
  | cons r rv ih =>
    intro suf g u c ε h hen hR X kk l2 Z hZ
    have hP6 := h.2.2.2.2.2.2.2.1.2.1
    have hA512 : gA g 512 i = some P := (h.1.2.2.1 i hi).2.2.2.2.1
    rw [List.reverse_cons, List.append_assoc] at hR
    obtain ⟨hj, hr⟩ := isR_hd hR
    have hR1 := isR_ov hR
    rw [List.length_reverse] at hj hr hR1
    have hcP := hen.1
    have e4 := hen.2.2.2.1 rv.length (by omega)
    have hlv : lvR (u 67 0) r 5 = lvF u (6 * i + rv.length) 5 := by rw [hr]; exact lv_row u i _ 5 (by omega)
    have hfr := frN_ov (u := u) (i := i) (show rv.length < 6 by omega)
    have t67 : ovU u (6 * i + rv.length) 5 67 0 = u 67 0 := ovU_k _ _ _ _ _ (by decide)
    have em : ∀ x : Int32, x + (-1) = x - 1 := fun x => (Int32.sub_eq_add_neg x 1).symm
    rw [List.length_cons, nI_sub1]
    refine b_Pending_dropEnded_9 ⟨fun q => absurd q (nI_pos (by omega)), fun _ => ⟨P, hA512, (vpi (by omega)).mpr (by omega), ε rv.length, ?_, c_Entry_dae h hi hen hj fun g1 w1 w2 _ => ?_⟩⟩
    · rw [nI_clamp (by omega)]; exact e4.1
    · rw [em]
      cases hl : lvF u (6 * i + rv.length) 5 with
      | true =>
        refine ⟨fun _ => ?_, fun q => absurd q (by decide)⟩
        have := ih (exR (u 67 0) r :: suf) g1 (ovU u (6 * i + rv.length) 5) c ε w1 w2 hR1 X kk l2 Z
        rw [t67] at this
        refine this fun g' u' c' ε' y1 y2 y3 y4 => hZ g' u' c' ε' y1 y2 ?_ (hfr.tr y4)
        rw [List.reverse_cons, rsR_app, List.append_assoc]
        show isR u' i c' (rsR (u 67 0) rv.reverse ++ ((if lvR (u 67 0) r 5 = true then [exR (u 67 0) r] else []) ++ suf))
        rw [if_pos (hlv.trans hl)]
        exact y3
      | false =>
        obtain ⟨c0, rfl⟩ : ∃ c0, c = c0 + 1 := ⟨c - 1, by omega⟩
        refine ⟨fun q => absurd rfl q, fun _ => ?_⟩
        rw [nI_clamp (show rv.length < 2 ^ 31 by omega), (w2.2.2.2.1 rv.length (by omega)).1]
        refine c_Pending_takeOut hP6 (by have := (w1.1.2.2.1 i hi).2.2.2.2.1; exact this) hcP w2.2.1 (fun j hj => (w2.2.2.2.1 j hj).1) w2.2.2.2.2.1 (show rv.length ≤ c0 by omega) fun _ => ?_
        obtain ⟨m1, m2, -⟩ := rl_rm w1 hi w2 (show rv.length ≤ c0 by omega)
        have hR2 := isR_rm hR1
        rw [List.length_reverse] at hR2
        have s67 : rmF (ovU u (6 * i + rv.length) 5) i c0 rv.length 67 0 = u 67 0 := by
          unfold rmF rmU
          rw [if_neg (by omega), if_neg (by omega), if_neg (by omega)]
          exact t67
        have := ih suf _ _ c0 _ m1 m2 hR2 X kk l2 Z
        rw [s67] at this
        refine this fun g' u' c' ε' y1 y2 y3 y4 => hZ g' u' c' ε' y1 y2 ?_ ((hfr.tr (frN_rm (by omega))).tr y4)
        rw [List.reverse_cons, rsR_app, List.append_assoc]
        show isR u' i c' (rsR (u 67 0) rv.reverse ++ ((if lvR (u 67 0) r 5 = true then [exR (u 67 0) r] else []) ++ suf))
        rw [if_neg (by rw [hlv, hl]; decide)]
        exact y3
