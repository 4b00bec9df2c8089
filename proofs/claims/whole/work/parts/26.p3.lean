theorem pair_waiting (g : sg) (u : MS) (x y : Int32) (hr : RL g u) : PairI 0 M_Net_waiting M_Mod_waiting [qi x, qi y] g u := by
  have hr0 := hr
  obtain ⟨S, P, N, R, Q, hsh, hT, hN, hW, hG, hRR, hS, hE, h⟩ := hr
  cases hb : inN x 5 with
  | false => exact ⟨-1, u, fun Z hz => mt_Mod_waiting (c_Mod_isNode ⟨fun _ => hz, fun c => absurd (b2_f hb) c⟩), fun X Z hz => t_Net_waiting (c_Net_isNode fun _ => ⟨fun c => absurd (b2_f hb) c, fun _ => hz g hr0⟩)⟩
  | true =>
    have n0 : ¬ b2 (inN x 5) = 0 := by rw [b2_t hb]; decide
    obtain ⟨i, hi, rfl⟩ := inN_of (by decide) hb
    have vi : vp_in (nI i) 5 := (vpi (by omega)).mpr hi
    have cl : (nI i).toNatClampNeg = i := nI_clamp (by omega)
    have a6 := hsh.2.1.2.2.1
    have nd := hsh.1.2.1 i hi
    by_cases y0 : y = 0
    · subst y0
      obtain ⟨c, ε, e1, e2, e3, -⟩ := hE.2.2.2 i hi
      exact ⟨nI c, u, fun Z hz => mt_Mod_waiting (c_Mod_isNode ⟨fun c => absurd c n0, fun _ => ⟨fun c => absurd c (by decide), fun _ => ⟨fun _ => ⟨fun c => absurd rfl c, fun _ => ⟨vi, by rw [cl, e3]; exact hz⟩⟩, fun c => absurd (by decide) c⟩⟩⟩), fun X Z hz => t_Net_waiting (c_Net_isNode fun _ => ⟨fun _ => ⟨fun c => absurd rfl c, fun _ => ⟨a6, vi, i, by rw [cl]; exact nd, i, (hsh.1.2.2.2 i hi).2.2.1, by rw [e2]; exact hz g hr0⟩⟩, fun c => absurd c n0⟩)⟩
    · by_cases y1 : y = 1
      · subst y1
        obtain ⟨c, e1, e2, e3, -⟩ := hS.2.2 i hi
        exact ⟨nI c, u, fun Z hz => mt_Mod_waiting (c_Mod_isNode ⟨fun c => absurd c n0, fun _ => ⟨fun c => absurd c (by decide), fun _ => ⟨fun _ => ⟨fun _ => ⟨fun c => absurd rfl c, fun _ => ⟨vi, by rw [cl, e3]; exact hz⟩⟩, fun c => absurd c (by decide)⟩, fun c => absurd (by decide) c⟩⟩⟩), fun X Z hz => t_Net_waiting (c_Net_isNode fun _ => ⟨fun _ => ⟨fun _ => ⟨fun c => absurd rfl c, fun _ => ⟨a6, vi, i, by rw [cl]; exact nd, i, (hsh.1.2.2.2 i hi).2.1, by rw [e2]; exact hz g hr0⟩⟩, fun c => absurd c (by decide)⟩, fun c => absurd c n0⟩)⟩
      · by_cases yb : y < 0
        · exact ⟨-1, u, fun Z hz => mt_Mod_waiting (c_Mod_isNode ⟨fun c => absurd c n0, fun _ => ⟨fun _ => hz, fun c => absurd yb c⟩⟩), fun X Z hz => t_Net_waiting (c_Net_isNode fun _ => ⟨fun _ => ⟨fun _ => ⟨fun _ => ⟨fun _ => hz g hr0, fun c => absurd (Int32.lt_trans yb (by decide)) c⟩, fun c => absurd c y1⟩, fun c => absurd c y0⟩, fun c => absurd c n0⟩)⟩
        · by_cases y5 : y ≤ 5
          · obtain ⟨j, hj, rfl⟩ := nI_of2 (n := 5) (by decide) yb y5
            have j2 : 2 ≤ j := by
              rcases Nat.lt_or_ge j 2 with hh | hh
              · rcases (show j = 0 ∨ j = 1 by omega) with rfl | rfl
                · exact absurd rfl y0
                · exact absurd rfl y1
              · exact hh
            have ex : (4 : Int32) * nI i + nI j - 2 = nI (4 * i + (j - 2)) := by
              rw [nl_4, pk_mul, nI_add, nl_2, pk_sub (by omega)]
              congr 1; omega
            have ey : nI j - 2 = nI (j - 2) := by rw [nl_2, pk_sub j2]
            obtain ⟨w0, w1, w2, w, w3, w4, w5, -⟩ := hW (4 * i + (j - 2)) (by omega)
            refine ⟨nI w, u, fun Z hz => mt_Mod_waiting (c_Mod_isNode ⟨fun c => absurd c n0, fun _ => ⟨fun c => absurd c yb, fun _ => ⟨fun _ => ⟨fun _ => ⟨fun _ => ⟨?_, ?_⟩, fun c => absurd c y1⟩, fun c => absurd c y0⟩, fun c => absurd y5 c⟩⟩⟩),
              fun X Z hz => t_Net_waiting (c_Net_isNode fun _ => ⟨fun _ => ⟨fun _ => ⟨fun _ => ⟨fun c => absurd c ?_, fun _ => ⟨fun _ => ⟨a6, vi, i, by rw [cl]; exact nd, (hsh.2.2.1 i hi).1, ?_, 4 * i + (j - 2), ?_, by rw [w4]; exact hz g hr0⟩, fun c => absurd y5 c⟩⟩, fun c => absurd c y1⟩, fun c => absurd c y0⟩, fun c => absurd c n0⟩)⟩
            · rw [ex]; exact (vpi (by omega)).mpr (by omega)
            · rw [ex, nI_clamp (by omega), w5]; exact hz
            · rw [nl_2]; exact nI_nlt j2 (by omega)
            · rw [ey]; exact (vpi (by omega)).mpr (by omega)
            · rw [ey, nI_clamp (by omega)]; exact hsh.1.2.2.1 i (j - 2) hi (by omega)
          · have h2 : ¬ y < 2 := fun c => y5 (Int32.le_of_lt (Int32.lt_trans c (by decide)))
            exact ⟨-1, u, fun Z hz => mt_Mod_waiting (c_Mod_isNode ⟨fun c => absurd c n0, fun _ => ⟨fun c => absurd c yb, fun _ => ⟨fun c => absurd c y5, fun _ => hz⟩⟩⟩), fun X Z hz => t_Net_waiting (c_Net_isNode fun _ => ⟨fun _ => ⟨fun _ => ⟨fun _ => ⟨fun c => absurd c h2, fun _ => ⟨fun c => absurd c y5, fun _ => hz g hr0⟩⟩, fun c => absurd c y1⟩, fun c => absurd c y0⟩, fun c => absurd c n0⟩)⟩
/-- where a name stands in a node's store -/
def plF (u : MS) (i c : Nat) (x : Int32) : Int32 := fst (fun j => decide (u 85 (6 * i + j) = x)) 0 c
def stA (x : Int32) (i : Nat) : Int32 := if x = -1 then -1 else x + nI (6 * i)
theorem c_Mod_inStore {u : MS} {i c : Nat} {x : Int32} {Z : Int32 → MS → Prop} (hi : i < 5) (hc : c ≤ 6) (h84 : u 84 i = nI c) (h : Z (stA (plF u i c x) i) u) : mMT M_Mod_inStore [qr 1 (some 0), qi (nI i), qi x] u (mI Z) := by
  have vi : vp_in (nI i) 5 := (vpi (by omega)).mpr hi
  have cl : (nI i).toNatClampNeg = i := nI_clamp (by omega)
  have e6 : (6 : Int32) * nI i = nI (6 * i) := by rw [nl_6, pk_mul]
  refine mt_Mod_inStore ?_
  rw [e6]
  have key : ∀ j, j ≤ c → Z (stA (fst (fun j => decide (u 85 (6 * i + j) = x)) j (c - j)) i) u → mWP M_Mod_inStore 5 [qr 1 (some 0), qi (nI i), qi x, qi (nI (6 * i + j))] [] u (mI Z) := by
    refine dn c ?_ ?_
    · intro hz
      refine mb_Mod_inStore_5 ⟨vi, fun _ => ?_, fun hc => absurd ?_ hc⟩
      · simpa [fst, stA] using hz
      · rw [cl, h84, e6, nI_add]; exact nI_le (Nat.le_refl _) (by omega)
    · intro j hj ih hz
      rw [show c - j = (c - (j + 1)) + 1 by omega] at hz
      refine mb_Mod_inStore_5 ⟨vi, fun hc => ?_, fun _ => ⟨(vpi (by omega)).mpr (by omega), fun h1 => ?_, fun h1 => ?_⟩⟩
      · rw [cl, h84, e6, nI_add] at hc
        exact absurd hc (nI_ge (by omega) (by omega))
      · rw [nI_clamp (by omega)] at h1
        refine meq (ih ?_) (by rw [nI_1]; rfl)
        simpa [fst, h1] using hz
      · rw [nI_clamp (by omega)] at h1
        have : stA (nI j) i = nI (6 * i + j) := by
          unfold stA
          rw [if_neg (nI_m1 (by omega)), nI_add]; congr 1; omega
        rw [← this]
        simpa [fst, h1] using hz
  exact key 0 (Nat.zero_le _) h
theorem c_Store_placeOf {X : Nat × (Nat → Int32)} {k N S i c : Nat} {g : sg} {u : MS} {x : Int32} {Z : Int32 → sg → Prop} (hi : i < 5) (hc : c ≤ S) (hS6 : S ≤ 6) (hA : gA g 768 i = some S) (h770 : gI g 770 i 0 = nI c) (hd : ∀ j, j < c → ∃ p, gR g 768 i j = some p ∧ gI g 449 p 0 = u 85 (6 * i + j)) (h : Z (plF u i c x) g) : nnMT X M_Store_placeOf k [qr 12 (some i), qi x] g (zI Z) := by
  refine t_Store_placeOf ?_
  have key : ∀ j, j ≤ c → Z (fst (fun j => decide (u 85 (6 * i + j) = x)) j (c - j)) g → nnWP X M_Store_placeOf k 2 [qr 12 (some i), qi x, qi (nI j)] [] g (zI Z) := by
    refine dn c ?_ ?_
    · intro hz
      refine b_Store_placeOf_2 ⟨fun _ => ?_, fun hc => absurd ?_ hc⟩
      · simpa [fst] using hz
      · rw [h770]; exact nI_le (Nat.le_refl _) (by omega)
    · intro j hj ih hz
      rw [show c - j = (c - (j + 1)) + 1 by omega] at hz
      obtain ⟨p, p1, p2⟩ := hd j hj
      refine b_Store_placeOf_2 ⟨fun hc => ?_, fun _ => ⟨S, hA, (vpi (by omega)).mpr (by omega), p, by rw [nI_clamp (by omega)]; exact p1, fun h1 => ?_, fun h1 => ?_⟩⟩
      · rw [h770] at hc
        exact absurd hc (nI_ge hj (by omega))
      · rw [p2] at h1
        rw [nI_1]
        refine ih ?_
        simpa [fst, h1] using hz
      · rw [p2] at h1
        simpa [fst, h1] using hz
  exact key 0 (Nat.zero_le _) h
theorem pair_stored (g : sg) (u : MS) (x y : Int32) (hr : RL g u) : PairI 0 M_Net_stored M_Mod_stored [qi x, qi y] g u := by
  have hr0 := hr
  obtain ⟨S, P, N, R, Q, hsh, hT, hN, hW, hG, hRR, hS, hE, h⟩ := hr
  cases hb : inN x 5 with
  | false => exact ⟨-1, u, fun Z hz => mt_Mod_stored (c_Mod_isNode ⟨fun _ => ⟨fun c => absurd c (by decide), fun _ => hz⟩, fun c => absurd (b2_f hb) c⟩), fun X Z hz => t_Net_stored (c_Net_isNode fun _ => ⟨fun _ => hz g hr0, fun c => absurd (b2_f hb) c⟩)⟩
  | true =>
    have n0 : ¬ b2 (inN x 5) = 0 := by rw [b2_t hb]; decide
    obtain ⟨i, hi, rfl⟩ := inN_of (by decide) hb
    have vi : vp_in (nI i) 5 := (vpi (by omega)).mpr hi
    have cl : (nI i).toNatClampNeg = i := nI_clamp (by omega)
    obtain ⟨c, e1, e2, e3, e4, e5⟩ := hS.2.2 i hi
    have hS6 := hS.1
    have hcls : ∀ (X : Nat × (Nat → Int32)) (Z : Int32 → sg → Prop), Z (plF u i c y) g → nnMT X M_Net_stored 0 [qr 0 (some 0), qi (nI i), qi y] g (zI Z) := fun X Z hz => t_Net_stored (c_Net_isNode fun _ => ⟨fun c => absurd c n0, fun _ => ⟨hsh.2.1.2.2.1, vi, i, by rw [cl]; exact hsh.1.2.1 i hi, i, (hsh.1.2.2.2 i hi).2.1, c_Store_placeOf (N := N) hi e1 hS6 (hsh.2.2.1 i hi).2.2.1 e2 (fun j hj => by
      obtain ⟨⟨p, p1, p2⟩, -⟩ := e4 j hj
      exact ⟨p, p1, p2.2.2.1⟩) fun _ => hz⟩⟩)
    refine ⟨plF u i c y, u, fun Z hz => mt_Mod_stored (c_Mod_isNode ⟨fun c => absurd c n0, fun _ => c_Mod_isName hN.2.2.2.1 ⟨fun q => ⟨fun c => absurd c (by decide), fun _ => ?_⟩, fun _ => c_Mod_inStore hi (by omega) e3 ⟨fun q => ?_, fun q => ?_⟩⟩⟩), fun X Z hz => hcls X Z (hz g hr0)⟩
    · have hf : inN y N = false := by
        cases hh : inN y N with
        | false => rfl
        | true => rw [hh] at q; cases q
      have : plF u i c y = -1 := fst_no fun j _ hj => by
        obtain ⟨⟨p, p1, p2⟩, -⟩ := e4 j (by omega)
        obtain ⟨n, hn, hne⟩ := p2.2.2.2.2.2
        refine decide_eq_false fun hh => ?_
        rw [hne] at hh
        rw [← hh, inN_nI hn (by have := hN.2.1; omega)] at hf
        cases hf
      rw [← this]; exact hz
    · rcases fst_cases (fun j => decide (u 85 (6 * i + j) = y)) c 0 with ⟨f1, -⟩ | ⟨j, f1, f2, f3, f4, f5⟩
      · have : stA (plF u i c y) i = -1 := by unfold stA plF; rw [f1]; rfl
        rw [this] at q
        exact absurd q (by decide)
      · have e : plF u i c y = nI j := f5
        have e' : stA (nI j) i = nI (j + 6 * i) := by
          unfold stA
          rw [if_neg (nI_m1 (by omega)), nI_add]
        rw [e, e', nl_6, pk_mul, pk_sub (by omega), show j + 6 * i - 6 * i = j by omega, ← e]
        exact hz
    · rcases fst_cases (fun j => decide (u 85 (6 * i + j) = y)) c 0 with ⟨f1, -⟩ | ⟨j, f1, f2, f3, f4, f5⟩
      · have : plF u i c y = -1 := f1
        rw [← this]; exact hz
      · have e : plF u i c y = nI j := f5
        have e' : stA (nI j) i = nI (j + 6 * i) := by
          unfold stA
          rw [if_neg (nI_m1 (by omega)), nI_add]
        rw [e, e'] at q
        exact absurd (nI_pos' (by omega)) q
