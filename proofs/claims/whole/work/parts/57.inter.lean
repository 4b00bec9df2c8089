def enF (u : MS) (i nm fl : Nat) : Int32 := fst (fun j => decide (u 93 (6 * i + j) = nI nm) && decide (u 94 (6 * i + j) = nI fl)) 0 (u 92 i).toNatClampNeg
/-- an interest that has not gone round -/
def isU (u : MS) (Q R N i F nm fl : Nat) (z : Int32) (h0 : Nat) : MS :=
  match svF u i nm fl (u 84 i).toNatClampNeg with
  | some b => dtU (sevU u i b) Q i F (sevU u i b 85 (sevE u i)) (sevU u i b 86 (sevE u i)) (sevU u i b 87 (sevE u i)) (nI nm) (nI fl)
  | none =>
    if enF u i nm fl = -1 then
      (if u 92 i = u 65 0 then nkU u Q i F (nI nm) (nI fl) z
       else paU (akU (nwU u i (u 92 i).toNatClampNeg (nI nm) (nI fl)) (6 * i + (u 92 i).toNatClampNeg) F z (u 67 0 + u 66 0) (nI h0)) Q R N i (u 92 i).toNatClampNeg (u 92 i).toNatClampNeg nm fl z)
    else if u 96 (5 * (6 * i + (enF u i nm fl).toNatClampNeg) + F) = 0 then akU u (6 * i + (enF u i nm fl).toNatClampNeg) F z (u 67 0 + u 66 0) (nI h0)
    else paU (akU u (6 * i + (enF u i nm fl).toNatClampNeg) F z (u 67 0 + u 66 0) (nI h0)) Q R N i ((u 92 i).toNatClampNeg - 1) (enF u i nm fl).toNatClampNeg nm fl z
def inU (u : MS) (Q R N i F nm fl : Nat) (z : Int32) (h0 : Nat) : MS := if ¬ enF u i nm fl = -1 ∧ rdF u (5 * (6 * i + (enF u i nm fl).toNatClampNeg)) F z 5 = true then nkU u Q i F (nI nm) (nI fl) z else isU u Q R N i F nm fl z h0
theorem m189 {i F nm fl e h0 : Nat} {u : MS} {z l9 : Int32} {Z : MS → Prop} (hF : F < 5) (he : e < 30) (h : (l9 = 0 → Z (akU u e F z (u 67 0 + u 66 0) (nI h0))) ∧ (¬ l9 = 0 → mMT M_Mod_passOn [qr 1 (some 0), qi (nI i), qi (nI nm), qi (nI fl), qi z, qi (nI h0)] (akU u e F z (u 67 0 + u 66 0) (nI h0)) (mV fun u5 => Z u5))) : mWP M_Mod_interest 189 [qr 1 (some 0), qi (nI i), qi (nI F), qi (nI nm), qi (nI fl), qi z, qi (nI h0), qi (nI e), none, qi l9] [] u (mV Z) := by
  refine mb_Mod_interest_189 ?_
  rw [show (5 : Int32) * nI e + nI F = nI (5 * e + F) by rw [nl_5, pk_mul, nI_add], nI_clamp (show 5 * e + F < 2 ^ 31 by omega), nI_clamp (show e < 2 ^ 31 by omega)]
  refine ⟨(vpi (by omega)).mpr (by omega), fun u1 h1 u2 h2 u3 h3 => ⟨(vpi (by omega)).mpr he, fun u4 h4 => ?_⟩⟩
  have e4 : u4 = akU u e F z (u 67 0 + u 66 0) (nI h0) := by
    rw [h4, h3, h2, h1]
    rfl
  rw [e4]
  exact h
theorem c131 {X : Nat × (Nat → Int32)} {kk i F p a h0 : Nat} {g : sg} {u : MS} {z l6 : Int32} {Z : sg → Prop} (hF : F < 5) (hA : enA g a) (p3 : gI g 451 p 0 = z) (p4 : gI g 452 p 0 = nI h0) (hk : 5 ≤ kk) (n1 : gI g 1 0 0 = u 67 0) (n0 : gI g 0 0 0 = u 66 0)
    (hZ : (¬ l6 = 0 ∨ ¬ gI g 131 a F = -1 → nnMT X M_Net_passOn 5 [qr 0 (some 0), qr 6 (some i), qr 2 (some a), qi z] (akG g a F z (u 67 0 + u 66 0) (nI h0)) (zV Z)) ∧ (l6 = 0 → gI g 131 a F = -1 → Z (akG g a F z (u 67 0 + u 66 0) (nI h0)))) : nnWP X M_Net_interestComes kk 131 [qr 0 (some 0), qr 6 (some i), qi (nI F), qr 7 (some p), qr 2 (some a), none, qi l6, none] [] g (zV Z) := by
  refine b_Net_interestComes_131 ⟨fun q => (by cases q), fun a1 ha1 => ?_⟩
  cases ha1
  refine t_Entry_hasAsk ?_
  rw [nI_clamp (show F < 2 ^ 31 by omega)]
  have hput : ∀ r1 : Int32, (¬ l6 = 0 ∨ ¬ r1 = 0 → nnMT X M_Net_passOn 5 [qr 0 (some 0), qr 6 (some i), qr 2 (some a), qi z] (akG g a F z (u 67 0 + u 66 0) (nI h0)) (zV Z)) → (l6 = 0 → r1 = 0 → Z (akG g a F z (u 67 0 + u 66 0) (nI h0))) → ∃ a2, some p = some a2 ∧ nnMT X M_Entry_putAsk 0 [qr 2 (some a), qi (nI F), qi (gI g 451 a2 0), qi ((gI g 1 0 0) + (gI g 0 0 0))] g (zV fun g2 => gExt g g2 → ∀ g3, g3 = pI g2 130 a 0 (gI g2 452 a2 0) → (¬ l6 = 0 → 5 ≤ kk ∧ nnMT X M_Net_passOn 5 [qr 0 (some 0), qr 6 (some i), qr 2 (some a), qi (gI g3 451 a2 0)] g3 (zV fun g4 => gExt g3 g4 → Z g4)) ∧ (l6 = 0 → (r1 = 0 → Z g3) ∧ (¬ r1 = 0 → 5 ≤ kk ∧ nnMT X M_Net_passOn 5 [qr 0 (some 0), qr 6 (some i), qr 2 (some a), qi (gI g3 451 a2 0)] g3 (zV fun g5 => gExt g3 g5 → Z g5)))) := by
    intro r1 k1 k2
    refine ⟨p, rfl, t_Entry_putAsk ?_⟩
    rw [nI_clamp (show F < 2 ^ 31 by omega), p3, n1, n0]
    refine ⟨hA.1, (vpi (by omega)).mpr hF, fun g1 h1 => ⟨by rw [h1]; exact hA.2.1, fun g2 h2 _ g3 h3 => ?_⟩⟩
    have e452 : gI g2 452 p 0 = nI h0 := by rw [h2, h1, gI_pI, if_neg (by omega), gI_pI, if_neg (by omega)]; exact p4
    have e3 : g3 = akG g a F z (u 67 0 + u 66 0) (nI h0) := by rw [h3, e452, h2, h1]; rfl
    have e451 : gI g3 451 p 0 = z := by rw [e3, akG_I, if_neg (by omega), if_neg (by omega), if_neg (by omega)]; exact p3
    rw [e451, e3]
    exact ⟨fun q => ⟨hk, mt_mono (k1 (Or.inl q)) fun r g4 hz => ⟨hz.1, fun _ => hz.2⟩⟩, fun q => ⟨fun q2 => k2 q q2, fun q2 => ⟨hk, mt_mono (k1 (Or.inr q2)) fun r g4 hz => ⟨hz.1, fun _ => hz.2⟩⟩⟩⟩
  refine ⟨hA.1, (vpi (by omega)).mpr hF, fun q _ => hput 0 (fun q2 => hZ.1 (by rcases q2 with q2 | q2; exact Or.inl q2; exact absurd rfl q2)) (fun q2 _ => hZ.2 q2 q), fun q _ => hput 1 (fun _ => hZ.1 (Or.inr q)) (fun _ q2 => absurd q2 (by decide))⟩
