def pkS (g g' : sg) : Prop := gC g 7 ≤ gC g' 7 ∧ ∀ f p i, f / 64 = 7 → p < gC g 7 → gI g' f p i = gI g f p i
theorem pkS.rf {g : sg} : pkS g g := ⟨Nat.le_refl _, fun _ _ _ _ _ => rfl⟩
theorem pkS.tr {g g1 g2 : sg} (h : pkS g g1) (k : pkS g1 g2) : pkS g g2 := ⟨Nat.le_trans h.1 k.1, fun f p i hf hp => (k.2 f p i hf (Nat.lt_of_lt_of_le hp h.1)).trans (h.2 f p i hf hp)⟩
theorem agP.pkS {g g' : sg} (h : agP g g') : pkS g g' := ⟨by rw [h.2.1]; omega, fun f p i _ hp => h.pk hp f i⟩
theorem spG_C {g : sg} {i b p c : Nat} : ∀ f, gC (spG g i b p f) c = gC g c
  | 0 => rfl
  | f + 1 => by
    show gC (if f = b then spG g i b p f else putG (spG g i b p f) (4 * i + f) p) c = gC g c
    split
    · exact spG_C f
    · rw [putG_C]; exact spG_C f
theorem tellp {S P N R Q i b r e : Nat} {g : sg} {u : MS} (hl : rl9 S P N R Q g u) (hi : i < 5) (hb : b ≤ 4) (hr : r < R) (he1 : 1 ≤ e) (he2 : e ≤ 99) :
    ∃ v, (∀ Z : MS → Prop, Z v → mMT M_Mod_tell [qr 1 (some 0), qi (nI i), qi (nI b), qi (nI r), qi (nI e)] u (mV Z)) ∧ ∀ (X : Nat × (Nat → Int32)) (Z : sg → Prop) (xb : Int32), (∀ f, f < 4 → (nI f = xb ↔ f = b)) → (∀ g', rl9 S P N R Q g' v → pkS g g' → Z g') → nnMT X M_Packet_notice 1 [qi (u 80 r), qi (u 81 r), qi (u 82 (50 * i + r)), qi (nI e)] g (zR 7 fun r2 g2 => gExt g g2 → nnMT X M_Node_spread 0 [qr 6 (some i), qr 7 r2, qi xb] g2 (zV fun g3 => gExt g2 g3 → Z g3)) := by
  have hR := hl.2.2.2.2.1.1
  have hpk : ∀ g2 : sg, agP g g2 → gI g2 448 (gC g 7) 0 = 3 → gI g2 455 (gC g 7) 0 = u 80 r → gI g2 449 (gC g 7) 0 = u 81 r → gI g2 456 (gC g 7) 0 = u 82 (50 * i + r) → gI g2 457 (gC g 7) 0 = nI e → pkv N R g2 u (gC g 7) 3 (u 80 r) (u 81 r) (u 82 (50 * i + r)) (nI e) := by
    intro g2 ha f1 f2 f3 f4 f5
    exact ⟨by rw [ha.2.1]; omega, f1, Or.inr (Or.inr (Or.inr ⟨rfl, f2, f3, f4, f5, ⟨r, hr, rfl, rfl⟩, e, he1, he2, rfl⟩))⟩
  refine ⟨tlU u i b (u 80 r) (u 81 r) (u 82 (50 * i + r)) (nI e) 4, fun Z hZ => ?_, fun X Z xb hxb hZ => ?_⟩
  · obtain ⟨g2, hg2⟩ : ∃ g2, g2 = pI (pI (pI (pI (pI (pN g 7) 448 (gC g 7) 0 3) 449 (gC g 7) 0 (u 81 r)) 455 (gC g 7) 0 (u 80 r)) 456 (gC g 7) 0 (u 82 (50 * i + r))) 457 (gC g 7) 0 (nI e) := ⟨_, rfl⟩
    have ha : agP g g2 := by
      rw [hg2]
      exact agP_pI (agP_pI (agP_pI (agP_pI (agP_pI (agP_new _) (by decide) _ _) (by decide) _ _) (by decide) _ _) (by decide) _ _) (by decide) _ _
    have hp := hpk g2 ha (by rw [hg2]; simp [gI_pI]) (by rw [hg2]; simp [gI_pI]) (by rw [hg2]; simp [gI_pI]) (by rw [hg2]; simp [gI_pI]) (by rw [hg2]; simp [gI_pI])
    exact c_Mod_tell (rl_agP hl ha) hi hb (by omega) hp hZ
  · refine c_Packet_notice (Nat.le_refl _) fun g2 ha f1 f2 f3 f4 f5 _ => ?_
    have hl2 := rl_agP hl ha
    have hp := hpk g2 ha f1 f2 f3 f4 f5
    refine c_Node_spread hl2 hi hxb hp fun _ => ?_
    refine hZ _ (rl_tell hl2 hi hp 4 (by omega)).1 (ha.pkS.tr ⟨by rw [spG_C]; omega, fun f p k hf _ => ?_⟩)
    rw [spG_I (by omega)]
theorem c_Route_least {X : Nat × (Nat → Int32)} {kk a : Nat} {cs : Nat → Nat} {g : sg} {Z : Int32 → sg → Prop} (hA : gA g 643 a = some 5) (hc : ∀ f, f < 5 → cs f ≤ 100) (he : ∀ f, f < 5 → gI g 643 a f = nI (cs f) - 1) (h : Z (nI (mf cs 5) - 1) g) : nnMT X M_Route_least kk [qr 10 (some a)] g (zI Z) := by
  refine t_Route_least ?_
  have hb : ∀ n, n ≤ 5 → mf cs n ≤ 100 := fun n hn => mf_le fun r hr => hc r (by omega)
  have key : ∀ f, f ≤ 5 → nnWP X M_Route_least kk 4 [qr 10 (some a), qi (nI (mf cs f) - 1), qi (nI f)] [] g (zI Z) := by
    refine dn 5 (b_Route_least_4 ⟨fun _ => h, fun q => absurd (by decide) q⟩) ?_
    intro f hf ih
    have es : mf cs (f + 1) = if 0 < cs f ∧ (mf cs f = 0 ∨ cs f < mf cs f) then cs f else mf cs f := rfl
    rw [es] at ih
    have b1 := hb f (by omega)
    have b2' := hc f hf
    generalize mf cs f = B at ih b1
    refine b_Route_least_4 ⟨fun q => ?_, fun _ => ?_⟩
    · rw [nl_5, nI_leI (by omega) (by omega)] at q
      omega
    · rw [nI_clamp (show f < 2 ^ 31 by omega), he f hf, nI_1]
      refine ⟨hA, (vpi (by omega)).mpr hf, fun q => ?_, fun q => ⟨fun q1 => ?_, fun q1 => ⟨fun q2 => ?_, fun q2 => ?_⟩⟩⟩
      · rw [cm1 (by omega)] at q
        rw [if_neg (by omega)] at ih; exact ih
      · rw [cm1 (by omega)] at q
        rw [cm1 (by omega)] at q1
        rw [if_pos (by omega)] at ih; exact ih
      · rw [cm1 (by omega)] at q
        rw [cm1 (by omega)] at q1
        rw [cle (by omega) (by omega) (by omega) (by omega)] at q2
        rw [if_neg (by omega)] at ih; exact ih
      · rw [cm1 (by omega)] at q
        rw [cm1 (by omega)] at q1
        rw [cle (by omega) (by omega) (by omega) (by omega)] at q2
        rw [if_pos (by omega)] at ih; exact ih
  exact key 0 (Nat.zero_le _)
theorem mf_set {v w : Nat → Nat} {n F x : Nat} (hF : F < n) (hx : 0 < x) (hv : v F = 0 ∨ x < v F) (hw : ∀ k, k < n → w k = if k = F then x else v k) :
    (mf v n = 0 → mf w n = x) ∧ (0 < mf v n → mf v n ≤ x → mf w n = mf v n) ∧ (0 < mf v n → x < mf v n → mf w n = x) := by
  have wF := hw F hF
  rw [if_pos rfl] at wF
  rcases mf_spec w n with ⟨-, a2⟩ | ⟨a1, ⟨r, a2, a3⟩, a4⟩
  · have := a2 F hF
    omega
  · have aF := a4 F hF (by omega)
    have wr := hw r a2
    rcases mf_spec v n with ⟨b1, b2'⟩ | ⟨b1, ⟨s, b2', b3⟩, b4⟩
    · refine ⟨fun _ => ?_, fun q => by omega, fun q => by omega⟩
      have := b2' r a2
      split at wr <;> omega
    · have ws := hw s b2'
      refine ⟨fun q => by omega, fun _ q => ?_, fun _ q => ?_⟩
      · have hsF : s ≠ F := by intro e; rw [e] at b3; omega
        rw [if_neg hsF] at ws
        have := a4 s b2' (by omega)
        by_cases hrF : r = F
        · rw [if_pos hrF] at wr; omega
        · rw [if_neg hrF] at wr
          have := b4 r a2 (by omega)
          omega
      · by_cases hrF : r = F
        · rw [if_pos hrF] at wr; omega
        · rw [if_neg hrF] at wr
          have := b4 r a2 (by omega)
          omega
