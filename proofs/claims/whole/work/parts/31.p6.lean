theorem c_Face_first {X : Nat × (Nat → Int32)} {kk e w : Nat} {g : sg} {Z : Option Nat → sg → Prop} (hw : w ≤ 8) (hA : gA g 195 e = some 8) (h196 : gI g 196 e 0 = nI w) (h : Z (if w = 0 then none else gR g 195 e 0) g) : nnMT X M_Face_first kk [qr 3 (some e)] g (zR 7 Z) := by
  refine t_Face_first ⟨fun c => ?_, fun c => ⟨hA, ?_⟩⟩
  · rw [h196, nI_le0 (by omega)] at c
    rw [if_pos c] at h; exact h
  · rw [h196, nI_le0 (by omega)] at c
    rw [if_neg c] at h; exact h
theorem pair_alter (g : sg) (u : MS) (x y z : Int32) (hr : RL g u) (hz01 : z = 0 ∨ z = 1) : PairI 0 M_Net_alter M_Mod_alter [qi x, qi y, qi z] g u := by
  have hr0 := hr
  obtain ⟨S, P, N, R, Q, hr9⟩ := hr
  have hr9' := hr9
  obtain ⟨hsh, hT, hN, hW, h⟩ := hr9
  cases hb1 : (inN x 5 && inN y 4) with
  | false => exact ⟨0, u, fun Z hz => mt_Mod_alter (c_Mod_isWire ⟨fun _ => hz, fun c => absurd (b2_f hb1) c⟩), fun X Z hz => t_Net_alter (c_Net_linkFace hsh fun _ => ⟨fun _ => hz g hr0, fun a h1 => by rw [lfO_no hb1] at h1; cases h1⟩)⟩
  | true =>
    have n1 : ¬ b2 (inN x 5 && inN y 4) = 0 := by rw [b2_t hb1]; decide
    obtain ⟨i, f, hi, hf, rfl, rfl⟩ := wire_of hb1
    obtain ⟨e, he0⟩ : ∃ e, e = 4 * i + f := ⟨_, rfl⟩
    have he : e < 20 := by omega
    have v1 : vp_in (nI e) 20 := (vpi (by omega)).mpr he
    have l1 : (nI e).toNatClampNeg = e := nI_clamp (by omega)
    have hlf := lfO_at hi hf
    have ee := e4 i f
    rw [← he0] at hlf ee
    have hA := hsh.2.2.2.1 e he
    obtain ⟨a0, a1, a2, w, a3, a4, a5, a6, a7⟩ := hW e he
    by_cases c0 : w = 0
    · subst c0
      refine ⟨0, u, fun Z hz => mt_Mod_alter (c_Mod_isWire ⟨fun c => absurd c n1, fun _ => ?_⟩), fun X Z hz => t_Net_alter (c_Net_linkFace hsh fun _ => ⟨fun _ => hz g hr0, fun a h1 => ?_⟩)⟩
      · rw [ee, l1]
        exact ⟨v1, fun _ => hz, fun c => absurd a5 c⟩
      · rw [hlf] at h1; cases h1
        exact c_Face_first (w := 0) (by omega) hA a4 fun _ => ⟨fun _ => hz g hr0, fun a2 h2 => by cases h2⟩
    · obtain ⟨w', rfl⟩ : ∃ w', w = w' + 1 := ⟨w - 1, by omega⟩
      obtain ⟨p, p1, p2⟩ := a7 0 (by omega)
      have n76 : ¬ u 76 e = 0 := by rw [a5]; exact nI_ne0 (by omega) (by omega)
      have u75 : u 75 e = 1 := a6 (by omega)
      have hfirst : ∀ (X : Nat × (Nat → Int32)) (Z : Int32 → sg → Prop), ((z = 0 → Z 1 (dropG g e w' w')) ∧ (¬ z = 0 → Z (b2 (!decide (gI g 194 e 0 = 0) && decide (w' + 1 < 8))) (putG g e p))) → nnMT X M_Net_alter 0 [qr 0 (some 0), qi (nI i), qi (nI f), qi z] g (zI Z) := by
        intro X Z hh
        refine t_Net_alter (c_Net_linkFace hsh fun _ => ⟨fun c => ?_, fun a h1 => ?_⟩)
        · rw [hlf] at c; cases c
        · rw [hlf] at h1; cases h1
          refine c_Face_first (w := w' + 1) a3 hA a4 fun _ => ?_
          rw [if_neg (by omega)]
          refine ⟨fun c => ?_, fun a2 h2 => ?_⟩
          · rw [p1] at c; cases c
          · refine ⟨fun c => c_Face_dropFirst (by omega) hA a4 fun _ => hh.1 c, fun c => ?_⟩
            refine c_Face_first (w := w' + 1) a3 hA a4 fun _ => ?_
            rw [if_neg (by omega), p1]
            refine c_Face_put a3 hA a4 fun _ => ⟨?_, hh.2 c⟩
            cases hq : (!decide (gI g 194 e 0 = 0) && decide (w' + 1 < 8)) with
            | false => exact Or.inl rfl
            | true => exact Or.inr rfl
      have g194 : ¬ gI g 194 e 0 = 0 := by rw [a0, u75]; decide
      rcases hz01 with rfl | rfl
      · refine ⟨1, takeU u e w', fun Z hz => mt_Mod_alter (c_Mod_isWire ⟨fun c => absurd c n1, fun _ => ?_⟩), fun X Z hz => hfirst X Z ⟨fun _ => hz _ ⟨S, P, N, R, Q, rl_take hr9' he (by omega) a5⟩, fun c => absurd rfl c⟩⟩
        rw [ee, l1]
        refine ⟨v1, fun c => absurd c n76, fun _ => ⟨fun _ => mb_Mod_alter_42 ⟨fun _ => ?_, fun c => absurd rfl c⟩, fun c => absurd rfl c⟩⟩
        rw [ee]
        exact c_Mod_take he (by omega) a5 hz
      · by_cases c8 : w' + 1 = 8
        · refine ⟨0, u, fun Z hz => mt_Mod_alter (c_Mod_isWire ⟨fun c => absurd c n1, fun _ => ?_⟩), fun X Z hz => hfirst X Z ⟨fun c => absurd c (by decide), fun _ => ?_⟩⟩
          · rw [ee, l1]
            exact ⟨v1, fun c => absurd c n76, fun _ => ⟨fun c => absurd c (by decide), fun _ => ⟨fun c => absurd (by rw [a5, c8]; rfl) c, fun _ => hz⟩⟩⟩
          · have hp : putG g e p = g := if_pos (Or.inr (by rw [a4, c8]; decide))
            rw [hp, b2_f (by simp [show ¬ w' + 1 < 8 by omega])]
            exact hz g hr0
        · refine ⟨1, putU u e (u 77 (40 * e)) (u 77 (40 * e + 1)) (u 77 (40 * e + 2)) (u 77 (40 * e + 3)) (u 77 (40 * e + 4)), fun Z hz => mt_Mod_alter (c_Mod_isWire ⟨fun c => absurd c n1, fun _ => ?_⟩), fun X Z hz => hfirst X Z ⟨fun c => absurd c (by decide), fun _ => ?_⟩⟩
          · rw [ee, l1]
            refine ⟨v1, fun c => absurd c n76, fun _ => ⟨fun c => absurd c (by decide), fun _ => ⟨fun _ => mb_Mod_alter_42 ⟨fun c => absurd c (by decide), fun _ => ?_⟩, fun c => ?_⟩⟩⟩
            · have eb : (40 : Int32) * nI e = nI (40 * e) := by rw [nl_40, pk_mul]
              have e1 : nI (40 * e) + 1 = nI (40 * e + 1) := nI_1 _
              have e2 : nI (40 * e) + 2 = nI (40 * e + 2) := nI_add _ 2
              have e3 : nI (40 * e) + 3 = nI (40 * e + 3) := nI_add _ 3
              have e4 : nI (40 * e) + 4 = nI (40 * e + 4) := nI_add _ 4
              rw [ee, eb, e1, e2, e3, e4, nI_clamp (show 40 * e < 2 ^ 31 by omega), nI_clamp (show 40 * e + 1 < 2 ^ 31 by omega), nI_clamp (show 40 * e + 2 < 2 ^ 31 by omega), nI_clamp (show 40 * e + 3 < 2 ^ 31 by omega), nI_clamp (show 40 * e + 4 < 2 ^ 31 by omega)]
              exact ⟨(vpi (by omega)).mpr (by omega), (vpi (by omega)).mpr (by omega), (vpi (by omega)).mpr (by omega), (vpi (by omega)).mpr (by omega), (vpi (by omega)).mpr (by omega), c_Mod_put he a3 a5 hz⟩
            · rw [a5, nl_8, nI_eq (by omega) (by omega)] at c
              exact absurd c c8
          · rw [b2_t (by simp [g194, show w' + 1 < 8 by omega])]
            exact hz _ ⟨S, P, N, R, Q, rl_put hr9' he p2⟩
/-! packets -/
def mkP (g : sg) (k n : Int32) : sg := pI (pI (pN g 7) 448 (gC g 7) 0 k) 449 (gC g 7) 0 n
/-- what making a packet leaves -/
def agP (g g' : sg) : Prop := (∀ c, c ≠ 7 → gC g' c = gC g c) ∧ gC g' 7 = gC g 7 + 1 ∧ (∀ f a i, ¬ (f / 64 = 7 ∧ a = gC g 7) → gI g' f a i = gI g f a i) ∧ (∀ f a i, ¬ (f / 64 = 7 ∧ a = gC g 7) → gR g' f a i = gR g f a i) ∧ ∀ f a, ¬ (f / 64 = 7 ∧ a = gC g 7) → gA g' f a = gA g f a
theorem agP_new (g : sg) : agP g (pN g 7) := by
  refine ⟨fun c hc => ?_, ?_, fun f a i h => ?_, fun f a i h => ?_, fun f a h => ?_⟩
  · rw [gC_pN, if_neg hc]
  · rw [gC_pN, if_pos rfl]
  · rw [gI_pN, if_neg h]
  · rw [gR_pN, if_neg h]
  · rw [gA_pN, if_neg h]
theorem agP_pI {g g' : sg} (h : agP g g') {f : Nat} (hf : f / 64 = 7) (i : Nat) (x : Int32) : agP g (pI g' f (gC g 7) i x) := by
  obtain ⟨h1, h2, h3, h4, h5⟩ := h
  refine ⟨h1, h2, fun f' a j hn => ?_, h4, h5⟩
  rw [gI_pI, if_neg, h3 f' a j hn]
  rintro ⟨rfl, rfl, -⟩
  exact hn ⟨hf, rfl⟩
theorem c_Packet_init {X : Nat × (Nat → Int32)} {kk p : Nat} {g : sg} {k n : Int32} {Z : sg → Prop} (h : Z (pI (pI g 448 p 0 k) 449 p 0 n)) : nnMT X M_Packet_init kk [qr 7 (some p), qi k, qi n] g (zV Z) := t_Packet_init fun g1 h1 g2 h2 => by subst h1 h2; exact h
theorem agP.pk {g g' : sg} (h : agP g g') {p : Nat} (hp : p < gC g 7) (f i : Nat) : gI g' f p i = gI g f p i := h.2.2.1 f p i fun z => by omega
theorem rl_agP {S P N R Q : Nat} {g g' : sg} {u : MS} (h : rl9 S P N R Q g u) (ha : agP g g') : rl9 S P N R Q g' u := by
  have eI : ∀ f, ¬ f / 64 = 7 → gI g' f = gI g f := fun f hf => by funext a i; exact ha.2.2.1 f a i fun z => hf z.1
  have eR : ∀ f, ¬ f / 64 = 7 → gR g' f = gR g f := fun f hf => by funext a i; exact ha.2.2.2.1 f a i fun z => hf z.1
  have eA : ∀ f, ¬ f / 64 = 7 → gA g' f = gA g f := fun f hf => by funext a; exact ha.2.2.2.2 f a fun z => hf z.1
  have hpk : ∀ N R u p k a b c d, pkv N R g u p k a b c d → pkv N R g' u p k a b c d := by
    intro N R u p k a b c d hp
    unfold pkv at hp ⊢
    have hlt := hp.1
    have e := fun f => ha.pk hlt f 0
    rw [e, e, e, e, e, e, e, e, e, e, ha.2.1]
    exact ⟨by omega, hp.2⟩
  have hdt : ∀ N p a b c, dtv N g p a b c → dtv N g' p a b c := by
    intro N p a b c hp
    unfold dtv at hp ⊢
    have hlt := hp.1
    have e := fun f => ha.pk hlt f 0
    rw [e, e, e, e, ha.2.1]
    exact ⟨by omega, hp.2⟩
  obtain ⟨hsh, hT, hN, hW, hG, hRR, hS, hE, hQ, hF, hP⟩ := h
  refine ⟨?_, ?_, ?_, ?_, hG, ?_, ?_, ?_, ?_, ?_, ?_⟩
  · unfold shC at hsh ⊢
    simp only [eI 384 (by decide), eR 5 (by decide), eR 6 (by decide), eR 385 (by decide), eR 386 (by decide), eR 387 (by decide), eR 388 (by decide), eR 389 (by decide), eA 2 (by decide), eA 4 (by decide), eA 6 (by decide), eA 7 (by decide), eA 8 (by decide), eA 9 (by decide), eA 131 (by decide), eA 132 (by decide), eA 133 (by decide), eA 134 (by decide), eA 195 (by decide), eA 259 (by decide), eA 260 (by decide), eA 261 (by decide), eA 262 (by decide), eA 320 (by decide), eA 321 (by decide), eA 322 (by decide), eA 385 (by decide), eA 512 (by decide), eA 704 (by decide), eA 768 (by decide), eA 769 (by decide)]
    exact hsh
  · unfold rT at hT ⊢
    simp only [eI 0 (by decide), eI 1 (by decide), eI 2 (by decide), eI 3 (by decide)]
    exact hT
  · unfold rN at hN ⊢
    simp only [eI 320 (by decide), eI 321 (by decide), eI 322 (by decide), eI 323 (by decide)]
    exact hN
  · intro e he
    obtain ⟨b0, b1, b2', w', b3, b4, b5, b6, b7⟩ := hW e he
    rw [eI 194 (by decide), eI 192 (by decide), eI 193 (by decide), eI 196 (by decide), eR 195 (by decide)]
    refine ⟨b0, b1, b2', w', b3, b4, b5, b6, fun j hj => ?_⟩
    obtain ⟨p, p1, p2⟩ := b7 j hj
    exact ⟨p, p1, hpk _ _ _ _ _ _ _ _ _ p2⟩
  · unfold rR rRn at hRR ⊢
    rw [ha.1 10 (by decide)]
    simp only [eI 705 (by decide), eI 640 (by decide), eI 641 (by decide), eI 642 (by decide), eI 643 (by decide), eR 704 (by decide), eA 643 (by decide)]
    exact hRR
  · refine ⟨hS.1, hS.2.1, fun i hi => ?_⟩
    obtain ⟨c, c1, c2, c3, c4, c5⟩ := hS.2.2 i hi
    rw [eI 770 (by decide), eI 769 (by decide), eR 768 (by decide)]
    refine ⟨c, c1, c2, c3, fun j hj => ?_, c5⟩
    obtain ⟨⟨p, p1, p2⟩, p3⟩ := c4 j hj
    exact ⟨⟨p, p1, hdt _ _ _ _ _ p2⟩, p3⟩
  · unfold rE rEn enf at hE ⊢
    simp only [eI 128 (by decide), eI 129 (by decide), eI 130 (by decide), eI 131 (by decide), eI 132 (by decide), eI 133 (by decide), eI 134 (by decide), eI 513 (by decide), eR 512 (by decide)]
    exact hE
  · obtain ⟨q1, q2, q3, q4, q5, q6⟩ := hQ
    refine ⟨q1, by rw [ha.1 9 (by decide)]; exact q2, by rw [eI 10 (by decide)]; exact q3, q4, fun q hq => ?_, q6⟩
    rw [eR 9 (by decide), eI 576 (by decide), eI 577 (by decide), eI 578 (by decide), eI 579 (by decide), eI 580 (by decide), eR 581 (by decide)]
    obtain ⟨a1, a2, a3, a4, a5, a6, a7, a8⟩ := q5 q hq
    refine ⟨a1, a2, a3, a4, a5, a6, a7, ?_⟩
    rcases a8 with z | ⟨p, c, z1, z2, z3⟩
    · exact Or.inl z
    · exact Or.inr ⟨p, c, z1, hdt _ _ _ _ _ z2, z3⟩
  · unfold rF at hF ⊢
    simp only [eI 256 (by decide), eI 257 (by decide), eI 258 (by decide), eI 259 (by decide), eI 260 (by decide), eI 261 (by decide), eR 262 (by decide)]
    exact hF
  · intro n hn
    rw [eR 7 (by decide), eI 8 (by decide)]
    rcases hP n hn with z | ⟨z0, i, p, z1, z2, z3, z4, z5⟩
    · exact Or.inl z
    · exact Or.inr ⟨z0, i, p, z1, z2, z3, z4, hdt _ _ _ _ _ z5⟩
