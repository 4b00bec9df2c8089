theorem updG_id {g : sg} {a F e : Nat} {s : Int32} {cs : Nat → Nat} (hF : F < 5) (h642 : gI g 642 a 0 = s) (h643 : ∀ k, k < 5 → k ≠ F → gI g 643 a k = nI (cs k) - 1) (hc : cs F = e + 1) : pI g 643 a F (nI e) = updG g a s cs 5 := by
  unfold pI updG
  refine Prod.ext rfl (Prod.ext ?_ rfl)
  funext f b i
  dsimp only
  by_cases h : f = 643 ∧ b = a ∧ i = F
  · obtain ⟨rfl, rfl, rfl⟩ := h
    rw [if_pos ⟨rfl, rfl, rfl⟩, if_neg (by omega), if_pos ⟨rfl, rfl, hF⟩, hc, nI_sub1]
  · rw [if_neg h]
    by_cases h1 : f = 642 ∧ b = a ∧ i = 0
    · obtain ⟨rfl, rfl, rfl⟩ := h1
      rw [if_pos ⟨rfl, rfl, rfl⟩]; exact h642
    · rw [if_neg h1]
      by_cases h2 : f = 643 ∧ b = a ∧ i < 5
      · rw [if_pos h2]
        obtain ⟨rfl, rfl, h3⟩ := h2
        exact h643 i h3 (fun z => h ⟨rfl, rfl, z⟩)
      · rw [if_neg h2]
theorem updU_id {u : MS} {i r F x : Nat} {s : Int32} {cs : Nat → Nat} (hF : F < 5) (h82 : u 82 (50 * i + r) = s) (h83 : ∀ k, k < 5 → k ≠ F → u 83 (250 * i + 5 * r + k) = nI (cs k)) (hc : cs F = x) : mu u 83 (250 * i + 5 * r + F) (nI x) = updU u i r s cs 5 := by
  funext f y
  unfold mu updU
  by_cases h : f = 83 ∧ y = 250 * i + 5 * r + F
  · obtain ⟨rfl, rfl⟩ := h
    rw [if_pos ⟨rfl, rfl⟩, if_neg (by omega), if_pos ⟨rfl, by omega, by omega⟩, show 250 * i + 5 * r + F - (250 * i + 5 * r) = F by omega, hc]
  · rw [if_neg h]
    by_cases h1 : f = 82 ∧ y = 50 * i + r
    · obtain ⟨rfl, rfl⟩ := h1
      rw [if_pos ⟨rfl, rfl⟩]; exact h82
    · rw [if_neg h1]
      by_cases h2 : f = 83 ∧ 250 * i + 5 * r ≤ y ∧ y < 250 * i + 5 * r + 5
      · rw [if_pos h2]
        obtain ⟨rfl, h3, h4⟩ := h2
        have := h83 (y - (250 * i + 5 * r)) (by omega) (fun z => h ⟨rfl, by omega⟩)
        rw [show 250 * i + 5 * r + (y - (250 * i + 5 * r)) = y by omega] at this
        exact this
      · rw [if_neg h2]
theorem cltc {e c : Nat} (hc : 0 < c) (h1 : c < 2 ^ 31) (h2 : e < 2 ^ 31) : nI e < nI c - 1 ↔ e + 1 < c := by
  obtain ⟨c', rfl⟩ : ∃ c', c = c' + 1 := ⟨c - 1, by omega⟩
  rw [nI_sub1, nI_ltI h2 (by omega)]
  omega
theorem clec {e c : Nat} (hc : 0 < c) (h1 : c < 2 ^ 31) (h2 : e < 2 ^ 31) : nI c - 1 ≤ nI e ↔ c ≤ e + 1 := by
  obtain ⟨c', rfl⟩ : ∃ c', c = c' + 1 := ⟨c - 1, by omega⟩
  rw [nI_sub1, nI_leI (by omega) h2]
  omega
theorem hear_tail {S P N R Q i m j F p e : Nat} {ρ π : Nat → Nat} {g : sg} {u : MS} {c : Int32} (h : rl9 S P N R Q g u) (hi : i < 5) (hF : F < 4) (hrn : rRn R i m ρ π g u) (hj : j < m) (hne : ¬ u 80 (π j) = nI i) (hp : pkv N R g u p 3 (u 80 (π j)) (u 81 (π j)) c (nI e)) (he1 : 1 ≤ e) (he2 : e ≤ 99) :
    ∃ v, (∀ Z : MS → Prop, Z v → mMT M_Mod_hear [qr 1 (some 0), qi (nI i), qi (nI F), qi (u 80 (π j)), qi (u 81 (π j)), qi c, qi (nI e)] u (mV Z)) ∧ ∀ (X : Nat × (Nat → Int32)) (k : Nat) (Z : sg → Prop), 1 ≤ k → (∀ g', rl9 S P N R Q g' v → pkS g g' → Z g') → nnWP X M_Node_hear k 48 [qr 6 (some i), qi (nI F), qr 7 (some p), qr 10 (some (ρ j)), none, none] [] g (zV Z) := by
  have h0 := h
  obtain ⟨hsh, hT, hN, hW, hG, hRR, h'⟩ := h
  have hR := hG.1
  have h79 := hG.2.1
  obtain ⟨r1, r2, r3, r4, r5, r6, r7, r8⟩ := hrn.2.2.1 j hj
  have hfst : fst (fun r => decide (u 80 r = u 80 (π j)) && decide (u 81 r = u 81 (π j))) 0 R = nI (π j) := by
    refine fst_at (π j) (Nat.zero_le _) (by omega) (by simp) (fun s _ hs => ?_)
    cases hq : (decide (u 80 s = u 80 (π j)) && decide (u 81 s = u 81 (π j))) with
    | false => rfl
    | true =>
      simp only [Bool.and_eq_true, decide_eq_true_eq] at hq
      have := hG.2.2.2.1 s (π j) (by omega) r4 hq.1 hq.2
      omega
  obtain ⟨r, hr⟩ : ∃ r, r = π j := ⟨_, rfl⟩
  rw [← hr] at hfst hne r4 r5 r6 r7 r8 hp ⊢
  have hpp : p < gC g 7 := hp.1
  have hpk : gI g 455 p 0 = u 80 r ∧ gI g 449 p 0 = u 81 r ∧ gI g 456 p 0 = c ∧ gI g 457 p 0 = nI e := by
    rcases hp with ⟨-, -, ⟨q, -⟩ | ⟨q, -⟩ | ⟨q, -⟩ | ⟨-, q1, q2, q3, q4, -⟩⟩
    · exact absurd q (by decide)
    · exact absurd q (by decide)
    · exact absurd q (by decide)
    · exact ⟨q1, q2, q3, q4⟩
  obtain ⟨p1, p2, p3, p4⟩ := hpk
  have e50 : (50 : Int32) * nI i + nI r = nI (50 * i + r) := by rw [nl_50, pk_mul, nI_add]
  have e250 : (250 : Int32) * nI i + (5 : Int32) * nI r + nI F = nI (250 * i + 5 * r + F) := by rw [nl_250, nl_5, pk_mul, pk_mul, nI_add, nI_add]
  have c50 : (nI (50 * i + r)).toNatClampNeg = 50 * i + r := nI_clamp (by omega)
  have c250 : (nI (250 * i + 5 * r + F)).toNatClampNeg = 250 * i + 5 * r + F := nI_clamp (by omega)
  have v50 : vp_in (nI (50 * i + r)) 250 := (vpi (by omega)).mpr (by omega)
  have v250 : vp_in (nI (250 * i + 5 * r + F)) 1250 := (vpi (by omega)).mpr (by omega)
  have hxb : ∀ f, f < 4 → (nI f = nI F ↔ f = F) := fun f hf => nI_eq (by omega) (by omega)
  by_cases hs1 : u 82 (50 * i + r) ≤ c
  rotate_left
  · refine ⟨u, fun Z hZ => mt_Mod_hear (c_Mod_route h79 hR ?_), fun X k Z hk hZ => b_Node_hear_48 ⟨fun q => (by cases q), fun a1 ha1 => ?_⟩⟩
    · rw [hfst, e50, e250, c50, c250]
      exact ⟨v50, fun q => absurd q hne, fun _ => ⟨fun q => absurd q hs1, fun _ => hZ⟩⟩
    · cases ha1
      rw [r7]
      refine ⟨p, rfl, fun q => ?_, fun _ => hZ g h0 pkS.rf⟩
      rw [p3] at q
      exact absurd q hs1
  by_cases hs2 : c ≤ u 82 (50 * i + r)
  rotate_left
  · have hrl : rl9 S P N R Q (updG g (ρ j) c (bcs F e) 5) (updU u i r c (bcs F e) 5) := by
      refine ⟨hsh, hT, hN, hW, hG, ?_, h'⟩
      rw [hr] at hne ⊢
      refine rR_upd hRR hR hi hrn hj (fun f hf => ?_) (fun q => absurd q hne)
      unfold bcs
      split
      · split <;> omega
      · omega
    have eU : ∀ f k, f ≠ 82 → f ≠ 83 → updU u i r c (bcs F e) 5 f k = u f k := by
      intro f k h1 h2
      unfold updU
      rw [if_neg (fun z => h1 z.1), if_neg (fun z => h2 z.1)]
    have e82 : updU u i r c (bcs F e) 5 82 (50 * i + r) = c := if_pos ⟨rfl, rfl⟩
    have eP : ∀ f, f / 64 = 7 → gI (updG g (ρ j) c (bcs F e) 5) f p 0 = gI g f p 0 := fun f hf => updG_I (by omega)
    obtain ⟨e', he'⟩ : ∃ e', e' = if e = 99 then 99 else e + 1 := ⟨_, rfl⟩
    have he'1 : 1 ≤ e' ∧ e' ≤ 99 := by rw [he']; split <;> omega
    obtain ⟨v, t1, t2⟩ := tellp (b := F) (r := r) (e := e') hrl hi (by omega) r4 he'1.1 he'1.2
    rw [eU 80 r (by decide) (by decide), eU 81 r (by decide) (by decide), e82] at t2
    refine ⟨v, fun Z hZ => mt_Mod_hear (c_Mod_route h79 hR ?_), fun X k Z hk hZ => b_Node_hear_48 ⟨fun q => (by cases q), fun a1 ha1 => ?_⟩⟩
    · rw [hfst, e50, e250, c50, c250]
      refine ⟨v50, fun q => absurd q hne, fun _ => ⟨fun _ => c_Mod_least hi r4 hR hRR.okC ⟨fun q => absurd q hs2, fun _ => c_Mod_renew hi (by omega) ⟨fun q => ⟨v250, fun u2 hu2 => ?_⟩, fun q => ⟨v250, fun u2 hu2 => ?_⟩⟩⟩, fun q => absurd hs1 q⟩⟩
      · rw [nl_99, nI_eq (by omega) (by omega)] at q
        rw [nI_1, updU_c (by omega)] at hu2
        have eb : bcs F e = fun k => if k = F then e + 1 else 0 := by
          funext k; unfold bcs; rw [if_neg q]
        rw [← eb] at hu2
        rw [if_neg q] at he'
        subst hu2
        refine ⟨fun _ => ?_, fun q2 => ?_⟩
        · rw [nI_1, ← he']; exact t1 Z hZ
        · rw [nl_99, nI_eq (by omega) (by omega)] at q2
          exact absurd q2 q
      · rw [nl_99, nI_eq (by omega) (by omega)] at q
        rw [← nI_0, updU_c (by omega)] at hu2
        have eb : bcs F e = fun k => if k = F then 0 else 0 := by
          funext k; unfold bcs; rw [if_pos q]
        rw [← eb] at hu2
        rw [if_pos q] at he'
        subst hu2
        refine ⟨fun q2 => ?_, fun _ => ?_⟩
        · rw [nl_99, nI_eq (by omega) (by omega)] at q2
          exact absurd q q2
        · rw [nl_99, ← he']; exact t1 Z hZ
    · cases ha1
      rw [r7]
      refine ⟨p, rfl, fun _ => ⟨fun q => ?_, fun _ => ?_⟩, fun q => ?_⟩
      · rw [p3] at q
        exact absurd q hs2
      · rw [p3, p4]
        refine c_Route_begin (by omega) he2 r3 fun _ => ⟨fun q => absurd q (by decide), fun _ => ?_⟩
        rw [eP 457 rfl, eP 455 rfl, eP 449 rfl, eP 456 rfl, p1, p2, p3, p4]
        have hgs : pkS g (updG g (ρ j) c (bcs F e) 5) := ⟨Nat.le_refl _, fun f q k hf hq => updG_I (by omega)⟩
        have hfin := t2 X Z (nI F) hxb (fun g' hl hk' => hZ g' hl (hgs.tr hk'))
        refine ⟨fun q => ⟨hk, ?_⟩, fun q => ⟨hk, ?_⟩⟩
        · rw [nl_99, nI_eq (by omega) (by omega)] at q
          rw [if_neg q] at he'
          rw [nI_1, ← he']; exact hfin
        · rw [nl_99, nI_eq (by omega) (by omega)] at q
          rw [if_pos q] at he'
          rw [nl_99, ← he']; exact hfin
      · rw [p3] at q
        exact absurd hs1 q
  -- the same serial
  obtain ⟨cs, hcs⟩ : ∃ cs : Nat → Nat, cs = fun f => (u 83 (250 * i + 5 * r + f)).toNatClampNeg := ⟨_, rfl⟩
  have hcs2 : ∀ f, f < 5 → cs f ≤ 100 ∧ u 83 (250 * i + 5 * r + f) = nI (cs f) ∧ gI g 643 (ρ j) f = nI (cs f) - 1 := by
    intro f hf
    obtain ⟨c', a1, a2, a3⟩ := r8 f hf
    have : cs f = c' := by rw [hcs]; show (u 83 (250 * i + 5 * r + f)).toNatClampNeg = c'; rw [a2, nI_clamp (by omega)]
    rw [this]
    exact ⟨a1, a2, a3⟩
  have hL100 : mf cs 5 ≤ 100 := mf_le fun k hk => (hcs2 k hk).1
  have hcF := hcs2 F (by omega)
  by_cases h99 : e = 99
  · refine ⟨u, fun Z hZ => mt_Mod_hear (c_Mod_route h79 hR ?_), fun X k Z hk hZ => b_Node_hear_48 ⟨fun q => (by cases q), fun a1 ha1 => ?_⟩⟩
    · rw [hfst, e50, e250, c50, c250]
      exact ⟨v50, fun q => absurd q hne, fun _ => ⟨fun _ => c_Mod_least hi r4 hR hRR.okC ⟨fun _ => ⟨fun _ => hZ, fun q => absurd (by rw [h99]; rfl) q⟩, fun q => absurd hs2 q⟩, fun q => absurd hs1 q⟩⟩
    · cases ha1
      rw [r7]
      refine ⟨p, rfl, fun _ => ⟨fun _ => ?_, fun q => ?_⟩, fun q => ?_⟩
      · rw [p4]
        exact t_Route_improve ⟨fun _ _ => ⟨fun _ => hZ g h0 pkS.rf, fun q => absurd rfl q⟩, fun q => absurd (by rw [h99]; rfl) q⟩
      · rw [p3] at q; exact absurd hs2 q
      · rw [p3] at q; exact absurd hs1 q
  have hn99 : ¬ nI e = 99 := by rw [nl_99, nI_eq (by omega) (by omega)]; exact h99
  by_cases hu : cs F = 0 ∨ e + 1 < cs F
  rotate_left
  · refine ⟨u, fun Z hZ => mt_Mod_hear (c_Mod_route h79 hR ?_), fun X k Z hk hZ => b_Node_hear_48 ⟨fun q => (by cases q), fun a1 ha1 => ?_⟩⟩
    · rw [hfst, e50, e250, c50, c250]
      refine ⟨v50, fun q => absurd q hne, fun _ => ⟨fun _ => c_Mod_least hi r4 hR hRR.okC ⟨fun _ => ⟨fun q => absurd q hn99, fun _ => ⟨v250, fun q => ?_, fun _ => ⟨fun _ => hZ, fun q => ?_⟩⟩⟩, fun q => absurd hs2 q⟩, fun q => absurd hs1 q⟩⟩
      · rw [hcF.2.1, nl_0, nI_eq (by omega) (by omega)] at q
        omega
      · rw [hcF.2.1, nI_1, nI_leI (by omega) (by omega)] at q
        omega
    · cases ha1
      rw [r7]
      refine ⟨p, rfl, fun _ => ⟨fun _ => ?_, fun q => ?_⟩, fun q => ?_⟩
      · rw [p4]
        refine t_Route_improve ⟨fun q => absurd q hn99, fun _ => ?_⟩
        rw [nI_clamp (show F < 2 ^ 31 by omega), hcF.2.2]
        refine ⟨r3, (vpi (by omega)).mpr (by omega), fun q => ?_, fun q => ⟨fun q2 => ?_, fun _ _ => ⟨fun _ => hZ g h0 pkS.rf, fun q => absurd rfl q⟩⟩⟩
        · rw [cm1 (by omega)] at q
          omega
        · rw [cltc (by omega) (by omega) (by omega)] at q2
          omega
      · rw [p3] at q; exact absurd hs2 q
      · rw [p3] at q; exact absurd hs1 q
  -- the cost is better
  obtain ⟨cw, hcw⟩ : ∃ cw : Nat → Nat, cw = fun k => if k = F then e + 1 else cs k := ⟨_, rfl⟩
  have hcwF : cw F = e + 1 := by rw [hcw]; exact if_pos rfl
  have hcwk : ∀ k, k ≠ F → cw k = cs k := fun k hk => by rw [hcw]; exact if_neg hk
  have hU : mu u 83 (250 * i + 5 * r + F) (nI (e + 1)) = updU u i r (u 82 (50 * i + r)) cw 5 := updU_id (by omega) rfl (fun k hk hkF => by rw [hcwk k hkF]; exact (hcs2 k hk).2.1) hcwF
  have hGu : pI g 643 (ρ j) F (nI e) = updG g (ρ j) (u 82 (50 * i + r)) cw 5 := updG_id (by omega) r7 (fun k hk hkF => by rw [hcwk k hkF]; exact (hcs2 k hk).2.2) hcwF
  have hcw100 : ∀ f, f < 5 → cw f ≤ 100 := by
    intro f hf
    by_cases hfF : f = F
    · rw [hfF, hcwF]; omega
    · rw [hcwk f hfF]; exact (hcs2 f hf).1
  have hrl : rl9 S P N R Q (updG g (ρ j) (u 82 (50 * i + r)) cw 5) (updU u i r (u 82 (50 * i + r)) cw 5) := by
    refine ⟨hsh, hT, hN, hW, hG, ?_, h'⟩
    rw [hr] at hne ⊢
    exact rR_upd hRR hR hi hrn hj hcw100 (fun q => absurd q hne)
  have hL' : mf (fun f => (updU u i r (u 82 (50 * i + r)) cw 5 83 (250 * i + 5 * r + f)).toNatClampNeg) 5 = mf cw 5 := by
    refine mf_congr fun f hf => ?_
    show (if (83 : Nat) = 82 ∧ _ then _ else if 83 = 83 ∧ _ then _ else _ : Int32).toNatClampNeg = _
    rw [if_neg (by omega), if_pos ⟨rfl, by omega, by omega⟩, show 250 * i + 5 * r + f - (250 * i + 5 * r) = f by omega, nI_clamp (by have := hcw100 f hf; omega)]
  obtain ⟨m1, m2, m3⟩ := mf_set (v := cs) (w := cw) (n := 5) (F := F) (x := e + 1) (by omega) (by omega) hu (fun k hk => by rw [hcw])
  have eP : ∀ f, f / 64 = 7 → gI (updG g (ρ j) (u 82 (50 * i + r)) cw 5) f p 0 = gI g f p 0 := fun f hf => updG_I (by omega)
  have hgs : pkS g (updG g (ρ j) (u 82 (50 * i + r)) cw 5) := ⟨Nat.le_refl _, fun f q k hf hq => updG_I (by omega)⟩
  have hmod : ∀ Z : MS → Prop, mMT M_Mod_least [qr 1 (some 0), qi (nI i), qi (nI r)] (updU u i r (u 82 (50 * i + r)) cw 5) (mI fun r3 u4 => (nI (mf cs 5) = 0 → mMT M_Mod_tell [qr 1 (some 0), qi (nI i), qi (nI F), qi (nI r), qi r3] u4 (mV fun u5 => Z u5)) ∧ (¬ nI (mf cs 5) = 0 → (nI (mf cs 5) ≤ r3 → Z u4) ∧ (¬ nI (mf cs 5) ≤ r3 → mMT M_Mod_tell [qr 1 (some 0), qi (nI i), qi (nI F), qi (nI r), qi r3] u4 (mV fun u6 => Z u6)))) → mMT M_Mod_hear [qr 1 (some 0), qi (nI i), qi (nI F), qi (u 80 r), qi (u 81 r), qi c, qi (nI e)] u (mV Z) := by
    intro Z hh
    refine mt_Mod_hear (c_Mod_route h79 hR ?_)
    rw [hfst, e50, e250, c50, c250]
    refine ⟨v50, fun q => absurd q hne, fun _ => ⟨fun _ => c_Mod_least hi r4 hR hRR.okC ?_, fun q => absurd hs1 q⟩⟩
    rw [← hcs]
    refine ⟨fun _ => ⟨fun q => absurd q hn99, fun _ => ⟨v250, fun q u3 hu3 => ?_, fun _ => ⟨fun q => ?_, fun _ u3 hu3 => ?_⟩⟩⟩, fun q => absurd hs2 q⟩
    · rw [nI_1, hU] at hu3
      subst hu3
      exact hh
    · rw [hcF.2.1, nI_1, nI_leI (by omega) (by omega)] at q
      rename_i q0
      rw [hcF.2.1, nl_0, nI_eq (by omega) (by omega)] at q0
      omega
    · rw [nI_1, hU] at hu3
      subst hu3
      exact hh
  have hcls : ∀ (X : Nat × (Nat → Int32)) (k : Nat) (Z : sg → Prop), ((mf cs 5 = 0 ∨ e + 1 < mf cs 5 → 1 ≤ k ∧ nnMT X M_Packet_notice 1 [qi (u 80 r), qi (u 81 r), qi (u 82 (50 * i + r)), qi (nI (e + 1))] (updG g (ρ j) (u 82 (50 * i + r)) cw 5) (zR 7 fun r2 g2 => gExt (updG g (ρ j) (u 82 (50 * i + r)) cw 5) g2 → nnMT X M_Node_spread 0 [qr 6 (some i), qr 7 r2, qi (nI F)] g2 (zV fun g3 => gExt g2 g3 → Z g3))) ∧ (¬ (mf cs 5 = 0 ∨ e + 1 < mf cs 5) → Z (updG g (ρ j) (u 82 (50 * i + r)) cw 5))) → nnWP X M_Node_hear k 48 [qr 6 (some i), qi (nI F), qr 7 (some p), qr 10 (some (ρ j)), none, none] [] g (zV Z) := by
    intro X k Z hh
    have hsc : c = u 82 (50 * i + r) := Int32.le_antisymm hs2 hs1
    refine b_Node_hear_48 ⟨fun q => (by cases q), fun a1 ha1 => ?_⟩
    cases ha1
    rw [r7]
    refine ⟨p, rfl, fun _ => ⟨fun _ => ?_, fun q => ?_⟩, fun q => ?_⟩
    · rw [p4]
      have hsp : 1 ≤ k ∧ nnMT X M_Packet_notice 1 [qi (u 80 r), qi (u 81 r), qi (u 82 (50 * i + r)), qi (nI (e + 1))] (updG g (ρ j) (u 82 (50 * i + r)) cw 5) (zR 7 fun r2 g2 => gExt (updG g (ρ j) (u 82 (50 * i + r)) cw 5) g2 → nnMT X M_Node_spread 0 [qr 6 (some i), qr 7 r2, qi (nI F)] g2 (zV fun g3 => gExt g2 g3 → Z g3)) → (¬ gI (updG g (ρ j) (u 82 (50 * i + r)) cw 5) 457 p 0 = 99 → 1 ≤ k ∧ nnMT X M_Packet_notice 1 [qi (gI (updG g (ρ j) (u 82 (50 * i + r)) cw 5) 455 p 0), qi (gI (updG g (ρ j) (u 82 (50 * i + r)) cw 5) 449 p 0), qi (gI (updG g (ρ j) (u 82 (50 * i + r)) cw 5) 456 p 0), qi (gI (updG g (ρ j) (u 82 (50 * i + r)) cw 5) 457 p 0 + 1)] (updG g (ρ j) (u 82 (50 * i + r)) cw 5) (zR 7 fun r2 g2 => gExt (updG g (ρ j) (u 82 (50 * i + r)) cw 5) g2 → nnMT X M_Node_spread 0 [qr 6 (some i), qr 7 r2, qi (nI F)] g2 (zV fun g3 => gExt g2 g3 → Z g3))) ∧ (gI (updG g (ρ j) (u 82 (50 * i + r)) cw 5) 457 p 0 = 99 → 1 ≤ k ∧ nnMT X M_Packet_notice 1 [qi (gI (updG g (ρ j) (u 82 (50 * i + r)) cw 5) 455 p 0), qi (gI (updG g (ρ j) (u 82 (50 * i + r)) cw 5) 449 p 0), qi (gI (updG g (ρ j) (u 82 (50 * i + r)) cw 5) 456 p 0), qi 99] (updG g (ρ j) (u 82 (50 * i + r)) cw 5) (zR 7 fun r2 g2 => gExt (updG g (ρ j) (u 82 (50 * i + r)) cw 5) g2 → nnMT X M_Node_spread 0 [qr 6 (some i), qr 7 r2, qi (nI F)] g2 (zV fun g3 => gExt g2 g3 → Z g3))) := by
        intro hz
        rw [eP 457 rfl, eP 455 rfl, eP 449 rfl, eP 456 rfl, p1, p2, p3, p4, hsc, nI_1]
        exact ⟨fun _ => hz, fun q => absurd q hn99⟩
      refine t_Route_improve ⟨fun q => absurd q hn99, fun _ => ?_⟩
      rw [nI_clamp (show F < 2 ^ 31 by omega), hcF.2.2]
      have hbr : ∀ g2, g2 = pI g 643 (ρ j) F (nI e) → _ := fun g2 hg2 => hg2.trans hGu
      refine ⟨r3, (vpi (by omega)).mpr (by omega), fun q => c_Route_least r3 (fun f hf => (hcs2 f hf).1) (fun f hf => (hcs2 f hf).2.2) fun _ g2 hg2 => ?_, fun q => ⟨fun q2 => c_Route_least r3 (fun f hf => (hcs2 f hf).1) (fun f hf => (hcs2 f hf).2.2) fun _ g2 hg2 => ?_, fun q2 => ?_⟩⟩
      · rw [hGu] at hg2
        subst hg2
        refine ⟨fun q3 _ => ⟨fun q4 => absurd q4 (by decide), fun _ => ?_⟩, fun q3 => ⟨fun q4 _ => ⟨fun _ => ?_, fun q5 => absurd rfl q5⟩, fun q4 _ => ⟨fun q5 => absurd q5 (by decide), fun _ => ?_⟩⟩⟩
        · rw [cm1 (by omega)] at q3
          exact hsp (hh.1 (by omega))
        · rw [cm1 (by omega)] at q3
          rw [clec (by omega) (by omega) (by omega)] at q4
          exact hh.2 (by omega)
        · rw [cm1 (by omega)] at q3
          rw [clec (by omega) (by omega) (by omega)] at q4
          exact hsp (hh.1 (by omega))
      · rw [hGu] at hg2
        subst hg2
        refine ⟨fun q3 _ => ⟨fun q4 => absurd q4 (by decide), fun _ => ?_⟩, fun q3 => ⟨fun q4 _ => ⟨fun _ => ?_, fun q5 => absurd rfl q5⟩, fun q4 _ => ⟨fun q5 => absurd q5 (by decide), fun _ => ?_⟩⟩⟩
        · rw [cm1 (by omega)] at q3
          exact hsp (hh.1 (by omega))
        · rw [cm1 (by omega)] at q3
          rw [clec (by omega) (by omega) (by omega)] at q4
          exact hh.2 (by omega)
        · rw [cm1 (by omega)] at q3
          rw [clec (by omega) (by omega) (by omega)] at q4
          exact hsp (hh.1 (by omega))
      · rw [cm1 (by omega)] at q
        rw [cltc (by omega) (by omega) (by omega)] at q2
        omega
    · rw [p3] at q; exact absurd hs2 q
    · rw [p3] at q; exact absurd hs1 q
  by_cases ht : mf cs 5 = 0 ∨ e + 1 < mf cs 5
  · have hLe : mf cw 5 = e + 1 := by
      rcases ht with q | q
      · exact m1 q
      · exact m3 (by omega) q
    obtain ⟨v, t1, t2⟩ := tellp (b := F) (r := r) (e := e + 1) hrl hi (by omega) r4 (by omega) (by omega)
    have e82 : updU u i r (u 82 (50 * i + r)) cw 5 82 (50 * i + r) = u 82 (50 * i + r) := if_pos ⟨rfl, rfl⟩
    rw [e82] at t2
    refine ⟨v, fun Z hZ => hmod Z (c_Mod_least hi r4 hR hrl.2.2.2.2.2.1.okC ?_), fun X k Z hk hZ => hcls X k Z ⟨fun _ => ⟨hk, t2 X Z (nI F) hxb fun g' hl hk' => hZ g' hl (hgs.tr hk')⟩, fun q => absurd ht q⟩⟩
    rw [hL', hLe]
    refine ⟨fun _ => t1 Z hZ, fun q => ⟨fun q2 => ?_, fun _ => t1 Z hZ⟩⟩
    rw [nl_0, nI_eq (by omega) (by omega)] at q
    rw [nI_leI (by omega) (by omega)] at q2
    omega
  · have hLe : mf cw 5 = mf cs 5 := m2 (by omega) (by omega)
    refine ⟨updU u i r (u 82 (50 * i + r)) cw 5, fun Z hZ => hmod Z (c_Mod_least hi r4 hR hrl.2.2.2.2.2.1.okC ?_), fun X k Z hk hZ => hcls X k Z ⟨fun q => absurd q ht, fun _ => hZ _ hrl hgs⟩⟩
    rw [hL', hLe]
    refine ⟨fun q => ?_, fun _ => ⟨fun _ => hZ, fun q => absurd (nI_le (Nat.le_refl _) (by omega)) q⟩⟩
    rw [nl_0, nI_eq (by omega) (by omega)] at q
    omega
theorem hear_p {S P N R Q i F p : Nat} {g : sg} {u : MS} {a b c d : Int32} (h : rl9 S P N R Q g u) (hi : i < 5) (hF : F < 4) (hp : pkv N R g u p 3 a b c d) :
    ∃ v, (∀ Z : MS → Prop, Z v → mMT M_Mod_hear [qr 1 (some 0), qi (nI i), qi (nI F), qi a, qi b, qi c, qi d] u (mV Z)) ∧ ∀ (X : Nat × (Nat → Int32)) (Z : sg → Prop), (∀ g', rl9 S P N R Q g' v → pkS g g' → Z g') → nnMT X M_Node_hear 3 [qr 6 (some i), qi (nI F), qr 7 (some p)] g (zV Z) := by
  have h0 := h
  obtain ⟨hsh, hT, hN, hW, hG, hRR, h'⟩ := h
  have hR := hG.1
  have h79 := hG.2.1
  have hp0 := hp
  obtain ⟨hpp, -, ⟨q, -⟩ | ⟨q, -⟩ | ⟨q, -⟩ | ⟨-, p1, p2, p3, p4, ⟨r, hr, z1, z2⟩, e, he1, he2, hd⟩⟩ := hp
  · exact absurd q (by decide)
  · exact absurd q (by decide)
  · exact absurd q (by decide)
  subst z1 z2 hd
  have hnum := (hsh.1.2.2.2 i hi).2.2.2.2
  have hrt := (hsh.1.2.2.2 i hi).1
  have h704 := (hsh.2.2.1 i hi).2.1
  by_cases hown : u 80 r = nI i
  · have hfst : fst (fun s => decide (u 80 s = u 80 r) && decide (u 81 s = u 81 r)) 0 R = nI r := by
      refine fst_at r (Nat.zero_le _) (by omega) (by simp) (fun s _ hs => ?_)
      cases hq : (decide (u 80 s = u 80 r) && decide (u 81 s = u 81 r)) with
      | false => rfl
      | true =>
        simp only [Bool.and_eq_true, decide_eq_true_eq] at hq
        have := hG.2.2.2.1 s r (by omega) hr hq.1 hq.2
        omega
    refine ⟨u, fun Z hZ => mt_Mod_hear (c_Mod_route h79 hR ?_), fun X Z hZ => t_Node_hear ⟨p, rfl, ?_⟩⟩
    · rw [hfst, show (50 : Int32) * nI i + nI r = nI (50 * i + r) by rw [nl_50, pk_mul, nI_add]]
      exact ⟨(vpi (by omega)).mpr (by omega), fun _ => hZ, fun q => absurd hown q⟩
    · rw [p1, hnum]
      exact ⟨fun q => absurd hown q, fun _ => hZ g h0 pkS.rf⟩
  · obtain ⟨m, ρ, π, hrn⟩ := hRR.1 i hi
    have hhead : ∀ (X : Nat × (Nat → Int32)) (Z : sg → Prop), ((∀ j, j < m → π j = r → nnWP X M_Node_hear 3 48 [qr 6 (some i), qi (nI F), qr 7 (some p), qr 10 (some (ρ j)), none, none] [] g (zV Z)) ∧ ((∀ j, j < m → π j ≠ r) → nnMT X M_Routes_make 2 [qr 11 (some i), qi (u 80 r), qi (u 81 r)] g (zR 10 fun r2 g2 => gExt g g2 → nnWP X M_Node_hear 1 48 [qr 6 (some i), qi (nI F), qr 7 (some p), qr 10 r2, none, none] [] g2 (zV Z)))) → nnMT X M_Node_hear 3 [qr 6 (some i), qi (nI F), qr 7 (some p)] g (zV Z) := by
      intro X Z hh
      refine t_Node_hear ⟨p, rfl, ?_⟩
      rw [p1, p2, hnum]
      refine ⟨fun _ => ⟨i, hrt, c_Routes_find hR h704 hrn ⟨fun j hj e1 e2 _ => ⟨fun q => (by cases q), fun a3 ha3 => ?_⟩, fun hno _ => ⟨fun _ => ⟨by omega, i, hrt, ?_⟩, fun a3 ha3 => (by cases ha3)⟩⟩⟩, fun q => absurd q hown⟩
      rotate_left
      · rw [p1, p2]
        exact hh.2 fun j hj e => hno j hj ⟨by rw [e], by rw [e]⟩
      exact hh.1 j hj (hG.2.2.2.1 _ _ (hrn.2.2.1 j hj).2.2.2.1 hr e1 e2)
    by_cases hex : ∃ j, j < m ∧ π j = r
    · obtain ⟨j, hj, hjr⟩ := hex
      rw [← hjr] at hp0 hown
      obtain ⟨v, t1, t2⟩ := hear_tail h0 hi hF hrn hj hown hp0 he1 he2
      refine ⟨v, fun Z hZ => by rw [← hjr]; exact t1 Z hZ, fun X Z hZ => hhead X Z ⟨fun j' hj' e' => ?_, fun hno => absurd hjr (hno j hj)⟩⟩
      have : j' = j := hrn.2.2.2.1 j' j hj' hj (by rw [e', hjr])
      rw [this]
      exact t2 X 3 Z (by omega) hZ
    · have hno : ∀ j, j < m → π j ≠ r := fun j hj e => hex ⟨j, hj, e⟩
      obtain ⟨hmR, hcnt⟩ := hrn.less hr hno
      have hlt := hcnt (u 80 r) rfl
      obtain ⟨⟨o, ho, eo⟩, -⟩ := hG.2.2.1 r hr
      have h10 := hG.2.2.2.2 o ho
      rw [← eo] at h10
      have hrR := rR_add hRR hR hi hrn hr hno (x := u 80 r) (y := u 81 r) rfl rfl
      have hrn2 := rRn_add hrn hr hno (x := u 80 r) (y := u 81 r) rfl rfl
      have hl2 : rl9 S P N R Q (addG g i m (u 80 r) (u 81 r)) u := ⟨hsh, hT, hN, hW, hG, hrR, h'⟩
      have hpi : (fun j => if j = m then r else π j) m = r := if_pos rfl
      have hrho : (fun j => if j = m then gC g 10 else ρ j) m = gC g 10 := if_pos rfl
      obtain ⟨v, t1, t2⟩ := hear_tail (j := m) (p := p) (F := F) (c := c) (e := e) hl2 hi hF hrn2 (by omega) (by rw [if_pos rfl]; exact hown) (by rw [if_pos rfl]; exact hp0) he1 he2
      rw [if_pos rfl] at t1 t2
      have hgs : pkS g (addG g i m (u 80 r) (u 81 r)) := by
        refine ⟨Nat.le_refl _, fun f q k hf hq => ?_⟩
        unfold addG
        rw [gI_pI, if_neg (by omega)]
        show (if f / 64 = 10 ∧ q = g.1 10 then _ else g.2.1 f q k) = _
        rw [if_neg (by omega)]
        rfl
      refine ⟨v, fun Z hZ => t1 Z hZ, fun X Z hZ => hhead X Z ⟨fun j hj e => absurd e (hno j hj), fun _ => c_Routes_make (Nat.le_refl _) hR h704 hrn (by omega) ⟨fun _ _ => t2 X 1 Z (Nat.le_refl _) fun g' hl hk => hZ g' hl (hgs.tr hk), fun q => absurd (by omega) q⟩⟩⟩
