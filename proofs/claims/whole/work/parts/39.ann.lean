theorem mf4 {v : Nat → Nat} (h : ∀ f, f < 4 → v f = 0) : mf v 5 = v 4 := by
  show mst (mst (mst (mst (mst 0 (v 0)) (v 1)) (v 2)) (v 3)) (v 4) = v 4
  rw [h 0 (by omega), h 1 (by omega), h 2 (by omega), h 3 (by omega)]
  unfold mst
  simp
  omega
theorem ann_tail {S P N R Q i n m j : Nat} {ρ π : Nat → Nat} {g : sg} {u : MS} {z : Int32} (h : rl9 S P N R Q g u) (hi : i < 5) (hn : n < N) (hz : z = 0 ∨ z = 1) (hrn : rRn R i m ρ π g u) (hj : j < m) (h80 : u 80 (π j) = nI i) (h81 : u 81 (π j) = nI n) :
    ∃ v, (∀ Z : Int32 → MS → Prop, Z (u 82 (50 * i + π j) + 1) v → mWP M_Mod_announce 142 [qr 1 (some 0), qi (nI i), none, qi z, qi (nI (π j)), none, none] [] u (mI Z)) ∧ ∀ (X : Nat × (Nat → Int32)) (k : Nat) (Z : Int32 → sg → Prop), 1 ≤ k → (∀ g', RL g' v → Z (u 82 (50 * i + π j) + 1) g') → nnWP X M_Net_announce k 80 [none, qi (nI i), qi (nI n), qi z, qr 6 (some i), qr 10 (some (ρ j))] [] g (zI Z) := by
  have h0 := h
  obtain ⟨hsh, hT, hN, hW, hG, hRR, h'⟩ := h
  have hR := hG.1
  obtain ⟨r1, r2, r3, r4, r5, r6, r7, r8⟩ := hrn.2.2.1 j hj
  have key : ∀ (c e : Nat), e ≤ 99 → 1 ≤ e → c ≤ 1 → ∃ v, (∀ Z : MS → Prop, Z v → mMT M_Mod_tell [qr 1 (some 0), qi (nI i), qi (nI 4), qi (nI (π j)), qi (nI e)] (updU u i (π j) (u 82 (50 * i + π j) + 1) (fun k => if k = 4 then c else 0) 5) (mV Z)) ∧ v 82 (50 * i + π j) = u 82 (50 * i + π j) + 1 ∧ ∀ (X : Nat × (Nat → Int32)) (k : Nat) (Z : Int32 → sg → Prop), 1 ≤ k → (∀ g', RL g' v → Z (u 82 (50 * i + π j) + 1) g') → ∀ cs : Nat → Nat, (∀ f, f < 5 → cs f = if f = 4 then c else 0) → nnMT X M_Packet_notice 1 [qi (nI i), qi (nI n), qi (u 82 (50 * i + π j) + 1), qi (nI e)] (updG g (ρ j) (u 82 (50 * i + π j) + 1) cs 5) (zR 7 fun r1 g2 => gExt (updG g (ρ j) (u 82 (50 * i + π j) + 1) cs 5) g2 → ∃ a2, some i = some a2 ∧ nnMT X M_Node_spread 0 [qr 6 (some a2), qr 7 r1, qi (-1)] g2 (zV fun g3 => gExt g2 g3 → Z (gI g3 642 (ρ j) 0) g3)) := by
    intro c e he1 he2 hc
    obtain ⟨s, hs⟩ : ∃ s, s = u 82 (50 * i + π j) + 1 := ⟨_, rfl⟩
    rw [← hs]
    have hrl : ∀ cs : Nat → Nat, (∀ f, f < 5 → cs f = if f = 4 then c else 0) → rl9 S P N R Q (updG g (ρ j) s cs 5) (updU u i (π j) s cs 5) := by
      intro cs hcs
      refine ⟨hsh, hT, hN, hW, hG, rR_upd hRR hR hi hrn hj (fun f hf => ?_) (fun _ f hf => ?_), h'⟩
      · rw [hcs f hf]; split <;> omega
      · rw [hcs f (by omega), if_neg (by omega)]
    have hUeq : ∀ cs : Nat → Nat, (∀ f, f < 5 → cs f = if f = 4 then c else 0) → updU u i (π j) s cs 5 = updU u i (π j) s (fun k => if k = 4 then c else 0) 5 := by
      intro cs hcs
      funext f x
      unfold updU
      split
      · rfl
      · split
        · rename_i hh
          rw [hcs _ (by omega)]
        · rfl
    have hpk : ∀ (g2 : sg) (cs : Nat → Nat), agP (updG g (ρ j) s cs 5) g2 → gI g2 448 (gC (updG g (ρ j) s cs 5) 7) 0 = 3 → gI g2 455 (gC (updG g (ρ j) s cs 5) 7) 0 = nI i → gI g2 449 (gC (updG g (ρ j) s cs 5) 7) 0 = nI n → gI g2 456 (gC (updG g (ρ j) s cs 5) 7) 0 = s → gI g2 457 (gC (updG g (ρ j) s cs 5) 7) 0 = nI e → pkv N R g2 (updU u i (π j) s cs 5) (gC (updG g (ρ j) s cs 5) 7) 3 (u 80 (π j)) (u 81 (π j)) s (nI e) := by
      intro g2 cs ha f1 f2 f3 f4 f5
      rw [h80, h81]
      exact ⟨by rw [ha.2.1]; omega, f1, Or.inr (Or.inr (Or.inr ⟨rfl, f2, f3, f4, f5, ⟨π j, r4, h80, h81⟩, e, he2, he1, rfl⟩))⟩
    have e82 : updU u i (π j) s (fun k => if k = 4 then c else 0) 5 82 (50 * i + π j) = s := by
      unfold updU
      rw [if_pos ⟨rfl, rfl⟩]
    refine ⟨tlU (updU u i (π j) s (fun k => if k = 4 then c else 0) 5) i 4 (u 80 (π j)) (u 81 (π j)) s (nI e) 4, fun Z hZ => ?_, by rw [tlU_at (by decide) (by decide)]; exact e82, fun X k Z hk hZ cs hcs => ?_⟩
    · have hl := hrl (fun k => if k = 4 then c else 0) (fun f _ => rfl)
      obtain ⟨g2, hg2⟩ : ∃ g2, g2 = pI (pI (pI (pI (pI (pN (updG g (ρ j) s (fun k => if k = 4 then c else 0) 5) 7) 448 (gC (updG g (ρ j) s (fun k => if k = 4 then c else 0) 5) 7) 0 3) 449 (gC (updG g (ρ j) s (fun k => if k = 4 then c else 0) 5) 7) 0 (nI n)) 455 (gC (updG g (ρ j) s (fun k => if k = 4 then c else 0) 5) 7) 0 (nI i)) 456 (gC (updG g (ρ j) s (fun k => if k = 4 then c else 0) 5) 7) 0 s) 457 (gC (updG g (ρ j) s (fun k => if k = 4 then c else 0) 5) 7) 0 (nI e) := ⟨_, rfl⟩
      have ha : agP (updG g (ρ j) s (fun k => if k = 4 then c else 0) 5) g2 := by
        rw [hg2]
        exact agP_pI (agP_pI (agP_pI (agP_pI (agP_pI (agP_new _) (by decide) _ _) (by decide) _ _) (by decide) _ _) (by decide) _ _) (by decide) _ _
      have hp := hpk g2 _ ha (by rw [hg2]; simp [gI_pI]) (by rw [hg2]; simp [gI_pI]) (by rw [hg2]; simp [gI_pI]) (by rw [hg2]; simp [gI_pI]) (by rw [hg2]; simp [gI_pI])
      have hl2 := rl_agP hl ha
      refine c_Mod_tell hl2 hi (by omega) (by omega) (by rw [e82]; exact hp) ?_
      rw [e82]
      exact hZ
    · refine c_Packet_notice (Nat.le_refl _) fun g2 ha f1 f2 f3 f4 f5 _ => ⟨i, rfl, ?_⟩
      have hl := hrl cs hcs
      have hl2 := rl_agP hl ha
      have hp := hpk g2 cs ha f1 f2 f3 f4 f5
      refine c_Node_spread (b := 4) hl2 hi (fun f hf => ⟨fun q => absurd q (nI_m1 (by omega)), fun q => by omega⟩) hp fun _ => ?_
      have e642 : gI (spG g2 i 4 (gC (updG g (ρ j) s cs 5) 7) 4) 642 (ρ j) 0 = s := by
        rw [spG_I (by decide), ha.2.2.1 642 (ρ j) 0 (fun q => absurd q.1 (by decide))]
        show (if (642 : Nat) = 642 ∧ ρ j = ρ j ∧ 0 = 0 then s else _) = s
        rw [if_pos ⟨rfl, rfl, rfl⟩]
      rw [e642]
      have hfin := (rl_tell (b := 4) hl2 hi hp 4 (by omega)).1
      rw [hUeq cs hcs] at hfin
      exact hZ _ ⟨S, P, N, R, Q, hfin⟩
  have e50 : (50 : Int32) * nI i + nI (π j) = nI (50 * i + π j) := by rw [nl_50, pk_mul, nI_add]
  have e250 : (250 : Int32) * nI i + (5 : Int32) * nI (π j) + 4 = nI (250 * i + 5 * π j + 4) := by rw [nl_250, nl_5, pk_mul, pk_mul, nI_add, nl_4, nI_add]
  have c50 : (nI (50 * i + π j)).toNatClampNeg = 50 * i + π j := nI_clamp (by omega)
  have c250 : (nI (250 * i + 5 * π j + 4)).toNatClampNeg = 250 * i + 5 * π j + 4 := nI_clamp (by omega)
  have es642 : ∀ cs : Nat → Nat, gI (updG g (ρ j) (u 82 (50 * i + π j) + 1) cs 5) 642 (ρ j) 0 = u 82 (50 * i + π j) + 1 := fun cs => if_pos ⟨rfl, rfl, rfl⟩
  rcases hz with rfl | rfl
  · obtain ⟨v, k1, k2, k3⟩ := key 0 99 (by omega) (by omega) (by omega)
    refine ⟨v, fun Z hZ => mb_Mod_announce_142 ?_, fun X k Z hk hZ => b_Net_announce_80 ⟨fun q => (by cases q), fun a1 ha1 => ?_⟩⟩
    · rw [e50, e250, c50, c250]
      refine ⟨(vpi (by omega)).mpr (by omega), c_Mod_renew hi (by omega) ⟨fun _ => ⟨(vpi (by omega)).mpr (by omega), fun u2 hu2 => ⟨fun _ => ?_, fun q => absurd rfl q⟩⟩, fun q => absurd rfl q⟩⟩
      have := updU_c (u := u) (i := i) (r := π j) (s := u 82 (50 * i + π j) + 1) (f := 4) (c := 0) (by omega)
      rw [nI_0] at this
      rw [this] at hu2
      subst hu2
      refine k1 _ ?_
      rw [k2]; exact hZ
    · cases ha1
      refine ⟨fun _ => ?_, fun q => absurd rfl q⟩
      rw [r7]
      refine c_Route_begin (F := 4) (e := 99) (by omega) (by omega) r3 fun _ => ⟨fun _ => ⟨hk, ?_⟩, fun q => absurd rfl q⟩
      rw [es642]
      exact k3 X k Z hk hZ _ (fun f hf => by unfold bcs; split <;> simp)
  · obtain ⟨v, k1, k2, k3⟩ := key 1 1 (by omega) (by omega) (by omega)
    refine ⟨v, fun Z hZ => mb_Mod_announce_142 ?_, fun X k Z hk hZ => b_Net_announce_80 ⟨fun q => (by cases q), fun a1 ha1 => ?_⟩⟩
    · rw [e50, e250, c50, c250]
      refine ⟨(vpi (by omega)).mpr (by omega), c_Mod_renew hi (by omega) ⟨fun q => absurd q (by decide), fun _ => ⟨(vpi (by omega)).mpr (by omega), fun u2 hu2 => ⟨fun q => absurd q (by decide), fun _ => ?_⟩⟩⟩⟩
      have := updU_c (u := u) (i := i) (r := π j) (s := u 82 (50 * i + π j) + 1) (f := 4) (c := 1) (by omega)
      rw [show nI 1 = (1 : Int32) from rfl] at this
      rw [this] at hu2
      subst hu2
      refine k1 _ ?_
      rw [k2]; exact hZ
    · cases ha1
      refine ⟨fun q => absurd q (by decide), fun _ => ?_⟩
      rw [r7]
      refine c_Route_begin (F := 4) (e := 0) (by omega) (by omega) r3 fun _ => ⟨fun q => absurd q (by decide), fun _ => ⟨hk, ?_⟩⟩
      rw [es642]
      exact k3 X k Z hk hZ _ (fun f hf => by unfold bcs; split <;> simp)
