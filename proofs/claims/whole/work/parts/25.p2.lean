theorem c_Names_has {X : Nat × (Nat → Int32)} {k N : Nat} {g : sg} {x : Int32} {Z : Int32 → sg → Prop} (hN : gI g 323 0 0 = nI N) (h : Z (b2 (inN x N)) g) : nnMT X M_Names_has k [qr 5 (some 0), qi x] g (zI Z) := by
  refine t_Names_has ⟨fun h1 => ?_, fun h1 => ⟨fun h2 => ?_, fun h2 => ?_⟩⟩
  · simpa [b2, inN, h1] using h
  · rw [hN] at h2
    simpa [b2, inN, h2] using h
  · rw [hN] at h2
    simpa [b2, inN, h1, h2] using h
/-- the longest shorter name, as both sides have it -/
def upI (u : MS) (N : Nat) (x : Int32) : Int32 := if inN x N = true ∧ ¬ x = 0 then u 71 x.toNatClampNeg else -1
theorem c_Names_shorterOf {X : Nat × (Nat → Int32)} {k N S P : Nat} {g : sg} {u : MS} {x : Int32} {Z : Int32 → sg → Prop} (hN : rN N g u) (hsh : shC S P g) (h : Z (upI u N x) g) : nnMT X M_Names_shorterOf k [qr 5 (some 0), qi x] g (zI Z) := by
  obtain ⟨n1, n2, n3, n4, n5, n6, n7, n8⟩ := hN
  refine t_Names_shorterOf (c_Names_has n3 fun hx => ?_)
  cases hb : inN x N with
  | false => exact ⟨fun _ => by simpa [upI, hb] using h, fun c => absurd rfl c⟩
  | true =>
    obtain ⟨j, hj, rfl⟩ := inN_of (by omega) hb
    refine ⟨fun c => absurd c (by decide), fun _ => ⟨hsh.2.1.2.2.2.2.2.2.1, (vpi (by omega)).mpr (by omega), ?_⟩⟩
    rw [nI_clamp (by omega)]
    by_cases hj0 : j = 0
    · subst hj0
      rw [n5]
      simpa [upI, nI_0] using h
    · have hne : ¬ nI j = 0 := nI_ne0 (by omega) (by omega)
      rw [(n8 j (by omega) hj).1]
      have e : upI u N (nI j) = u 71 j := by
        unfold upI
        rw [if_pos ⟨hb, hne⟩, nI_clamp (by omega)]
      rw [e] at h
      exact h
theorem pair_parent (g : sg) (u : MS) (x : Int32) (hr : RL g u) : PairI 0 M_Net_parent M_Mod_parent [qi x] g u := by
  have hr0 := hr
  obtain ⟨S, P, N, R, Q, hsh, hT, hN, h⟩ := hr
  have hN0 := hN
  obtain ⟨n1, n2, n3, n4, n5, n6, n7, n8⟩ := hN
  refine ⟨upI u N x, u, fun Z hz => mt_Mod_parent ⟨fun c => ?_, fun c => ⟨fun c2 => ?_, fun c2 => ⟨?_, ?_⟩⟩⟩, fun X Z hz => t_Net_parent ⟨0, hsh.1.1, c_Names_shorterOf hN0 hsh fun _ => hz g hr0⟩⟩
  · have : upI u N x = -1 := by
      unfold upI
      rw [if_neg]
      rintro ⟨h1, h2⟩
      obtain ⟨j, hj, rfl⟩ := inN_of (by omega) h1
      rw [nl_0, nI_leI (by omega) (by omega)] at c
      have : j = 0 := by omega
      exact h2 (by rw [this]; rfl)
    rw [← this]; exact hz
  · have : upI u N x = -1 := by
      unfold upI
      rw [if_neg]
      rintro ⟨h1, h2⟩
      obtain ⟨j, hj, rfl⟩ := inN_of (by omega) h1
      rw [n4] at c2
      exact nI_ge hj (by omega) c2
    rw [← this]; exact hz
  · rw [n4] at c2
    obtain ⟨j, hj, rfl⟩ := ins5 (fun q => c (Int32.le_of_lt q)) c2 (by omega)
    exact (vpi (by omega)).mpr (by omega)
  · rw [n4] at c2
    obtain ⟨j, hj, rfl⟩ := ins5 (fun q => c (Int32.le_of_lt q)) c2 (by omega)
    have : upI u N (nI j) = u 71 (nI j).toNatClampNeg := by
      unfold upI
      rw [if_pos ⟨inN_nI hj (by omega), fun q => c (by rw [q]; decide)⟩]
    rw [← this]; exact hz
theorem pair_request (g : sg) (u : MS) (x y : Int32) (hr : RL g u) : PairI 0 M_Net_request M_Mod_request [qi x, qi y] g u := by
  have hr0 := hr
  obtain ⟨S, P, N, R, Q, hsh, hT, hN, hW, hG, hRR, hS, hE, ⟨q1, q2, q3, q4, q5, q6⟩, h⟩ := hr
  by_cases c1 : x < 0
  · exact ⟨-1, u, fun Z hz => mt_Mod_request ⟨fun _ => hz, fun c => absurd c1 c⟩, fun X Z hz => t_Net_request ⟨fun _ => hz g hr0, fun c => absurd c1 c⟩⟩
  · by_cases c2 : nI Q ≤ x
    · refine ⟨-1, u, fun Z hz => mt_Mod_request ⟨fun c => absurd c c1, fun _ => ⟨fun _ => hz, fun c => absurd (by rw [q4]; exact c2) c⟩⟩, fun X Z hz => t_Net_request ⟨fun c => absurd c c1, fun _ => ⟨fun c => ?_, fun _ => hz g hr0⟩⟩⟩
      rw [q3] at c
      exact absurd c2 (Int32.not_le.mpr c)
    · obtain ⟨q, hq, rfl⟩ := ins5 c1 c2 (by omega)
      have c3 : ¬ u 101 0 ≤ nI q := by rw [q4]; exact c2
      have c4 : nI q < gI g 10 0 0 := by rw [q3]; exact Int32.not_le.mp c2
      have vi : vp_in (nI q) 120 := (vpi (by omega)).mpr (by omega)
      have cl : (nI q).toNatClampNeg = q := nI_clamp (by omega)
      obtain ⟨a1, a2, a3, a4, a5, a6, a7, a8⟩ := q5 q hq
      have hcl : ∀ (X : Nat × (Nat → Int32)) (Z : Int32 → sg → Prop), ((y = 0 → Z (gI g 580 q 0) g) ∧ (y = 1 → (gR g 581 q 0 = none → Z (-1) g) ∧ ∀ a3, gR g 581 q 0 = some a3 → Z (gI g 449 a3 0) g) ∧ (y = 2 → (gR g 581 q 0 = none → Z 0 g) ∧ ∀ a3, gR g 581 q 0 = some a3 → Z (gI g 453 a3 0) g) ∧ (¬ y = 0 ∧ ¬ y = 1 ∧ ¬ y = 2 → Z (-1) g)) → nnMT X M_Net_request 0 [qr 0 (some 0), qi (nI q), qi y] g (zI Z) := by
        intro X Z hh
        refine t_Net_request ⟨fun c => absurd c c1, fun _ => ⟨fun _ => ⟨hsh.2.1.2.2.2.2.2.1, vi, ?_⟩, fun c => absurd c4 c⟩⟩
        rw [cl]
        exact ⟨fun e => ⟨q, a1, hh.1 e⟩, fun e => ⟨q, a1, hh.2.1 e⟩, fun e => ⟨q, a1, hh.2.2.1 e⟩, hh.2.2.2⟩
      by_cases y0 : y = 0
      · subst y0
        refine ⟨u 105 q, u, fun Z hz => mt_Mod_request ⟨fun c => absurd c c1, fun _ => ⟨fun c => absurd c c3, fun _ => ⟨fun c => absurd c (by decide), fun _ => ⟨fun _ => ⟨fun c => absurd rfl c, fun _ => ⟨vi, by rw [cl]; exact hz⟩⟩, fun c => absurd (by decide) c⟩⟩⟩⟩, fun X Z hz => hcl X Z ⟨fun _ => by rw [a6]; exact hz g hr0, fun c => absurd c (by decide), fun c => absurd c (by decide), fun c => absurd rfl c.1⟩⟩
      · by_cases y1 : y = 1
        · subst y1
          have hmod : ∀ Z : Int32 → MS → Prop, Z (u 107 q) u → mMT M_Mod_request [qr 1 (some 0), qi (nI q), qi 1] u (mI Z) := fun Z hz => mt_Mod_request ⟨fun c => absurd c c1, fun _ => ⟨fun c => absurd c c3, fun _ => ⟨fun c => absurd c (by decide), fun _ => ⟨fun _ => ⟨fun _ => ⟨fun c => absurd rfl c, fun _ => ⟨vi, by rw [cl]; exact hz⟩⟩, fun c => absurd c (by decide)⟩, fun c => absurd (by decide) c⟩⟩⟩⟩
          refine ⟨u 107 q, u, hmod, fun X Z hz => hcl X Z ⟨fun c => absurd c (by decide), fun _ => ⟨fun e => ?_, fun p e => ?_⟩, fun c => absurd c (by decide), fun c => absurd rfl c.2.1⟩⟩
          · rcases a8 with ⟨b1, b2, -⟩ | ⟨p, c, b1, -⟩
            · rw [← b2]; exact hz g hr0
            · rw [e] at b1; cases b1
          · rcases a8 with ⟨b1, -⟩ | ⟨p', c, b1, b2, -⟩
            · rw [e] at b1; cases b1
            · rw [e] at b1; cases b1
              rw [b2.2.2.1]; exact hz g hr0
        · by_cases y2 : y = 2
          · subst y2
            have hmod : ∀ Z : Int32 → MS → Prop, Z (u 108 q) u → mMT M_Mod_request [qr 1 (some 0), qi (nI q), qi 2] u (mI Z) := fun Z hz => mt_Mod_request ⟨fun c => absurd c c1, fun _ => ⟨fun c => absurd c c3, fun _ => ⟨fun c => absurd c (by decide), fun _ => ⟨fun _ => ⟨fun _ => ⟨fun _ => ⟨vi, by rw [cl]; exact hz⟩, fun c => absurd c (by decide)⟩, fun c => absurd c (by decide)⟩, fun c => absurd (by decide) c⟩⟩⟩⟩
            refine ⟨u 108 q, u, hmod, fun X Z hz => hcl X Z ⟨fun c => absurd c (by decide), fun c => absurd c (by decide), fun _ => ⟨fun e => ?_, fun p e => ?_⟩, fun c => absurd rfl c.2.2⟩⟩
            · rcases a8 with ⟨b1, b2, b3, -⟩ | ⟨p, c, b1, -⟩
              · rw [← b3]; exact hz g hr0
              · rw [e] at b1; cases b1
            · rcases a8 with ⟨b1, -⟩ | ⟨p', c, b1, b2, -⟩
              · rw [e] at b1; cases b1
              · rw [e] at b1; cases b1
                rw [b2.2.2.2.1]; exact hz g hr0
          · have hy : y < 0 ∨ ¬ y ≤ 2 := by
              by_cases hn : y < 0
              · exact Or.inl hn
              · refine Or.inr fun hle => ?_
                obtain ⟨j, hj, rfl⟩ := nI_of2 (n := 2) (by decide) hn hle
                rcases (show j = 0 ∨ j = 1 ∨ j = 2 by omega) with rfl | rfl | rfl
                · exact y0 rfl
                · exact y1 rfl
                · exact y2 rfl
            refine ⟨-1, u, fun Z hz => mt_Mod_request ⟨fun c => absurd c c1, fun _ => ⟨fun c => absurd c c3, fun _ => ⟨fun _ => hz, fun c => ⟨fun c' => ?_, fun _ => hz⟩⟩⟩⟩, fun X Z hz => hcl X Z ⟨fun c => absurd c y0, fun c => absurd c y1, fun c => absurd c y2, fun _ => hz g hr0⟩⟩
            rcases hy with hy | hy
            · exact absurd hy c
            · exact absurd c' hy
