/-- an ask of a face -/
def akU (u : MS) (e F : Nat) (z t hp : Int32) : MS := mu (mu (mu (mu u 96 (5 * e + F) 1) 97 (5 * e + F) z) 98 (5 * e + F) t) 95 e hp
def akG (g : sg) (a F : Nat) (z t hp : Int32) : sg := pI (pI (pI g 131 a F z) 132 a F t) 130 a 0 hp
theorem akU_at {u : MS} {e F : Nat} {z t hp : Int32} (k y : Nat) : akU u e F z t hp k y = if k = 95 ∧ y = e then hp else if k = 98 ∧ y = 5 * e + F then t else if k = 97 ∧ y = 5 * e + F then z else if k = 96 ∧ y = 5 * e + F then 1 else u k y := by
  unfold akU
  simp only [mu_at]
theorem akG_I {g : sg} {a F : Nat} {z t hp : Int32} (f b k : Nat) : gI (akG g a F z t hp) f b k = if f = 130 ∧ b = a ∧ k = 0 then hp else if f = 132 ∧ b = a ∧ k = F then t else if f = 131 ∧ b = a ∧ k = F then z else gI g f b k := by
  unfold akG
  rw [gI_pI, gI_pI, gI_pI]
theorem ak_p {S P N R Q i j c F h0 : Nat} {ε : Nat → Nat} {g : sg} {u : MS} {z t : Int32} (h : rl9 S P N R Q g u) (hi : i < 5) (hen : rEn N P i c ε g u) (hj : j < c) (hF : F < 5) (hz : ∃ q, q < 120 ∧ z = nI (1000 + q)) (hh : h0 ≤ 9) : rl9 S P N R Q (akG g (ε j) F z t (nI h0)) (akU u (6 * i + j) F z t (nI h0)) ∧ rEn N P i c ε (akG g (ε j) F z t (nI h0)) (akU u (6 * i + j) F z t (nI h0)) ∧ pkS g (akG g (ε j) F z t (nI h0)) := by
  obtain ⟨n1, n2, n3, n4, n5, n6, nf⟩ := hen.2.2.2.2.2.1 j hj
  refine rl_face h hi hen hj hF (fun f b k hn => ?_) (fun f => rfl) (fun f a => rfl) (fun c => rfl) (fun k y hn hn2 => ?_) ⟨?_, h0, hh, ?_⟩ ?_
  · rw [akG_I, if_neg (by omega), if_neg (by omega), if_neg (by omega)]
  · rw [akU_at, if_neg hn2, if_neg (by omega), if_neg (by omega), if_neg (by omega)]
  · rw [akG_I, if_pos ⟨rfl, rfl, rfl⟩, akU_at, if_pos ⟨rfl, rfl⟩]
  · rw [akU_at, if_pos ⟨rfl, rfl⟩]
  · obtain ⟨m1, m2⟩ := nf F hF
    refine ⟨Or.inr ⟨?_, ?_, ?_, ?_⟩, ?_⟩
    · rw [akU_at, if_neg (by omega), if_neg (by omega), if_neg (by omega), if_pos ⟨rfl, rfl⟩]
    · rw [akU_at, if_neg (by omega), if_neg (by omega), if_pos ⟨rfl, rfl⟩]; exact hz
    · rw [akG_I, if_neg (by omega), if_neg (by omega), if_pos ⟨rfl, rfl, rfl⟩, akU_at, if_neg (by omega), if_neg (by omega), if_pos ⟨rfl, rfl⟩]
    · rw [akG_I, if_neg (by omega), if_pos ⟨rfl, rfl, rfl⟩, akU_at, if_neg (by omega), if_pos ⟨rfl, rfl⟩]
    · rw [akG_I, akG_I, akU_at, akU_at]
      simp
      exact m2
/-- a new entry -/
def neU (u : MS) (e : Nat) (x y : Int32) (t : Nat) : MS := fun k w => if k = 93 ∧ w = e then x else if k = 94 ∧ w = e then y else if (k = 96 ∨ k = 99) ∧ 5 * e ≤ w ∧ w < 5 * e + t then 0 else u k w
theorem neU_0 (u : MS) (e : Nat) (x y : Int32) : mu (mu u 93 e x) 94 e y = neU u e x y 0 := by
  funext k w
  simp only [mu_at]
  unfold neU
  by_cases h3 : k = 93 ∧ w = e
  · rw [if_neg (by omega), if_pos h3, if_pos h3]
  · rw [if_neg h3, if_neg h3]
    by_cases h4 : k = 94 ∧ w = e
    · rw [if_pos h4, if_pos h4]
    · rw [if_neg h4, if_neg h4, if_neg (by omega)]
theorem neU_s (u : MS) (e : Nat) (x y : Int32) (t : Nat) : mu (mu (neU u e x y t) 96 (5 * e + t) 0) 99 (5 * e + t) 0 = neU u e x y (t + 1) := by
  funext k w
  simp only [mu_at]
  unfold neU
  by_cases h1 : (k = 96 ∨ k = 99) ∧ w = 5 * e + t
  · obtain ⟨h1, rfl⟩ := h1
    rcases h1 with rfl | rfl
    · rw [if_neg (by omega), if_pos ⟨rfl, rfl⟩, if_neg (by omega), if_neg (by omega), if_pos ⟨Or.inl rfl, by omega, by omega⟩]
    · rw [if_pos ⟨rfl, rfl⟩, if_neg (by omega), if_neg (by omega), if_pos ⟨Or.inr rfl, by omega, by omega⟩]
  · rw [if_neg (by omega), if_neg (by omega)]
    have e2 : ((k = 96 ∨ k = 99) ∧ 5 * e ≤ w ∧ w < 5 * e + t) ↔ ((k = 96 ∨ k = 99) ∧ 5 * e ≤ w ∧ w < 5 * e + (t + 1)) := by omega
    simp only [e2]
def nwU (u : MS) (i c : Nat) (x y : Int32) : MS := mu (neU u (6 * i + c) x y 5) 92 i (nI (c + 1))
theorem c_Mod_newEntry {u : MS} {i c : Nat} {x y : Int32} {Z : Int32 → MS → Prop} (hi : i < 5) (hc : c < 6) (h92 : u 92 i = nI c) (h : Z (nI (6 * i + c)) (nwU u i c x y)) : mMT M_Mod_newEntry [qr 1 (some 0), qi (nI i), qi x, qi y] u (mI Z) := by
  refine mt_Mod_newEntry ?_
  rw [nI_clamp (show i < 2 ^ 31 by omega), h92, show (6 : Int32) * nI i + nI c = nI (6 * i + c) by rw [nl_6, pk_mul, nI_add], nI_clamp (show 6 * i + c < 2 ^ 31 by omega), show (5 : Int32) * nI (6 * i + c) = nI (5 * (6 * i + c) + 0) by rw [nl_5, pk_mul]; rfl]
  refine ⟨(vpi (by omega)).mpr hi, (vpi (by omega)).mpr (by omega), fun u1 h1 u2 h2 => ?_⟩
  rw [h1, neU_0] at h2
  subst h2
  have key : ∀ t, t ≤ 5 → mWP M_Mod_newEntry 35 [qr 1 (some 0), qi (nI i), none, none, qi (nI (6 * i + c)), qi (nI (5 * (6 * i + c) + t))] [] (neU u (6 * i + c) x y t) (mI Z) := by
    refine dn 5 ?_ ?_
    · refine mb_Mod_newEntry_35 ?_
      rw [show (5 : Int32) * nI (6 * i + c) + 5 = nI (5 * (6 * i + c) + 5) by rw [nl_5, pk_mul, nI_add], nI_clamp (show i < 2 ^ 31 by omega), show neU u (6 * i + c) x y 5 92 i = u 92 i from rfl, h92, nI_1]
      exact ⟨fun _ => ⟨(vpi (by omega)).mpr hi, fun u1 h1 => by rw [h1]; exact h⟩, fun q => absurd (nI_le (Nat.le_refl _) (by omega)) q⟩
    · intro t ht ih
      refine mb_Mod_newEntry_35 ?_
      rw [show (5 : Int32) * nI (6 * i + c) + 5 = nI (5 * (6 * i + c) + 5) by rw [nl_5, pk_mul, nI_add], nI_clamp (show 5 * (6 * i + c) + t < 2 ^ 31 by omega), nI_1]
      refine ⟨fun q => absurd q (nI_ge (by omega) (by omega)), fun _ => ⟨(vpi (by omega)).mpr (by omega), fun u2 h2 u3 h3 => ?_⟩⟩
      rw [h2, neU_s] at h3
      subst h3
      exact ih
  exact key 0 (Nat.zero_le _)
def beG (g : sg) (a : Nat) (x y : Int32) (t : Nat) : sg := (g.1, (fun f b k => if f = 128 ∧ b = a ∧ k = 0 then x else if f = 129 ∧ b = a ∧ k = 0 then y else if (f = 131 ∨ f = 133) ∧ b = a ∧ k < t then -1 else g.2.1 f b k), g.2.2)
theorem beG_0 (g : sg) (a : Nat) (x y : Int32) : pI (pI g 128 a 0 x) 129 a 0 y = beG g a x y 0 := by
  unfold pI beG
  refine Prod.ext rfl (Prod.ext ?_ rfl)
  funext f b k
  dsimp only
  by_cases h1 : f = 128 ∧ b = a ∧ k = 0
  · rw [if_neg (by omega), if_pos h1, if_pos h1]
  · rw [if_neg h1, if_neg h1]
    by_cases h2 : f = 129 ∧ b = a ∧ k = 0
    · rw [if_pos h2, if_pos h2]
    · rw [if_neg h2, if_neg h2, if_neg (by omega)]
theorem beG_s (g : sg) (a : Nat) (x y : Int32) (t : Nat) : pI (pI (beG g a x y t) 131 a t (-1)) 133 a t (-1) = beG g a x y (t + 1) := by
  unfold pI beG
  refine Prod.ext rfl (Prod.ext ?_ rfl)
  funext f b k
  dsimp only
  by_cases h1 : (f = 131 ∨ f = 133) ∧ b = a ∧ k = t
  · obtain ⟨h1, rfl, rfl⟩ := h1
    rcases h1 with rfl | rfl
    · rw [if_neg (by omega), if_pos ⟨rfl, rfl, rfl⟩, if_neg (by omega), if_neg (by omega), if_pos ⟨Or.inl rfl, rfl, by omega⟩]
    · rw [if_pos ⟨rfl, rfl, rfl⟩, if_neg (by omega), if_neg (by omega), if_pos ⟨Or.inr rfl, rfl, by omega⟩]
  · rw [if_neg (by omega), if_neg (by omega)]
    have e2 : ((f = 131 ∨ f = 133) ∧ b = a ∧ k < t) ↔ ((f = 131 ∨ f = 133) ∧ b = a ∧ k < t + 1) := by omega
    simp only [e2]
def nwG (g : sg) (i c a : Nat) (x y : Int32) : sg := pI (beG g a x y 5) 513 i 0 (nI (c + 1))
theorem c_Pending_make {X : Nat × (Nat → Int32)} {kk P i c a : Nat} {g : sg} {x y : Int32} {Z : Option Nat → sg → Prop} (hP : P ≤ 6) (hA : gA g 512 i = some P) (h513 : gI g 513 i 0 = nI c) (hcP : c ≤ P) (h512 : c < P → gR g 512 i c = some a) (hE : c < P → enA g a) (h : (c < P → Z (some a) (nwG g i c a x y)) ∧ (¬ c < P → Z none g)) : nnMT X M_Pending_make kk [qr 8 (some i), qi x, qi y] g (zR 2 Z) := by
  refine t_Pending_make ⟨P, hA, ?_⟩
  rw [h513, nI_clamp (show c < 2 ^ 31 by omega)]
  refine ⟨fun q => ?_, fun q => h.2 (fun z => q (nI_lt z (by omega)))⟩
  rw [nI_ltI (by omega) (by omega)] at q
  rw [h512 q]
  refine ⟨(vpi (by omega)).mpr q, a, rfl, t_Entry_begin fun g1 h1 g2 h2 => ?_⟩
  rw [h1, beG_0] at h2
  subst h2
  have key : ∀ t, t ≤ 5 → nnWP X M_Entry_begin 0 12 [qr 2 (some a), none, none, qi (nI t)] [] (beG g a x y t) (zV fun g1 => gExt g g1 → ∀ g2, g2 = pI g1 513 i 0 ((gI g1 513 i 0) + 1) → Z (some a) g2) := by
    refine dn 5 ?_ ?_
    · refine b_Entry_begin_12 ⟨fun _ _ g2 h2 => ?_, fun q => absurd (by decide) q⟩
      have e : gI (beG g a x y 5) 513 i 0 = nI c := h513
      rw [e, nI_1] at h2
      rw [h2]
      exact h.1 q
    · intro t ht ih
      refine b_Entry_begin_12 ⟨fun q => ?_, fun _ => ?_⟩
      · rw [nl_5, nI_leI (by omega) (by omega)] at q; omega
      rw [nI_clamp (show t < 2 ^ 31 by omega), nI_1]
      refine ⟨(hE q).1, (vpi (by omega)).mpr ht, fun g1 h1 => ⟨by rw [h1]; exact (hE q).2.2.1, fun g2 h2 => ?_⟩⟩
      rw [h1, beG_s] at h2
      subst h2
      exact ih
  exact key 0 (Nat.zero_le _)
theorem new_p {S P N R Q i c F h0 nm fl : Nat} {ε : Nat → Nat} {g : sg} {u : MS} {z t : Int32} (h : rl9 S P N R Q g u) (hi : i < 5) (hen : rEn N P i c ε g u) (hcP : c < P) (hF : F < 5) (hz : ∃ q, q < 120 ∧ z = nI (1000 + q)) (hh : h0 ≤ 9) (hnm : nm < N) (hfl : fl < 4) (hno : ∀ j, j < c → ¬ (u 93 (6 * i + j) = nI nm ∧ u 94 (6 * i + j) = nI fl)) :
    rl9 S P N R Q (akG (nwG g i c (ε c) (nI nm) (nI fl)) (ε c) F z t (nI h0)) (akU (nwU u i c (nI nm) (nI fl)) (6 * i + c) F z t (nI h0)) ∧ rEn N P i (c + 1) ε (akG (nwG g i c (ε c) (nI nm) (nI fl)) (ε c) F z t (nI h0)) (akU (nwU u i c (nI nm) (nI fl)) (6 * i + c) F z t (nI h0)) ∧ pkS g (akG (nwG g i c (ε c) (nI nm) (nI fl)) (ε c) F z t (nI h0)) := by
  have hP6 := h.2.2.2.2.2.2.2.1.2.1
  have hG : ∀ f b k, gI (akG (nwG g i c (ε c) (nI nm) (nI fl)) (ε c) F z t (nI h0)) f b k = if f = 130 ∧ b = ε c ∧ k = 0 then nI h0 else if f = 132 ∧ b = ε c ∧ k = F then t else if f = 131 ∧ b = ε c ∧ k = F then z else if f = 513 ∧ b = i ∧ k = 0 then nI (c + 1) else if f = 128 ∧ b = ε c ∧ k = 0 then nI nm else if f = 129 ∧ b = ε c ∧ k = 0 then nI fl else if (f = 131 ∨ f = 133) ∧ b = ε c ∧ k < 5 then -1 else gI g f b k := by
    intro f b k
    rw [akG_I]
    unfold nwG
    rw [gI_pI]
    rfl
  have hU : ∀ k y, akU (nwU u i c (nI nm) (nI fl)) (6 * i + c) F z t (nI h0) k y = if k = 95 ∧ y = 6 * i + c then nI h0 else if k = 98 ∧ y = 5 * (6 * i + c) + F then t else if k = 97 ∧ y = 5 * (6 * i + c) + F then z else if k = 96 ∧ y = 5 * (6 * i + c) + F then 1 else if k = 92 ∧ y = i then nI (c + 1) else if k = 93 ∧ y = 6 * i + c then nI nm else if k = 94 ∧ y = 6 * i + c then nI fl else if (k = 96 ∨ k = 99) ∧ 5 * (6 * i + c) ≤ y ∧ y < 5 * (6 * i + c) + 5 then 0 else u k y := by
    intro k y
    rw [akU_at]
    unfold nwU
    rw [mu_at]
    rfl
  obtain ⟨g', hg'⟩ : ∃ g', g' = akG (nwG g i c (ε c) (nI nm) (nI fl)) (ε c) F z t (nI h0) := ⟨_, rfl⟩
  obtain ⟨v, hv⟩ : ∃ v, v = akU (nwU u i c (nI nm) (nI fl)) (6 * i + c) F z t (nI h0) := ⟨_, rfl⟩
  have hgR : ∀ f, gR g' f = gR g f := fun f => by rw [hg']; rfl
  have hgA : ∀ f a, gA g' f a = gA g f a := fun f a => by rw [hg']; rfl
  have hgC : ∀ c, gC g' c = gC g c := fun c => by rw [hg']; rfl
  rw [← hg'] at hG ⊢
  rw [← hv] at hU ⊢
  have hon : eOn g g' u v := by
    refine ⟨fun k k1 k2 => ?_, fun f hf => ⟨?_, hgR f⟩, hgA, hgC⟩
    · funext y
      rw [hU, if_neg (by omega), if_neg (by omega), if_neg (by omega), if_neg (by omega), if_neg (by omega), if_neg (by omega), if_neg (by omega), if_neg (by omega)]
    · funext b k
      rw [hG, if_neg (by omega), if_neg (by omega), if_neg (by omega), if_neg (by omega), if_neg (by omega), if_neg (by omega), if_neg (by omega)]
  have hm : enM i c (ε c) g g' u v := by
    refine ⟨hon, fun f b k hf hb => ?_, hgR 512, fun k y k1 k2 hy => ?_, fun k y k1 k2 hy => ?_, fun i' hi' => ⟨?_, ?_⟩⟩
    · rw [hG, if_neg (fun q => hb q.2.1), if_neg (fun q => hb q.2.1), if_neg (fun q => hb q.2.1), if_neg (by omega), if_neg (fun q => hb q.2.1), if_neg (fun q => hb q.2.1), if_neg (fun q => hb q.2.1)]
    · rw [hU, if_neg (by omega), if_neg (by omega), if_neg (by omega), if_neg (by omega), if_neg (by omega), if_neg (by omega), if_neg (by omega), if_neg (by omega)]
    · rw [hU, if_neg (by omega), if_neg (by omega), if_neg (by omega), if_neg (by omega), if_neg (by omega), if_neg (by omega), if_neg (by omega), if_neg (by omega)]
    · rw [hU, if_neg (by omega), if_neg (by omega), if_neg (by omega), if_neg (by omega), if_neg (by omega), if_neg (by omega), if_neg (by omega), if_neg (by omega)]
    · rw [hG, if_neg (by omega), if_neg (by omega), if_neg (by omega), if_neg (by omega), if_neg (by omega), if_neg (by omega), if_neg (by omega)]
  have v93 : v 93 (6 * i + c) = nI nm := by
    rw [hU, if_neg (by omega), if_neg (by omega), if_neg (by omega), if_neg (by omega), if_neg (by omega), if_pos ⟨rfl, rfl⟩]
  have v94 : v 94 (6 * i + c) = nI fl := by
    rw [hU, if_neg (by omega), if_neg (by omega), if_neg (by omega), if_neg (by omega), if_neg (by omega), if_neg (by omega), if_pos ⟨rfl, rfl⟩]
  have v95 : v 95 (6 * i + c) = nI h0 := by
    rw [hU, if_pos ⟨rfl, rfl⟩]
  have hone : en1 N (ε c) (6 * i + c) g' v := by
    refine ⟨?_, ?_, ?_, ⟨nm, hnm, v93⟩, ⟨fl, hfl, v94⟩, ⟨h0, hh, v95⟩, fun f hf => ⟨?_, Or.inl ⟨?_, ?_⟩⟩⟩
    · rw [hG, if_neg (by omega), if_neg (by omega), if_neg (by omega), if_neg (by omega), if_pos ⟨rfl, rfl, rfl⟩, v93]
    · rw [hG, if_neg (by omega), if_neg (by omega), if_neg (by omega), if_neg (by omega), if_neg (by omega), if_pos ⟨rfl, rfl, rfl⟩, v94]
    · rw [hG, if_pos ⟨rfl, rfl, rfl⟩, v95]
    · by_cases hfF : f = F
      · subst hfF
        refine Or.inr ⟨?_, ?_, ?_, ?_⟩
        · rw [hU, if_neg (by omega), if_neg (by omega), if_neg (by omega), if_pos ⟨rfl, rfl⟩]
        · rw [hU, if_neg (by omega), if_neg (by omega), if_pos ⟨rfl, rfl⟩]; exact hz
        · rw [hG, if_neg (by omega), if_neg (by omega), if_pos ⟨rfl, rfl, rfl⟩, hU, if_neg (by omega), if_neg (by omega), if_pos ⟨rfl, rfl⟩]
        · rw [hG, if_neg (by omega), if_pos ⟨rfl, rfl, rfl⟩, hU, if_neg (by omega), if_pos ⟨rfl, rfl⟩]
      · refine Or.inl ⟨?_, ?_⟩
        · rw [hU, if_neg (by omega), if_neg (by omega), if_neg (by omega), if_neg (by omega), if_neg (by omega), if_neg (by omega), if_neg (by omega), if_pos ⟨Or.inl rfl, by omega, by omega⟩]
        · rw [hG, if_neg (by omega), if_neg (by omega), if_neg (by omega), if_neg (by omega), if_neg (by omega), if_neg (by omega), if_pos ⟨Or.inl rfl, rfl, hf⟩]
    · rw [hU, if_neg (by omega), if_neg (by omega), if_neg (by omega), if_neg (by omega), if_neg (by omega), if_neg (by omega), if_neg (by omega), if_pos ⟨Or.inr rfl, by omega, by omega⟩]
    · rw [hG, if_neg (by omega), if_neg (by omega), if_neg (by omega), if_neg (by omega), if_neg (by omega), if_neg (by omega), if_pos ⟨Or.inr rfl, rfl, hf⟩]
  obtain ⟨r1, r2⟩ := rl_enM h hi hen hm (show c < c + 1 by omega) (by omega) (by omega) (fun j' hj' hne => by omega) (by rw [hG, if_neg (by omega), if_neg (by omega), if_neg (by omega), if_pos ⟨rfl, rfl, rfl⟩]) (by rw [hU, if_neg (by omega), if_neg (by omega), if_neg (by omega), if_neg (by omega), if_pos ⟨rfl, rfl⟩]) hone (fun j' hj' hne => by rw [v93, v94]; exact hno j' (by omega))
  exact ⟨r1, r2, hon.pk⟩
