/-! the relation of the two sides: g the objects, u the reference's arrays -/
def shC (S P : Nat) (g : sg) : Prop :=
  (gR g 5 0 0 = some 0 ∧ (∀ i, i < 5 → gR g 6 0 i = some i) ∧ (∀ i f, i < 5 → f < 4 → gR g 385 i f = some (4 * i + f)) ∧ (∀ i, i < 5 → gR g 386 i 0 = some i ∧ gR g 387 i 0 = some i ∧ gR g 388 i 0 = some i ∧ gR g 389 i 0 = some i ∧ gI g 384 i 0 = nI i)) ∧
  (gA g 2 0 = some 24 ∧ gA g 4 0 = some 4 ∧ gA g 6 0 = some 5 ∧ gA g 7 0 = some 48 ∧ gA g 8 0 = some 48 ∧ gA g 9 0 = some 120 ∧ gA g 320 0 = some 48 ∧ gA g 321 0 = some 48 ∧ gA g 322 0 = some 48) ∧
  (∀ i, i < 5 → gA g 385 i = some 4 ∧ gA g 704 i = some 50 ∧ gA g 768 i = some S ∧ gA g 769 i = some S ∧ gA g 512 i = some P ∧ gA g 259 i = some 10 ∧ gA g 260 i = some 10 ∧ gA g 261 i = some 10 ∧ gA g 262 i = some 10) ∧
  (∀ e, e < 20 → gA g 195 e = some 8) ∧ ∀ e, e < 5 * P → gA g 131 e = some 5 ∧ gA g 132 e = some 5 ∧ gA g 133 e = some 5 ∧ gA g 134 e = some 5
/-- text and scalars -/
def rT (g : sg) (u : MS) : Prop := gI g 0 0 0 = u 66 0 ∧ gI g 1 0 0 = u 67 0 ∧ ∃ t, t ≤ 24 ∧ gI g 3 0 0 = nI t ∧ u 68 0 = nI t ∧ ∀ i, i < t → gI g 2 0 i = u 69 i ∧ ∃ c, 32 ≤ c ∧ c ≤ 126 ∧ u 69 i = nI c
def pk3 (a b c : Nat) : Nat := if b = 32 then a else if c = 32 then a * 128 + b else (a * 128 + b) * 128 + c
def plN (c : Nat) : Prop := (97 ≤ c ∧ c ≤ 122) ∨ (48 ≤ c ∧ c ≤ 57)
def okT (a b c : Nat) : Prop := plN a ∧ ((b = 32 ∧ c = 32) ∨ (plN b ∧ (c = 32 ∨ plN c)))
/-- the names -/
def rN (N : Nat) (g : sg) (u : MS) : Prop := 1 ≤ N ∧ N ≤ 48 ∧ gI g 323 0 0 = nI N ∧ u 70 0 = nI N ∧ gI g 320 0 0 = -1 ∧ gI g 322 0 0 = 0 ∧ u 72 0 = 0 ∧ ∀ n, 1 ≤ n → n < N → gI g 320 0 n = u 71 n ∧ gI g 322 0 n = u 72 n ∧ (∃ a b c, okT a b c ∧ u 73 (3 * n) = nI a ∧ u 73 (3 * n + 1) = nI b ∧ u 73 (3 * n + 2) = nI c ∧ gI g 321 0 n = nI (pk3 a b c)) ∧ ∃ p d, p < n ∧ d < 4 ∧ u 71 n = nI p ∧ u 72 p = nI d ∧ u 72 n = nI (d + 1)
/-- a packet on a wire -/
def pkv (N R : Nat) (g : sg) (u : MS) (p : Nat) (k a b c d : Int32) : Prop :=
  p < gC g 7 ∧ gI g 448 p 0 = k ∧
  ((k = 0 ∧ gI g 449 p 0 = a ∧ gI g 450 p 0 = b ∧ gI g 451 p 0 = c ∧ gI g 452 p 0 = d ∧ (∃ n, n < N ∧ a = nI n) ∧ (∃ f, f < 4 ∧ b = nI f) ∧ (∃ q, q < 120 ∧ c = nI (1000 + q)) ∧ ∃ h, h ≤ 9 ∧ d = nI h) ∨
   (k = 1 ∧ gI g 449 p 0 = a ∧ gI g 453 p 0 = b ∧ gI g 454 p 0 = c ∧ ∃ n, n < N ∧ a = nI n) ∨
   (k = 2 ∧ gI g 449 p 0 = a ∧ gI g 450 p 0 = b ∧ gI g 451 p 0 = c ∧ ∃ q, q < 120 ∧ c = nI (1000 + q)) ∨
   (k = 3 ∧ gI g 455 p 0 = a ∧ gI g 449 p 0 = b ∧ gI g 456 p 0 = c ∧ gI g 457 p 0 = d ∧ (∃ r, r < R ∧ u 80 r = a ∧ u 81 r = b) ∧ ∃ e, 1 ≤ e ∧ e ≤ 99 ∧ d = nI e))
/-- the links and their wires -/
def rW (N R : Nat) (g : sg) (u : MS) : Prop := ∀ e, e < 20 → gI g 194 e 0 = u 75 e ∧ (u 75 e = 0 ∨ u 75 e = 1) ∧
  ((u 74 e = 0 ∧ gI g 192 e 0 = -1 ∧ gI g 193 e 0 = -1 ∧ u 75 e = 0) ∨ ∃ b f, b < 5 ∧ f < 4 ∧ u 74 e = nI (4 * b + f + 1) ∧ gI g 192 e 0 = nI b ∧ gI g 193 e 0 = nI f ∧ u 74 (4 * b + f) = nI (e + 1)) ∧
  ∃ w, w ≤ 8 ∧ gI g 196 e 0 = nI w ∧ u 76 e = nI w ∧ (0 < w → u 75 e = 1) ∧ ∀ j, j < w → ∃ p, gR g 195 e j = some p ∧ pkv N R g u p (u 77 (40 * e + 5 * j)) (u 77 (40 * e + 5 * j + 1)) (u 77 (40 * e + 5 * j + 2)) (u 77 (40 * e + 5 * j + 3)) (u 77 (40 * e + 5 * j + 4))
/-- how many there are -/
def cn (p : Nat → Bool) : Nat → Nat
  | 0 => 0
  | n + 1 => if p n = true then cn p n + 1 else cn p n
/-- the reference's table of routes -/
def rG (N R : Nat) (u : MS) : Prop := R ≤ 50 ∧ u 79 0 = nI R ∧ (∀ r, r < R → (∃ o, o < 5 ∧ u 80 r = nI o) ∧ ∃ n, n < N ∧ u 81 r = nI n) ∧ (∀ r s, r < R → s < R → u 80 r = u 80 s → u 81 r = u 81 s → r = s) ∧ ∀ o, o < 5 → cn (fun r => decide (u 80 r = nI o)) R ≤ 10
/-- a node's rows: row j is the object ρ j and the reference's row π j -/
def rRn (R i m : Nat) (ρ π : Nat → Nat) (g : sg) (u : MS) : Prop := m ≤ R ∧ gI g 705 i 0 = nI m ∧
  (∀ j, j < m → gR g 704 i j = some (ρ j) ∧ ρ j < gC g 10 ∧ gA g 643 (ρ j) = some 5 ∧ π j < R ∧ gI g 640 (ρ j) 0 = u 80 (π j) ∧ gI g 641 (ρ j) 0 = u 81 (π j) ∧ gI g 642 (ρ j) 0 = u 82 (50 * i + π j) ∧ ∀ f, f < 5 → ∃ c, c ≤ 100 ∧ u 83 (250 * i + 5 * π j + f) = nI c ∧ gI g 643 (ρ j) f = nI c - 1) ∧
  (∀ j k, j < m → k < m → π j = π k → j = k) ∧
  (∀ r, r < R → (∀ j, j < m → π j ≠ r) → u 82 (50 * i + r) = 0 ∧ ∀ f, f < 5 → u 83 (250 * i + 5 * r + f) = 0) ∧
  ∀ r, r < R → u 80 r = nI i → (∃ j, j < m ∧ π j = r) ∧ ∀ f, f < 4 → u 83 (250 * i + 5 * r + f) = 0
def rR (R : Nat) (g : sg) (u : MS) : Prop := (∀ i, i < 5 → ∃ (m : Nat) (ρ π : Nat → Nat), rRn R i m ρ π g u) ∧ (∀ i j i' j' a m m', i < 5 → i' < 5 → gI g 705 i 0 = nI m → gI g 705 i' 0 = nI m' → m ≤ 50 → m' ≤ 50 → j < m → j' < m' → gR g 704 i j = some a → gR g 704 i' j' = some a → i = i' ∧ j = j') ∧ ∀ i r, i < 5 → R ≤ r → r < 50 → u 82 (50 * i + r) = 0 ∧ ∀ f, f < 5 → u 83 (250 * i + 5 * r + f) = 0
/-- a data -/
def dtv (N : Nat) (g : sg) (p : Nat) (a b c : Int32) : Prop := p < gC g 7 ∧ gI g 448 p 0 = 1 ∧ gI g 449 p 0 = a ∧ gI g 453 p 0 = b ∧ gI g 454 p 0 = c ∧ ∃ n, n < N ∧ a = nI n
/-- the stores -/
def rS (N S : Nat) (g : sg) (u : MS) : Prop := S ≤ 6 ∧ u 64 0 = nI S ∧ ∀ i, i < 5 → ∃ c, c ≤ S ∧ gI g 770 i 0 = nI c ∧ u 84 i = nI c ∧ (∀ j, j < c → (∃ p, gR g 768 i j = some p ∧ dtv N g p (u 85 (6 * i + j)) (u 86 (6 * i + j)) (u 87 (6 * i + j))) ∧ gI g 769 i j = u 88 (6 * i + j)) ∧ ∀ j k, j < c → k < c → u 85 (6 * i + j) = u 85 (6 * i + k) → j = k
/-- an entry's faces -/
def enf (g : sg) (u : MS) (a k f : Nat) : Prop :=
  ((u 96 (k + f) = 0 ∧ gI g 131 a f = -1) ∨ (u 96 (k + f) = 1 ∧ (∃ q, q < 120 ∧ u 97 (k + f) = nI (1000 + q)) ∧ gI g 131 a f = u 97 (k + f) ∧ gI g 132 a f = u 98 (k + f))) ∧
  ((u 99 (k + f) = 0 ∧ gI g 133 a f = -1) ∨ ((∃ q, q < 120 ∧ u 100 (k + f) = nI (1000 + q)) ∧ gI g 133 a f = u 100 (k + f) ∧ ((u 99 (k + f) = 1 ∧ gI g 134 a f = 0) ∨ (u 99 (k + f) = 2 ∧ gI g 134 a f = 1))))
/-- a node's entries: place j is the object ε j -/
def rEn (N P i c : Nat) (ε : Nat → Nat) (g : sg) (u : MS) : Prop := c ≤ P ∧ gI g 513 i 0 = nI c ∧ u 92 i = nI c ∧ (∀ j, j < P → gR g 512 i j = some (ε j) ∧ P * i ≤ ε j ∧ ε j < P * i + P) ∧ (∀ j k, j < P → k < P → ε j = ε k → j = k) ∧
  (∀ j, j < c → gI g 128 (ε j) 0 = u 93 (6 * i + j) ∧ gI g 129 (ε j) 0 = u 94 (6 * i + j) ∧ gI g 130 (ε j) 0 = u 95 (6 * i + j) ∧ (∃ n, n < N ∧ u 93 (6 * i + j) = nI n) ∧ (∃ f, f < 4 ∧ u 94 (6 * i + j) = nI f) ∧ (∃ h, h ≤ 9 ∧ u 95 (6 * i + j) = nI h) ∧ ∀ f, f < 5 → enf g u (ε j) (5 * (6 * i + j)) f) ∧
  ∀ j k, j < c → k < c → u 93 (6 * i + j) = u 93 (6 * i + k) → u 94 (6 * i + j) = u 94 (6 * i + k) → j = k
def rE (N P : Nat) (g : sg) (u : MS) : Prop := 1 ≤ P ∧ P ≤ 6 ∧ u 65 0 = nI P ∧ ∀ i, i < 5 → ∃ (c : Nat) (ε : Nat → Nat), rEn N P i c ε g u
/-- the requests -/
def rQ (N Q : Nat) (g : sg) (u : MS) : Prop := Q ≤ 120 ∧ gC g 9 = Q ∧ gI g 10 0 0 = nI Q ∧ u 101 0 = nI Q ∧ (∀ q, q < Q → gR g 9 0 q = some q ∧ gI g 576 q 0 = u 102 q ∧ gI g 577 q 0 = u 103 q ∧ gI g 578 q 0 = u 104 q ∧ gI g 579 q 0 = u 106 q ∧ gI g 580 q 0 = u 105 q ∧ (∃ s, s ≤ 3 ∧ u 105 q = nI s) ∧
  ((gR g 581 q 0 = none ∧ u 107 q = -1 ∧ u 108 q = 0 ∧ ¬ u 105 q = 1) ∨ ∃ p c, gR g 581 q 0 = some p ∧ dtv N g p (u 107 q) (u 108 q) c ∧ u 105 q = 1)) ∧ ∀ q, Q ≤ q → q < 120 → u 108 q = 0
/-- the fetches -/
def rF (N Q : Nat) (g : sg) (u : MS) : Prop := ∀ i, i < 5 → ∃ c w, c ≤ 10 ∧ w ≤ 4 ∧ gI g 256 i 0 = nI c ∧ u 109 i = nI c ∧ gI g 257 i 0 = nI w ∧ u 110 i = nI w ∧ gI g 258 i 0 = u 111 i ∧ (u 111 i = 0 ∨ u 111 i = 1) ∧ ∀ j, j < c → gI g 259 i j = u 112 (10 * i + j) ∧ (∃ n, n < N ∧ u 112 (10 * i + j) = nI n) ∧ gI g 260 i j = u 113 (10 * i + j) ∧ ∃ t, t ≤ 3 ∧ gI g 261 i j = nI t ∧ u 114 (10 * i + j) = nI t ∧
  ((u 113 (10 * i + j) = 0 ∧ (u 111 i = 0 → t < 3)) ∨ ∃ q, q < Q ∧ gR g 262 i j = some q ∧ u 115 (10 * i + j) = nI q ∧ (u 113 (10 * i + j) = 1 ∨ (u 113 (10 * i + j) = 2 ∧ u 105 q = 1)))
/-- what is published -/
def rP (N : Nat) (g : sg) (u : MS) : Prop := ∀ n, n < 48 → (u 89 n = 0 ∧ gR g 7 0 n = none) ∨ (n < N ∧ ∃ i p, i < 5 ∧ u 89 n = nI (i + 1) ∧ gI g 8 0 n = nI i ∧ gR g 7 0 n = some p ∧ dtv N g p (nI n) (u 90 n) (u 91 n))
def rl9 (S P N R Q : Nat) (g : sg) (u : MS) : Prop := shC S P g ∧ rT g u ∧ rN N g u ∧ rW N R g u ∧ rG N R u ∧ rR R g u ∧ rS N S g u ∧ rE N P g u ∧ rQ N Q g u ∧ rF N Q g u ∧ rP N g u
def RL (g : sg) (u : MS) : Prop := ∃ S P N R Q, rl9 S P N R Q g u
theorem rl9.ag {S P N R Q : Nat} {g g1 : sg} {u : MS} (h : rl9 S P N R Q g u) (ha : nnAG 1 g g1) : rl9 S P N R Q g1 u := by
  have eC : ∀ c, sdW 1 c = false → gC g1 c = gC g c := fun c hc => (ha c hc).1
  have eI : ∀ f, sdW 1 (f / 64) = false → gI g1 f = gI g f := fun f hf => by funext a i; exact ((ha _ hf).2 f rfl).1 a i
  have eR : ∀ f, sdW 1 (f / 64) = false → gR g1 f = gR g f := fun f hf => by funext a i; exact ((ha _ hf).2 f rfl).2.1 a i
  have eA : ∀ f, sdW 1 (f / 64) = false → gA g1 f = gA g f := fun f hf => by funext a; exact ((ha _ hf).2 f rfl).2.2 a
  unfold rl9 shC rT rN rW pkv rR rRn rS rE rEn enf rQ rF rP dtv at h ⊢
  rw [eC 7 rfl, eC 9 rfl, eC 10 rfl]
  simp only [eI 0 rfl, eI 1 rfl, eI 2 rfl, eI 3 rfl, eI 8 rfl, eI 10 rfl, eI 128 rfl, eI 129 rfl, eI 130 rfl, eI 131 rfl, eI 132 rfl, eI 133 rfl, eI 134 rfl, eI 192 rfl, eI 193 rfl, eI 194 rfl, eI 196 rfl, eI 256 rfl, eI 257 rfl, eI 258 rfl, eI 259 rfl, eI 260 rfl, eI 261 rfl, eI 320 rfl, eI 321 rfl, eI 322 rfl, eI 323 rfl, eI 384 rfl, eI 448 rfl, eI 449 rfl, eI 450 rfl, eI 451 rfl, eI 452 rfl, eI 453 rfl, eI 454 rfl, eI 455 rfl, eI 456 rfl, eI 457 rfl, eI 513 rfl, eI 576 rfl, eI 577 rfl, eI 578 rfl, eI 579 rfl, eI 580 rfl, eI 640 rfl, eI 641 rfl, eI 642 rfl, eI 643 rfl, eI 705 rfl, eI 769 rfl, eI 770 rfl,
    eR 5 rfl, eR 6 rfl, eR 7 rfl, eR 9 rfl, eR 195 rfl, eR 262 rfl, eR 385 rfl, eR 386 rfl, eR 387 rfl, eR 388 rfl, eR 389 rfl, eR 512 rfl, eR 581 rfl, eR 704 rfl, eR 768 rfl,
    eA 2 rfl, eA 4 rfl, eA 6 rfl, eA 7 rfl, eA 8 rfl, eA 9 rfl, eA 131 rfl, eA 132 rfl, eA 133 rfl, eA 134 rfl, eA 195 rfl, eA 259 rfl, eA 260 rfl, eA 261 rfl, eA 262 rfl, eA 320 rfl, eA 321 rfl, eA 322 rfl, eA 385 rfl, eA 512 rfl, eA 643 rfl, eA 704 rfl, eA 768 rfl, eA 769 rfl]
  exact h
theorem RL.ag {g g1 : sg} {u : MS} (h : RL g u) (ha : nnAG 1 g g1) : RL g1 u := by
  obtain ⟨S, P, N, R, Q, h⟩ := h
  exact ⟨S, P, N, R, Q, h.ag ha⟩
