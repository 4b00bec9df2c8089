abbrev qv : Type := Option (Int32 ⊕ ((Nat × Option Nat) ⊕ (Nat × Nat)))
def qi (x : Int32) : qv := some (.inl x)
def qr (ci : Nat) (o : Option Nat) : qv := some (.inr (.inl (ci, o)))
def qa (f a : Nat) : qv := some (.inr (.inr (f, a)))
def qu : qv := none
abbrev sg : Type := (Nat → Nat) × ((Nat → Nat → Nat → Int32) × ((Nat → Nat → Nat → Option Nat) × (Nat → Nat → Option Nat)))
def gC (g : sg) (ci : Nat) : Nat := g.1 ci
def gI (g : sg) (f a i : Nat) : Int32 := g.2.1 f a i
def gR (g : sg) (f a i : Nat) : Option Nat := g.2.2.1 f a i
def gA (g : sg) (f a : Nat) : Option Nat := g.2.2.2 f a
def pI (g : sg) (f a i : Nat) (v : Int32) : sg := (g.1, (fun f' a' i' => if f' = f ∧ a' = a ∧ i' = i then v else g.2.1 f' a' i'), g.2.2)
def pR (g : sg) (f a i : Nat) (v : Option Nat) : sg := (g.1, g.2.1, (fun f' a' i' => if f' = f ∧ a' = a ∧ i' = i then v else g.2.2.1 f' a' i'), g.2.2.2)
def pA (g : sg) (f a n : Nat) : sg := (g.1, (fun f' a' i' => if f' = f ∧ a' = a then 0 else g.2.1 f' a' i'), (fun f' a' i' => if f' = f ∧ a' = a then none else g.2.2.1 f' a' i'), fun f' a' => if f' = f ∧ a' = a then some n else g.2.2.2 f' a')
def pN (g : sg) (ci : Nat) : sg := (fun c => if c = ci then g.1 c + 1 else g.1 c, (fun f a i => if f / 64 = ci ∧ a = g.1 ci then 0 else g.2.1 f a i), (fun f a i => if f / 64 = ci ∧ a = g.1 ci then none else g.2.2.1 f a i), fun f a => if f / 64 = ci ∧ a = g.1 ci then none else g.2.2.2 f a)
def g0 : sg := (fun _ => 0, fun _ _ _ => 0, fun _ _ _ => none, fun _ _ => none)
theorem gI_pI (g : sg) (f a i f' a' i' : Nat) (v : Int32) : gI (pI g f a i v) f' a' i' = if f' = f ∧ a' = a ∧ i' = i then v else gI g f' a' i' := rfl
theorem gR_pI (g : sg) (f a i f' a' i' : Nat) (v : Int32) : gR (pI g f a i v) f' a' i' = gR g f' a' i' := rfl
theorem gA_pI (g : sg) (f a i f' a' : Nat) (v : Int32) : gA (pI g f a i v) f' a' = gA g f' a' := rfl
theorem gC_pI (g : sg) (f a i c : Nat) (v : Int32) : gC (pI g f a i v) c = gC g c := rfl
theorem gI_pR (g : sg) (f a i f' a' i' : Nat) (v : Option Nat) : gI (pR g f a i v) f' a' i' = gI g f' a' i' := rfl
theorem gR_pR (g : sg) (f a i f' a' i' : Nat) (v : Option Nat) : gR (pR g f a i v) f' a' i' = if f' = f ∧ a' = a ∧ i' = i then v else gR g f' a' i' := rfl
theorem gA_pR (g : sg) (f a i f' a' : Nat) (v : Option Nat) : gA (pR g f a i v) f' a' = gA g f' a' := rfl
theorem gC_pR (g : sg) (f a i c : Nat) (v : Option Nat) : gC (pR g f a i v) c = gC g c := rfl
theorem gI_pA (g : sg) (f a n f' a' i' : Nat) : gI (pA g f a n) f' a' i' = if f' = f ∧ a' = a then 0 else gI g f' a' i' := rfl
theorem gR_pA (g : sg) (f a n f' a' i' : Nat) : gR (pA g f a n) f' a' i' = if f' = f ∧ a' = a then none else gR g f' a' i' := rfl
theorem gA_pA (g : sg) (f a n f' a' : Nat) : gA (pA g f a n) f' a' = if f' = f ∧ a' = a then some n else gA g f' a' := rfl
theorem gC_pA (g : sg) (f a n c : Nat) : gC (pA g f a n) c = gC g c := rfl
theorem gI_pN (g : sg) (ci f a i : Nat) : gI (pN g ci) f a i = if f / 64 = ci ∧ a = gC g ci then 0 else gI g f a i := rfl
theorem gR_pN (g : sg) (ci f a i : Nat) : gR (pN g ci) f a i = if f / 64 = ci ∧ a = gC g ci then none else gR g f a i := rfl
theorem gA_pN (g : sg) (ci f a : Nat) : gA (pN g ci) f a = if f / 64 = ci ∧ a = gC g ci then none else gA g f a := rfl
theorem gC_pN (g : sg) (ci c : Nat) : gC (pN g ci) c = if c = ci then gC g c + 1 else gC g c := rfl
theorem g0_C (c : Nat) : gC g0 c = 0 := rfl
theorem g0_I (f a i : Nat) : gI g0 f a i = 0 := rfl
theorem g0_R (f a i : Nat) : gR g0 f a i = none := rfl
theorem g0_A (f a : Nat) : gA g0 f a = none := rfl
theorem qi_inj {x y : Int32} (h : qi x = qi y) : x = y := Sum.inl.inj (Option.some.inj h)
theorem qr_inj {c d : Nat} {o p : Option Nat} (h : qr c o = qr d p) : c = d ∧ o = p := Prod.mk.inj (Sum.inl.inj (Sum.inr.inj (Option.some.inj h)))
