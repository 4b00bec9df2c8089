abbrev MS : Type := Nat → Nat → Int32
def mu (μ : MS) (f i : Nat) (x : Int32) : MS := fun f' i' => if f' = f ∧ i' = i then x else μ f' i'
theorem mu_at (μ : MS) (f i f' i' : Nat) (x : Int32) : mu μ f i x f' i' = if f' = f ∧ i' = i then x else μ f' i' := rfl
def absM (g : sg) : MS := fun f i => if f / 64 = 1 then gI g f 0 i else 0
def shL : List (Nat × Nat) := [(69, 24), (71, 48), (72, 48), (73, 144), (74, 20), (75, 20), (76, 20), (77, 800), (78, 5), (80, 50), (81, 50), (82, 250), (83, 1250), (84, 5), (85, 30), (86, 30), (87, 30), (88, 30), (89, 48), (90, 48), (91, 48), (92, 5), (93, 30), (94, 30), (95, 30), (96, 150), (97, 150), (98, 150), (99, 150), (100, 150), (102, 120), (103, 120), (104, 120), (105, 120), (106, 120), (107, 120), (108, 120), (109, 5), (110, 5), (111, 5), (112, 50), (113, 50), (114, 50), (115, 50)]
def shM (g : sg) : Prop := ∀ q ∈ shL, gA g q.1 0 = some q.2
theorem sm_69 : (69, 24) ∈ shL := List.mem_of_getElem? (i := 0) rfl
theorem sm_71 : (71, 48) ∈ shL := List.mem_of_getElem? (i := 1) rfl
theorem sm_72 : (72, 48) ∈ shL := List.mem_of_getElem? (i := 2) rfl
theorem sm_73 : (73, 144) ∈ shL := List.mem_of_getElem? (i := 3) rfl
theorem sm_74 : (74, 20) ∈ shL := List.mem_of_getElem? (i := 4) rfl
theorem sm_75 : (75, 20) ∈ shL := List.mem_of_getElem? (i := 5) rfl
theorem sm_76 : (76, 20) ∈ shL := List.mem_of_getElem? (i := 6) rfl
theorem sm_77 : (77, 800) ∈ shL := List.mem_of_getElem? (i := 7) rfl
theorem sm_78 : (78, 5) ∈ shL := List.mem_of_getElem? (i := 8) rfl
theorem sm_80 : (80, 50) ∈ shL := List.mem_of_getElem? (i := 9) rfl
theorem sm_81 : (81, 50) ∈ shL := List.mem_of_getElem? (i := 10) rfl
theorem sm_82 : (82, 250) ∈ shL := List.mem_of_getElem? (i := 11) rfl
theorem sm_83 : (83, 1250) ∈ shL := List.mem_of_getElem? (i := 12) rfl
theorem sm_84 : (84, 5) ∈ shL := List.mem_of_getElem? (i := 13) rfl
theorem sm_85 : (85, 30) ∈ shL := List.mem_of_getElem? (i := 14) rfl
theorem sm_86 : (86, 30) ∈ shL := List.mem_of_getElem? (i := 15) rfl
theorem sm_87 : (87, 30) ∈ shL := List.mem_of_getElem? (i := 16) rfl
theorem sm_88 : (88, 30) ∈ shL := List.mem_of_getElem? (i := 17) rfl
theorem sm_89 : (89, 48) ∈ shL := List.mem_of_getElem? (i := 18) rfl
theorem sm_90 : (90, 48) ∈ shL := List.mem_of_getElem? (i := 19) rfl
theorem sm_91 : (91, 48) ∈ shL := List.mem_of_getElem? (i := 20) rfl
theorem sm_92 : (92, 5) ∈ shL := List.mem_of_getElem? (i := 21) rfl
theorem sm_93 : (93, 30) ∈ shL := List.mem_of_getElem? (i := 22) rfl
theorem sm_94 : (94, 30) ∈ shL := List.mem_of_getElem? (i := 23) rfl
theorem sm_95 : (95, 30) ∈ shL := List.mem_of_getElem? (i := 24) rfl
theorem sm_96 : (96, 150) ∈ shL := List.mem_of_getElem? (i := 25) rfl
theorem sm_97 : (97, 150) ∈ shL := List.mem_of_getElem? (i := 26) rfl
theorem sm_98 : (98, 150) ∈ shL := List.mem_of_getElem? (i := 27) rfl
theorem sm_99 : (99, 150) ∈ shL := List.mem_of_getElem? (i := 28) rfl
theorem sm_100 : (100, 150) ∈ shL := List.mem_of_getElem? (i := 29) rfl
theorem sm_102 : (102, 120) ∈ shL := List.mem_of_getElem? (i := 30) rfl
theorem sm_103 : (103, 120) ∈ shL := List.mem_of_getElem? (i := 31) rfl
theorem sm_104 : (104, 120) ∈ shL := List.mem_of_getElem? (i := 32) rfl
theorem sm_105 : (105, 120) ∈ shL := List.mem_of_getElem? (i := 33) rfl
theorem sm_106 : (106, 120) ∈ shL := List.mem_of_getElem? (i := 34) rfl
theorem sm_107 : (107, 120) ∈ shL := List.mem_of_getElem? (i := 35) rfl
theorem sm_108 : (108, 120) ∈ shL := List.mem_of_getElem? (i := 36) rfl
theorem sm_109 : (109, 5) ∈ shL := List.mem_of_getElem? (i := 37) rfl
theorem sm_110 : (110, 5) ∈ shL := List.mem_of_getElem? (i := 38) rfl
theorem sm_111 : (111, 5) ∈ shL := List.mem_of_getElem? (i := 39) rfl
theorem sm_112 : (112, 50) ∈ shL := List.mem_of_getElem? (i := 40) rfl
theorem sm_113 : (113, 50) ∈ shL := List.mem_of_getElem? (i := 41) rfl
theorem sm_114 : (114, 50) ∈ shL := List.mem_of_getElem? (i := 42) rfl
theorem sm_115 : (115, 50) ∈ shL := List.mem_of_getElem? (i := 43) rfl
theorem shM.ext {g g1 : sg} (h : shM g) (hx : gExt g g1) : shM g1 := fun q hq => hx.2 _ _ _ (h q hq)
theorem absM_of {g : sg} {μ : MS} (h : absM g = μ) {f : Nat} (hf : f / 64 = 1) (i : Nat) : gI g f 0 i = μ f i := by
  rw [← h]
  exact (if_pos hf).symm
theorem absM_pI {g : sg} {μ : MS} (h : absM g = μ) {f : Nat} (hf : f / 64 = 1) (i : Nat) (x : Int32) : absM (pI g f 0 i x) = mu μ f i x := by
  funext f' i'
  rw [← h]
  unfold absM mu
  rw [gI_pI]
  by_cases h1 : f' = f ∧ i' = i
  · obtain ⟨rfl, rfl⟩ := h1
    rw [if_pos hf, if_pos ⟨rfl, rfl, rfl⟩, if_pos ⟨rfl, rfl⟩]
  · rw [if_neg h1, if_neg (show ¬ (f' = f ∧ (0 : Nat) = 0 ∧ i' = i) from fun z => h1 ⟨z.1, z.2.2⟩)]
theorem absM_ag {g g1 : sg} (h : nnAG 0 g g1) : absM g1 = absM g := by
  funext f i
  unfold absM
  by_cases hf : f / 64 = 1
  · rw [if_pos hf, if_pos hf]
    exact ((h 1 rfl).2 f hf).1 0 i
  · rw [if_neg hf, if_neg hf]
def mWP (M : mrec) (pc : Nat) (ls st : List qv) (μ : MS) (Z : qv → MS → Prop) : Prop := ∀ (X : Nat × (Nat → Int32)) (g : sg), shM g → absM g = μ → nnWP X M 0 pc ls st g (fun r g' => shM g' ∧ Z r (absM g'))
def mMT (M : mrec) (as : List qv) (μ : MS) (Z : qv → MS → Prop) : Prop := mWP M 0 (as ++ List.replicate (mL M - as.length) none) [] μ Z
theorem mMT.nn {X : Nat × (Nat → Int32)} {M : mrec} {as : List qv} {g : sg} {Z : qv → MS → Prop} (h : mMT M as (absM g) Z) (hs : shM g) : nnMT X M 0 as g (fun r g' => shM g' ∧ Z r (absM g')) := h X g hs rfl
def mV (Z : MS → Prop) : qv → MS → Prop := fun r μ => r = none ∧ Z μ
def mI (Z : Int32 → MS → Prop) : qv → MS → Prop := fun r μ => ∃ x, r = qi x ∧ Z x μ
theorem mmono {M : mrec} {as : List qv} {μ : MS} {Z Z' : qv → MS → Prop} (h : mMT M as μ Z) (hz : ∀ r μ1, Z r μ1 → Z' r μ1) : mMT M as μ Z' := fun X g hs hm => (h X g hs hm).mono fun r g1 z => ⟨z.1, hz _ _ z.2⟩
theorem mp_iconst {M : mrec} {pc : Nat} {ls st : List qv} {μ : MS} {Z : qv → MS → Prop} {n : Int} {v : Int32} (hd : decode (mB M) pc = .ok (.iconst n, 1)) (hv : Int32.ofInt n = v) (kk : mWP M (pc + 1) ls (qi v :: st) μ Z) : mWP M pc ls st μ Z := fun X g hs hm => wp_iconst hd hv (kk X g hs hm)
theorem mp_bipush {M : mrec} {pc : Nat} {ls st : List qv} {μ : MS} {Z : qv → MS → Prop} {n : Int} {v : Int32} (hd : decode (mB M) pc = .ok (.bipush n, 2)) (hv : (Int8.ofInt n).toInt32 = v) (kk : mWP M (pc + 2) ls (qi v :: st) μ Z) : mWP M pc ls st μ Z := fun X g hs hm => wp_bipush hd hv (kk X g hs hm)
theorem mp_sipush {M : mrec} {pc : Nat} {ls st : List qv} {μ : MS} {Z : qv → MS → Prop} {n : Int} {v : Int32} (hd : decode (mB M) pc = .ok (.sipush n, 3)) (hv : (Int16.ofInt n).toInt32 = v) (kk : mWP M (pc + 3) ls (qi v :: st) μ Z) : mWP M pc ls st μ Z := fun X g hs hm => wp_sipush hd hv (kk X g hs hm)
theorem mp_iload_n {M : mrec} {pc : Nat} {ls st : List qv} {μ : MS} {Z : qv → MS → Prop} {j : Fin 4} {i : Nat} {x : Int32} (hd : decode (mB M) pc = .ok (.iload_n j, 1)) (hi : (j : Nat) = i) (hl : ls[i]? = some (qi x)) (kk : mWP M (pc + 1) ls (qi x :: st) μ Z) : mWP M pc ls st μ Z := fun X g hs hm => wp_iload_n hd hi hl (kk X g hs hm)
theorem mp_iload {M : mrec} {pc : Nat} {ls st : List qv} {μ : MS} {Z : qv → MS → Prop} {i : Nat} {x : Int32} (hd : decode (mB M) pc = .ok (.iload i, 2)) (hl : ls[i]? = some (qi x)) (kk : mWP M (pc + 2) ls (qi x :: st) μ Z) : mWP M pc ls st μ Z := fun X g hs hm => wp_iload hd hl (kk X g hs hm)
theorem mp_aload_n {M : mrec} {pc : Nat} {ls st : List qv} {μ : MS} {Z : qv → MS → Prop} {j : Fin 4} {i : Nat} {v : qv} (hd : decode (mB M) pc = .ok (.aload_n j, 1)) (hi : (j : Nat) = i) (hl : ls[i]? = some v) (hv : isRf v) (kk : mWP M (pc + 1) ls (v :: st) μ Z) : mWP M pc ls st μ Z := fun X g hs hm => wp_aload_n hd hi hl hv (kk X g hs hm)
theorem mp_istore_n {M : mrec} {pc : Nat} {ls st : List qv} {μ : MS} {Z : qv → MS → Prop} {j : Fin 4} {i : Nat} {x : Int32} (hd : decode (mB M) pc = .ok (.istore_n j, 1)) (hi : (j : Nat) = i) (ls' : List qv) (hn : i < mL M) (hs0 : ls.set i (qi x) = ls') (kk : mWP M (pc + 1) ls' st μ Z) : mWP M pc ls (qi x :: st) μ Z := fun X g hs hm => wp_istore_n hd hi ls' hn hs0 (kk X g hs hm)
theorem mp_istore {M : mrec} {pc : Nat} {ls st : List qv} {μ : MS} {Z : qv → MS → Prop} {i : Nat} {x : Int32} (hd : decode (mB M) pc = .ok (.istore i, 2)) (ls' : List qv) (hn : i < mL M) (hs0 : ls.set i (qi x) = ls') (kk : mWP M (pc + 2) ls' st μ Z) : mWP M pc ls (qi x :: st) μ Z := fun X g hs hm => wp_istore hd ls' hn hs0 (kk X g hs hm)
theorem mp_iinc {M : mrec} {pc : Nat} {ls st : List qv} {μ : MS} {Z : qv → MS → Prop} {i : Nat} {n : Int} {x v : Int32} (hd : decode (mB M) pc = .ok (.iinc i n, 3)) (hl : ls[i]? = some (qi x)) (hv : x + Int32.ofInt n = v) (ls' : List qv) (hn : i < mL M) (hs0 : ls.set i (qi v) = ls') (kk : mWP M (pc + 3) ls' st μ Z) : mWP M pc ls st μ Z := fun X g hs hm => wp_iinc hd hl hv ls' hn hs0 (kk X g hs hm)
theorem mp_iadd {M : mrec} {pc : Nat} {ls st : List qv} {μ : MS} {Z : qv → MS → Prop} {x y : Int32} (hd : decode (mB M) pc = .ok (.iadd, 1)) (kk : mWP M (pc + 1) ls (qi (x + y) :: st) μ Z) : mWP M pc ls (qi y :: qi x :: st) μ Z := fun X g hs hm => wp_iadd hd (kk X g hs hm)
theorem mp_isub {M : mrec} {pc : Nat} {ls st : List qv} {μ : MS} {Z : qv → MS → Prop} {x y : Int32} (hd : decode (mB M) pc = .ok (.isub, 1)) (kk : mWP M (pc + 1) ls (qi (x - y) :: st) μ Z) : mWP M pc ls (qi y :: qi x :: st) μ Z := fun X g hs hm => wp_isub hd (kk X g hs hm)
theorem mp_imul {M : mrec} {pc : Nat} {ls st : List qv} {μ : MS} {Z : qv → MS → Prop} {x y : Int32} (hd : decode (mB M) pc = .ok (.imul, 1)) (kk : mWP M (pc + 1) ls (qi (x * y) :: st) μ Z) : mWP M pc ls (qi y :: qi x :: st) μ Z := fun X g hs hm => wp_imul hd (kk X g hs hm)
theorem mp_iand {M : mrec} {pc : Nat} {ls st : List qv} {μ : MS} {Z : qv → MS → Prop} {x y : Int32} (hd : decode (mB M) pc = .ok (.iand, 1)) (kk : mWP M (pc + 1) ls (qi (x &&& y) :: st) μ Z) : mWP M pc ls (qi y :: qi x :: st) μ Z := fun X g hs hm => wp_iand hd (kk X g hs hm)
theorem mp_ior {M : mrec} {pc : Nat} {ls st : List qv} {μ : MS} {Z : qv → MS → Prop} {x y : Int32} (hd : decode (mB M) pc = .ok (.ior, 1)) (kk : mWP M (pc + 1) ls (qi (x ||| y) :: st) μ Z) : mWP M pc ls (qi y :: qi x :: st) μ Z := fun X g hs hm => wp_ior hd (kk X g hs hm)
theorem mp_ishl {M : mrec} {pc : Nat} {ls st : List qv} {μ : MS} {Z : qv → MS → Prop} {x y : Int32} (hd : decode (mB M) pc = .ok (.ishl, 1)) (kk : mWP M (pc + 1) ls (qi (x <<< (y &&& 31)) :: st) μ Z) : mWP M pc ls (qi y :: qi x :: st) μ Z := fun X g hs hm => wp_ishl hd (kk X g hs hm)
theorem mp_ishr {M : mrec} {pc : Nat} {ls st : List qv} {μ : MS} {Z : qv → MS → Prop} {x y : Int32} (hd : decode (mB M) pc = .ok (.ishr, 1)) (kk : mWP M (pc + 1) ls (qi (x >>> (y &&& 31)) :: st) μ Z) : mWP M pc ls (qi y :: qi x :: st) μ Z := fun X g hs hm => wp_ishr hd (kk X g hs hm)
theorem mp_idiv {M : mrec} {pc : Nat} {ls st : List qv} {μ : MS} {Z : qv → MS → Prop} {x y : Int32} (hd : decode (mB M) pc = .ok (.idiv, 1)) (hne : ¬ y = 0) (kk : mWP M (pc + 1) ls (qi (x / y) :: st) μ Z) : mWP M pc ls (qi y :: qi x :: st) μ Z := fun X g hs hm => wp_idiv hd hne (kk X g hs hm)
theorem mp_irem {M : mrec} {pc : Nat} {ls st : List qv} {μ : MS} {Z : qv → MS → Prop} {x y : Int32} (hd : decode (mB M) pc = .ok (.irem, 1)) (hne : ¬ y = 0) (kk : mWP M (pc + 1) ls (qi (x - x / y * y) :: st) μ Z) : mWP M pc ls (qi y :: qi x :: st) μ Z := fun X g hs hm => wp_irem hd hne (kk X g hs hm)
theorem mp_i2c {M : mrec} {pc : Nat} {ls st : List qv} {μ : MS} {Z : qv → MS → Prop} {x : Int32} (hd : decode (mB M) pc = .ok (.i2c, 1)) (kk : mWP M (pc + 1) ls (qi ((x.toUInt32 % 65536).toInt32) :: st) μ Z) : mWP M pc ls (qi x :: st) μ Z := fun X g hs hm => wp_i2c hd (kk X g hs hm)
theorem mp_dup {M : mrec} {pc : Nat} {ls st : List qv} {μ : MS} {Z : qv → MS → Prop} {v : qv} (hd : decode (mB M) pc = .ok (.dup, 1)) (kk : mWP M (pc + 1) ls (v :: v :: st) μ Z) : mWP M pc ls (v :: st) μ Z := fun X g hs hm => wp_dup hd (kk X g hs hm)
theorem mp_pop {M : mrec} {pc : Nat} {ls st : List qv} {μ : MS} {Z : qv → MS → Prop} {v : qv} (hd : decode (mB M) pc = .ok (.pop, 1)) (kk : mWP M (pc + 1) ls st μ Z) : mWP M pc ls (v :: st) μ Z := fun X g hs hm => wp_pop hd (kk X g hs hm)
theorem mp_dup2 {M : mrec} {pc : Nat} {ls st : List qv} {μ : MS} {Z : qv → MS → Prop} {v w : qv} (hd : decode (mB M) pc = .ok (.dup2, 1)) (kk : mWP M (pc + 1) ls (v :: w :: v :: w :: st) μ Z) : mWP M pc ls (v :: w :: st) μ Z := fun X g hs hm => wp_dup2 hd (kk X g hs hm)
theorem mp_icmp_eq {M : mrec} {pc : Nat} {ls st : List qv} {μ : MS} {Z : qv → MS → Prop} {x y : Int32} {off : Int} {tgt : Nat} (hd : decode (mB M) pc = .ok (.if_icmp .eq off, 3)) (ht : (pc : Int) + off = (tgt : Int)) (kt : x = y → mWP M tgt ls st μ Z) (kf : ¬ x = y → mWP M (pc + 3) ls st μ Z) : mWP M pc ls (qi y :: qi x :: st) μ Z := fun X g hs hm => wp_icmp_eq hd ht (fun z => kt z X g hs hm) (fun z => kf z X g hs hm)
theorem mp_if_eq {M : mrec} {pc : Nat} {ls st : List qv} {μ : MS} {Z : qv → MS → Prop} {x : Int32} {off : Int} {tgt : Nat} (hd : decode (mB M) pc = .ok (.ifCond .eq off, 3)) (ht : (pc : Int) + off = (tgt : Int)) (kt : x = 0 → mWP M tgt ls st μ Z) (kf : ¬ x = 0 → mWP M (pc + 3) ls st μ Z) : mWP M pc ls (qi x :: st) μ Z := fun X g hs hm => wp_if_eq hd ht (fun z => kt z X g hs hm) (fun z => kf z X g hs hm)
theorem mp_icmp_ne {M : mrec} {pc : Nat} {ls st : List qv} {μ : MS} {Z : qv → MS → Prop} {x y : Int32} {off : Int} {tgt : Nat} (hd : decode (mB M) pc = .ok (.if_icmp .ne off, 3)) (ht : (pc : Int) + off = (tgt : Int)) (kt : ¬ x = y → mWP M tgt ls st μ Z) (kf : x = y → mWP M (pc + 3) ls st μ Z) : mWP M pc ls (qi y :: qi x :: st) μ Z := fun X g hs hm => wp_icmp_ne hd ht (fun z => kt z X g hs hm) (fun z => kf z X g hs hm)
theorem mp_if_ne {M : mrec} {pc : Nat} {ls st : List qv} {μ : MS} {Z : qv → MS → Prop} {x : Int32} {off : Int} {tgt : Nat} (hd : decode (mB M) pc = .ok (.ifCond .ne off, 3)) (ht : (pc : Int) + off = (tgt : Int)) (kt : ¬ x = 0 → mWP M tgt ls st μ Z) (kf : x = 0 → mWP M (pc + 3) ls st μ Z) : mWP M pc ls (qi x :: st) μ Z := fun X g hs hm => wp_if_ne hd ht (fun z => kt z X g hs hm) (fun z => kf z X g hs hm)
theorem mp_icmp_lt {M : mrec} {pc : Nat} {ls st : List qv} {μ : MS} {Z : qv → MS → Prop} {x y : Int32} {off : Int} {tgt : Nat} (hd : decode (mB M) pc = .ok (.if_icmp .lt off, 3)) (ht : (pc : Int) + off = (tgt : Int)) (kt : x < y → mWP M tgt ls st μ Z) (kf : ¬ x < y → mWP M (pc + 3) ls st μ Z) : mWP M pc ls (qi y :: qi x :: st) μ Z := fun X g hs hm => wp_icmp_lt hd ht (fun z => kt z X g hs hm) (fun z => kf z X g hs hm)
theorem mp_if_lt {M : mrec} {pc : Nat} {ls st : List qv} {μ : MS} {Z : qv → MS → Prop} {x : Int32} {off : Int} {tgt : Nat} (hd : decode (mB M) pc = .ok (.ifCond .lt off, 3)) (ht : (pc : Int) + off = (tgt : Int)) (kt : x < 0 → mWP M tgt ls st μ Z) (kf : ¬ x < 0 → mWP M (pc + 3) ls st μ Z) : mWP M pc ls (qi x :: st) μ Z := fun X g hs hm => wp_if_lt hd ht (fun z => kt z X g hs hm) (fun z => kf z X g hs hm)
theorem mp_icmp_ge {M : mrec} {pc : Nat} {ls st : List qv} {μ : MS} {Z : qv → MS → Prop} {x y : Int32} {off : Int} {tgt : Nat} (hd : decode (mB M) pc = .ok (.if_icmp .ge off, 3)) (ht : (pc : Int) + off = (tgt : Int)) (kt : y ≤ x → mWP M tgt ls st μ Z) (kf : ¬ y ≤ x → mWP M (pc + 3) ls st μ Z) : mWP M pc ls (qi y :: qi x :: st) μ Z := fun X g hs hm => wp_icmp_ge hd ht (fun z => kt z X g hs hm) (fun z => kf z X g hs hm)
theorem mp_if_ge {M : mrec} {pc : Nat} {ls st : List qv} {μ : MS} {Z : qv → MS → Prop} {x : Int32} {off : Int} {tgt : Nat} (hd : decode (mB M) pc = .ok (.ifCond .ge off, 3)) (ht : (pc : Int) + off = (tgt : Int)) (kt : 0 ≤ x → mWP M tgt ls st μ Z) (kf : ¬ 0 ≤ x → mWP M (pc + 3) ls st μ Z) : mWP M pc ls (qi x :: st) μ Z := fun X g hs hm => wp_if_ge hd ht (fun z => kt z X g hs hm) (fun z => kf z X g hs hm)
theorem mp_icmp_gt {M : mrec} {pc : Nat} {ls st : List qv} {μ : MS} {Z : qv → MS → Prop} {x y : Int32} {off : Int} {tgt : Nat} (hd : decode (mB M) pc = .ok (.if_icmp .gt off, 3)) (ht : (pc : Int) + off = (tgt : Int)) (kt : y < x → mWP M tgt ls st μ Z) (kf : ¬ y < x → mWP M (pc + 3) ls st μ Z) : mWP M pc ls (qi y :: qi x :: st) μ Z := fun X g hs hm => wp_icmp_gt hd ht (fun z => kt z X g hs hm) (fun z => kf z X g hs hm)
theorem mp_if_gt {M : mrec} {pc : Nat} {ls st : List qv} {μ : MS} {Z : qv → MS → Prop} {x : Int32} {off : Int} {tgt : Nat} (hd : decode (mB M) pc = .ok (.ifCond .gt off, 3)) (ht : (pc : Int) + off = (tgt : Int)) (kt : 0 < x → mWP M tgt ls st μ Z) (kf : ¬ 0 < x → mWP M (pc + 3) ls st μ Z) : mWP M pc ls (qi x :: st) μ Z := fun X g hs hm => wp_if_gt hd ht (fun z => kt z X g hs hm) (fun z => kf z X g hs hm)
theorem mp_icmp_le {M : mrec} {pc : Nat} {ls st : List qv} {μ : MS} {Z : qv → MS → Prop} {x y : Int32} {off : Int} {tgt : Nat} (hd : decode (mB M) pc = .ok (.if_icmp .le off, 3)) (ht : (pc : Int) + off = (tgt : Int)) (kt : x ≤ y → mWP M tgt ls st μ Z) (kf : ¬ x ≤ y → mWP M (pc + 3) ls st μ Z) : mWP M pc ls (qi y :: qi x :: st) μ Z := fun X g hs hm => wp_icmp_le hd ht (fun z => kt z X g hs hm) (fun z => kf z X g hs hm)
theorem mp_if_le {M : mrec} {pc : Nat} {ls st : List qv} {μ : MS} {Z : qv → MS → Prop} {x : Int32} {off : Int} {tgt : Nat} (hd : decode (mB M) pc = .ok (.ifCond .le off, 3)) (ht : (pc : Int) + off = (tgt : Int)) (kt : x ≤ 0 → mWP M tgt ls st μ Z) (kf : ¬ x ≤ 0 → mWP M (pc + 3) ls st μ Z) : mWP M pc ls (qi x :: st) μ Z := fun X g hs hm => wp_if_le hd ht (fun z => kt z X g hs hm) (fun z => kf z X g hs hm)
theorem mp_goto {M : mrec} {pc : Nat} {ls st : List qv} {μ : MS} {Z : qv → MS → Prop} {off : Int} {tgt : Nat} (hd : decode (mB M) pc = .ok (.goto off, 3)) (ht : (pc : Int) + off = (tgt : Int)) (kk : mWP M tgt ls st μ Z) : mWP M pc ls st μ Z := fun X g hs hm => wp_goto hd ht (kk X g hs hm)
theorem mp_getI {M : mrec} {pc : Nat} {ls st : List qv} {μ : MS} {Z : qv → MS → Prop} {index f t : Nat} (hd : decode (mB M) pc = .ok (.getfield index, 3)) (hl : lkF (mY M).cls index f) (hkd : fkd f = (0, t)) (hf : f / 64 = 1) (kk : mWP M (pc + 3) ls (qi (μ f 0) :: st) μ Z) : mWP M pc ls (qr 1 (some 0) :: st) μ Z := fun X g hs hm => wp_getI 0 hd hl hkd hf rfl (by rw [absM_of hm hf]; exact kk X g hs hm)
theorem mp_getA {M : mrec} {pc : Nat} {ls st : List qv} {μ : MS} {Z : qv → MS → Prop} {index f q t n : Nat} (hd : decode (mB M) pc = .ok (.getfield index, 3)) (hl : lkF (mY M).cls index f) (hkd : fkd f = (q + 2, t)) (hf : f / 64 = 1) (hsh : (f, n) ∈ shL) (kk : mWP M (pc + 3) ls (qa f 0 :: st) μ Z) : mWP M pc ls (qr 1 (some 0) :: st) μ Z := fun X g hs hm => wp_getA 0 n hd hl hkd hf rfl (hs _ hsh) (kk X g hs hm)
theorem mp_putI {M : mrec} {pc : Nat} {ls st : List qv} {μ : MS} {Z : qv → MS → Prop} {index f t : Nat} {x : Int32} (hd : decode (mB M) pc = .ok (.putfield index, 3)) (hl : lkF (mY M).cls index f) (hkd : fkd f = (0, t)) (hw : (vwT (f / 64) (f % 64)).2.2.2 = false) (hf : f / 64 = 1) (hok : okI t x) (hsd : sdW (mS M) (f / 64) = true) (kk : mWP M (pc + 3) ls st (mu μ f 0 x) Z) : mWP M pc ls (qi x :: qr 1 (some 0) :: st) μ Z := fun X g hs hm => wp_putI 0 hd hl hkd hw hf rfl hok hsd (kk X (pI g f 0 0 x) (fun q hq => hs q hq) (absM_pI hm hf 0 x))
theorem mp_iald {M : mrec} {pc : Nat} {ls st : List qv} {μ : MS} {Z : qv → MS → Prop} {f n : Nat} {i : Int32} (hd : decode (mB M) pc = .ok (.iaload, 1)) (hkd : fkd f = (2, 0)) (hf : f / 64 = 1) (hsh : (f, n) ∈ shL) (hin : vp_in i n) (kk : mWP M (pc + 1) ls (qi (μ f i.toNatClampNeg) :: st) μ Z) : mWP M pc ls (qi i :: qa f 0 :: st) μ Z := fun X g hs hm => wp_iald n hd hkd (hs _ hsh) hin (by rw [absM_of hm hf]; exact kk X g hs hm)
theorem mp_cald {M : mrec} {pc : Nat} {ls st : List qv} {μ : MS} {Z : qv → MS → Prop} {f n : Nat} {i : Int32} (hd : decode (mB M) pc = .ok (.caload, 1)) (hkd : fkd f = (2, 1)) (hf : f / 64 = 1) (hsh : (f, n) ∈ shL) (hin : vp_in i n) (kk : mWP M (pc + 1) ls (qi (μ f i.toNatClampNeg) :: st) μ Z) : mWP M pc ls (qi i :: qa f 0 :: st) μ Z := fun X g hs hm => wp_cald n hd hkd (hs _ hsh) hin (by rw [absM_of hm hf]; exact kk X g hs hm)
theorem mp_zald {M : mrec} {pc : Nat} {ls st : List qv} {μ : MS} {Z : qv → MS → Prop} {f n : Nat} {i : Int32} (hd : decode (mB M) pc = .ok (.baload, 1)) (hkd : fkd f = (2, 2)) (hf : f / 64 = 1) (hsh : (f, n) ∈ shL) (hin : vp_in i n) (kk : mWP M (pc + 1) ls (qi (μ f i.toNatClampNeg) :: st) μ Z) : mWP M pc ls (qi i :: qa f 0 :: st) μ Z := fun X g hs hm => wp_zald n hd hkd (hs _ hsh) hin (by rw [absM_of hm hf]; exact kk X g hs hm)
theorem mp_iast {M : mrec} {pc : Nat} {ls st : List qv} {μ : MS} {Z : qv → MS → Prop} {f n : Nat} {i x : Int32} (hd : decode (mB M) pc = .ok (.iastore, 1)) (hkd : fkd f = (2, 0)) (hf : f / 64 = 1) (hsh : (f, n) ∈ shL) (hin : vp_in i n) (hsd : sdW (mS M) (f / 64) = true) (kk : mWP M (pc + 1) ls st (mu μ f i.toNatClampNeg x) Z) : mWP M pc ls (qi x :: qi i :: qa f 0 :: st) μ Z := fun X g hs hm => wp_iast n hd hkd (hs _ hsh) hin hsd (kk X (pI g f 0 i.toNatClampNeg x) (fun q hq => hs q hq) (absM_pI hm hf _ x))
theorem mp_cast {M : mrec} {pc : Nat} {ls st : List qv} {μ : MS} {Z : qv → MS → Prop} {f n : Nat} {i x : Int32} (hd : decode (mB M) pc = .ok (.castore, 1)) (hkd : fkd f = (2, 1)) (hf : f / 64 = 1) (hsh : (f, n) ∈ shL) (hin : vp_in i n) (hok : okI 1 x) (hsd : sdW (mS M) (f / 64) = true) (kk : mWP M (pc + 1) ls st (mu μ f i.toNatClampNeg x) Z) : mWP M pc ls (qi x :: qi i :: qa f 0 :: st) μ Z := fun X g hs hm => wp_cast n hd hkd (hs _ hsh) hin hok hsd (kk X (pI g f 0 i.toNatClampNeg x) (fun q hq => hs q hq) (absM_pI hm hf _ x))
theorem mp_zast {M : mrec} {pc : Nat} {ls st : List qv} {μ : MS} {Z : qv → MS → Prop} {f n : Nat} {i x : Int32} (hd : decode (mB M) pc = .ok (.bastore, 1)) (hkd : fkd f = (2, 2)) (hf : f / 64 = 1) (hsh : (f, n) ∈ shL) (hin : vp_in i n) (hok : okI 2 x) (hsd : sdW (mS M) (f / 64) = true) (kk : mWP M (pc + 1) ls st (mu μ f i.toNatClampNeg x) Z) : mWP M pc ls (qi x :: qi i :: qa f 0 :: st) μ Z := fun X g hs hm => wp_zast n hd hkd (hs _ hsh) hin hok hsd (kk X (pI g f 0 i.toNatClampNeg x) (fun q hq => hs q hq) (absM_pI hm hf _ x))
theorem mp_rt {M : mrec} {pc : Nat} {ls : List qv} {μ : MS} {Z : qv → MS → Prop} (r : qv) (hrt : nnRT M pc r) (hz : Z r μ) : mWP M pc ls (rl r) μ Z := fun X g hs hm => wp_rt r hrt ⟨hs, by rw [hm]; exact hz⟩
theorem mp_cut {M : mrec} {pc : Nat} {ls ls' st : List qv} {μ : MS} {Z : qv → MS → Prop} (h : mWP M pc ls' st μ Z) (hs : subL ls' ls) : mWP M pc ls st μ Z := fun X g hs' hm => wp_cut (h X g hs' hm) hs
theorem mp_callS {M : mrec} {pc : Nat} {ls : List qv} {μ : MS} {Z : qv → MS → Prop} {M' : mrec} {index : Nat} (as st : List qv) (hd : decode (mB M) pc = .ok (.invokestatic index, 3)) (hM : mOK M') (hlk : lkM (mY M).cls index (mY M')) (hw : Cond.static (mY M') ∈ nn_ws) (hfr : mF M' + 1 ≤ mF M ∧ 8 + (mL M' + 11) + mW M' ≤ mW M)
    (hn : (parseMethodDescriptor (mY M').desc).map (fun d => d.parameters.length) = some as.length) (hlen : as.length ≤ mL M') (hst : st.length ≤ 8) (hsd : mS M' = mS M ∨ mS M = 2) (kk : mMT M' as μ (fun r μ1 => mWP M (pc + 3) ls (rl r ++ st) μ1 Z)) : mWP M pc ls (as.reverse ++ st) μ Z := fun X g hs hm =>
  wp_callS 0 as st hd hM hlk hw hfr hn hlen hst hsd (Nat.zero_le _) (mt_mono (kk X g hs hm) fun _ g1 h _ => h.2 X g1 h.1 rfl)
theorem mp_callV {M : mrec} {pc : Nat} {ls : List qv} {μ : MS} {Z : qv → MS → Prop} {M' : mrec} {index : Nat} (as st : List qv) (hd : decode (mB M) pc = .ok (.invokevirtual index, 3)) (hM : mOK M') (hlk : lkM (mY M).cls index (mY M')) (hw : Cond.instanceMethod (mY M') ∈ nn_ws) (hw2 : Cond.selects (nn_nm 1) (mY M') (mY M') ∈ nn_ws) (hfr : mF M' + 1 ≤ mF M ∧ 8 + (mL M' + 11) + mW M' ≤ mW M)
    (hn : (parseMethodDescriptor (mY M').desc).map (fun d => d.parameters.length) = some as.length) (hlen : as.length + 1 ≤ mL M') (hst : st.length ≤ 8) (hsd : mS M' = mS M ∨ mS M = 2) (kk : mMT M' (qr 1 (some 0) :: as) μ (fun r μ1 => mWP M (pc + 3) ls (rl r ++ st) μ1 Z)) : mWP M pc ls (as.reverse ++ qr 1 (some 0) :: st) μ Z := fun X g hs hm =>
  wp_callV 0 0 as st hd hM hlk (by decide) hw hw2 hfr hn hlen hst rfl hsd (Nat.zero_le _) (mt_mono (kk X g hs hm) fun _ g1 h _ => h.2 X g1 h.1 rfl)
