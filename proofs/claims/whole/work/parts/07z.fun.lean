/-- fewer locals known -/
def wkl : List (Option Value) → List (Option Value) → Prop
  | none :: a, _ :: b => wkl a b
  | some v :: a, w :: b => w = some v ∧ wkl a b
  | [], [] => True
  | _, _ => False
theorem wkl_at : ∀ (a b : List (Option Value)) (i : Nat) (v : Value), wkl a b → a[i]? = some (some v) → b[i]? = some (some v)
  | none :: a, _ :: b, 0, v, _, hi => by cases hi
  | none :: a, _ :: b, i + 1, v, h, hi => wkl_at a b i v h hi
  | some w :: a, _ :: b, 0, v, h, hi => by cases hi; exact congrArg some h.1
  | some w :: a, _ :: b, i + 1, v, h, hi => wkl_at a b i v h.2 hi
  | [], [], _, _, _, hi => by cases hi
  | none :: _, [], _, _, h, _ => h.elim
  | some _ :: _, [], _, _, h, _ => h.elim
  | [], _ :: _, _, _, h, _ => h.elim
theorem RR.wk {M : mM} {d pc : Nat} {lc lc' : List (Option Value)} {st : List Value} {I : mI} {L : mL} {Q : Option Value → mI → mL → Prop} (k : RR M d pc lc st I L Q) (h : wkl lc lc') : RR M d pc lc' st I L Q := by
  intro p l e s m args below meth c D ad ca H locs ls hC hP hS hl
  exact k p l e s m args below meth c D ad ca H locs ls hC hP hS ⟨hl.1, hl.2.1, fun i v hi => hl.2.2 i v (wkl_at lc lc' i v h hi)⟩
/-! THE METHODS AS FUNCTIONS: what each answers and leaves, none where it would leave its arrays or its fuel -/
abbrev rI : Type := Option (Int32 × mI × mL)
abbrev rL : Type := Option (Int64 × mI × mL)
abbrev rV : Type := Option (mI × mL)
def fuel : Nat := 1000000
abbrev retQ (r : Option Value) (I : mI) (L : mL) : Option Value → mI → mL → Prop := fun v I' L' => v = r ∧ I = I' ∧ L = L'
def lt {α β : Type} (a : α) (f : α → β) : β := f a
theorem lt_some {α β : Type} {a : α} {f : α → Option β} {o : β} (h : lt a f = some o) : f a = some o := h
def ck {α : Type} (b : Bool) (x : Option α) : Option α := if b = true then x else none
theorem ck_some {α : Type} {b : Bool} {x : Option α} {o : α} (h : ck b x = some o) : b = true ∧ x = some o := by
  unfold ck at h
  split at h
  · exact ⟨by assumption, h⟩
  · cases h
def inb (i : Int32) (n : Nat) : Bool := decide (0 ≤ i.toInt) && decide (i.toInt < n)
theorem inb_vp {i : Int32} {n : Nat} (h : inb i n = true) : vp_in i n := by
  simp only [inb, Bool.and_eq_true, decide_eq_true_eq] at h
  exact vp_in_iff.mpr h
theorem vp_lit {i : Int32} {n : Nat} (h : inb i n = true) : vp_in i n := inb_vp h
theorem inb_lt {i : Int32} {n : Nat} (h : inb i n = true) : i.toNatClampNeg < n := Nat.not_le.mp fun q => inb_vp h (Or.inr q)
def nz (x : Int32) : Bool := !(x == 0)
def nzL (x : Int64) : Bool := !(x == 0)
theorem nz_ne {x : Int32} (h : nz x = true) : ¬ x = 0 := by simpa [nz] using h
theorem nzL_ne {x : Int64} (h : nzL x = true) : ¬ x = 0 := by simpa [nzL] using h
theorem bind_some {α β : Type} {x : Option α} {f : α → Option β} {o : β} (h : x.bind f = some o) : ∃ a, x = some a ∧ f a = some o := Option.bind_eq_some_iff.mp h
def bndI {α : Type} (x : rI) (f : Int32 → mI → mL → Option α) : Option α := x.bind (fun q => f q.1 q.2.1 q.2.2)
def bndL {α : Type} (x : rL) (f : Int64 → mI → mL → Option α) : Option α := x.bind (fun q => f q.1 q.2.1 q.2.2)
def bndV {α : Type} (x : rV) (f : mI → mL → Option α) : Option α := x.bind (fun q => f q.1 q.2)
def isb (x : Int32) : Bool := x == 0 || x == 1
theorem isb_nar {x : Int32} (h : isb x = true) : narrow .boolean (.int x) = .int x := by
  simp only [isb, Bool.or_eq_true, beq_iff_eq] at h
  rcases h with rfl | rfl <;> rfl
def ordL (i : Int32) : Int64 := ([1, 1, 2, 6, 24, 120, 720, 5040, 40320] : List Int64).getD i.toNatClampNeg 0
theorem sh_row {q : Nat} (h : q < 4) : sh (41 + q) = some (.inl (.long, 1, 24)) := by
  rcases (show q = 0 ∨ q = 1 ∨ q = 2 ∨ q = 3 by omega) with rfl | rfl | rfl | rfl <;> rfl
def cpk (sp dp n : Int32) (n0 n1 : Nat) : Bool := decide (0 ≤ sp.toInt) && (decide (0 ≤ dp.toInt) && (decide (0 ≤ n.toInt) && (decide (sp.toInt + n.toInt ≤ n0) && decide (dp.toInt + n.toInt ≤ n1))))
theorem cpk_spec {sp dp n : Int32} {n0 n1 : Nat} (h : cpk sp dp n n0 n1 = true) : ¬ sp < 0 ∧ ¬ dp < 0 ∧ ¬ n < 0 ∧ sp.toNatClampNeg + n.toNatClampNeg ≤ n0 ∧ dp.toNatClampNeg + n.toNatClampNeg ≤ n1 := by
  simp only [cpk, Bool.and_eq_true, decide_eq_true_eq] at h
  obtain ⟨h1, h2, h3, h4, h5⟩ := h
  have ne : ∀ z : Int32, 0 ≤ z.toInt → ¬ z < 0 := fun z hz q => by
    have := Int32.lt_iff_toInt_lt.mp q
    have h0 : (0 : Int32).toInt = 0 := by decide
    omega
  have tn : ∀ z : Int32, z.toNatClampNeg = z.toInt.toNat := fun z => rfl
  refine ⟨ne _ h1, ne _ h2, ne _ h3, ?_, ?_⟩ <;> rw [tn, tn] <;> omega
