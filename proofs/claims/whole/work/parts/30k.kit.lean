/-! loops and masks -/
/-- f at k, k + 1 .. (n of them) -/
def fold {α : Type} (f : Nat → α → α) : Nat → Nat → α → α
  | 0, _, a => a
  | n + 1, k, a => fold f n (k + 1) (f k a)
/-- a loop with fuel from k to n -/
theorem loop_to {α β : Type} {F : Nat → Nat → α → Option β} {f : Nat → α → α} {out : α → Option β} {n : Nat} {Inv : Nat → α → Prop}
    (step : ∀ m k a, k < n → Inv k a → F (m + 1) k a = F m (k + 1) (f k a)) (keep : ∀ k a, k < n → Inv k a → Inv (k + 1) (f k a))
    (stop : ∀ m a, Inv n a → F (m + 1) n a = out a) : ∀ (d k : Nat) (a : α) (m : Nat), k + d = n → Inv k a → d < m → F m k a = out (fold f d k a) ∧ Inv n (fold f d k a) := by
  intro d
  induction d with
  | zero =>
    intro k a m hk hI hm
    obtain ⟨m, rfl⟩ : ∃ j, m = j + 1 := ⟨m - 1, by omega⟩
    have : k = n := by omega
    subst this
    exact ⟨stop m a hI, hI⟩
  | succ d ih =>
    intro k a m hk hI hm
    obtain ⟨m, rfl⟩ : ∃ j, m = j + 1 := ⟨m - 1, by omega⟩
    rw [step m k a (by omega) hI]
    exact ih (k + 1) (f k a) m (by omega) (keep k a (by omega) hI) (by omega)
/-- the same with no invariant -/
theorem loop_to' {α β : Type} {F : Nat → Nat → α → Option β} (f : Nat → α → α) (out : α → Option β) (n : Nat)
    (step : ∀ m k a, k < n → F (m + 1) k a = F m (k + 1) (f k a))
    (stop : ∀ m a, F (m + 1) n a = out a) (a : α) {m : Nat} (hm : n < m) : F m 0 a = out (fold f n 0 a) :=
  (loop_to (Inv := fun _ _ => True) (fun m k a h _ => step m k a h) (fun _ _ _ _ => trivial) (fun m a _ => stop m a) n 0 a m (by omega) trivial hm).1
/-- an invariant alone: what the loop answers is what some state with it answers -/
theorem loop_inv {α β : Type} {F : Nat → Nat → α → Option β} {n : Nat} {Inv : Nat → α → Prop}
    (step : ∀ m k a, k < n → Inv k a → ∃ a', Inv (k + 1) a' ∧ F (m + 1) k a = F m (k + 1) a') : ∀ (d k : Nat) (a : α) (m : Nat), k + d = n → Inv k a → d < m → ∃ m' a', Inv n a' ∧ F m k a = F (m' + 1) n a' := by
  intro d
  induction d with
  | zero =>
    intro k a m hk hI hm
    obtain ⟨m, rfl⟩ : ∃ j, m = j + 1 := ⟨m - 1, by omega⟩
    have : k = n := by omega
    subst this
    exact ⟨m, a, hI, rfl⟩
  | succ d ih =>
    intro k a m hk hI hm
    obtain ⟨m, rfl⟩ : ∃ j, m = j + 1 := ⟨m - 1, by omega⟩
    obtain ⟨a', h1, h2⟩ := step m k a (by omega) hI
    rw [h2]
    exact ih (k + 1) a' m (by omega) h1 (by omega)
theorem fold_congr {α : Type} {f g : Nat → α → α} {n : Nat} : ∀ (d k : Nat) (a : α), k + d ≤ n → (∀ j a, k ≤ j → j < n → f j a = g j a) → fold f d k a = fold g d k a := by
  intro d
  induction d with
  | zero => intro k a _ _; rfl
  | succ d ih =>
    intro k a hk h
    show fold f d (k + 1) (f k a) = fold g d (k + 1) (g k a)
    rw [h k a (by omega) (by omega)]
    exact ih (k + 1) _ (by omega) (fun j a h1 h2 => h j a (by omega) h2)
theorem fold_succ {α : Type} {f : Nat → α → α} : ∀ (d k : Nat) (a : α), fold f (d + 1) k a = f (k + d) (fold f d k a) := by
  intro d
  induction d with
  | zero => intro k a; rfl
  | succ d ih =>
    intro k a
    show fold f (d + 1) (k + 1) (f k a) = f (k + (d + 1)) (fold f d (k + 1) (f k a))
    rw [ih]; congr 1; omega
theorem fold_inv {α : Type} {f : Nat → α → α} {n : Nat} {P : Nat → α → Prop} (hs : ∀ k a, k < n → P k a → P (k + 1) (f k a)) {a : α} (h0 : P 0 a) : P n (fold f n 0 a) := by
  have : ∀ (d k : Nat) (a : α), k + d = n → P k a → P n (fold f d k a) := by
    intro d
    induction d with
    | zero => intro k a hk h; have : k = n := by omega
              subst this; exact h
    | succ d ih => intro k a hk h; exact ih (k + 1) (f k a) (by omega) (hs k a (by omega) h)
  exact this n 0 a (by omega) h0
theorem fuel_eq : fuel = 999999 + 1 := rfl
theorem fuel_gt {n : Nat} (h : n < 1000000) : n < fuel := h
theorem lit (n : Nat) (h : n < 2147483648) (x : Int32) (hx : x = nI n) : x = nI n := hx
/-! masks -/
theorem and31 {p : Nat} (h : p < 32) : (nI p &&& 31) = nI p := by
  rw [pk_andN (by omega) 5 (by decide), Nat.mod_eq_of_lt (by omega)]
theorem smod31 {p : Nat} (h : p < 32) : ((nI p).toBitVec.smod 32).toNat = p := by
  have : ∀ p, p < 32 → ((nI p).toBitVec.smod 32).toNat = p := by decide +kernel
  exact this p h
theorem shr_nI {m p : Nat} (hm : m < 2147483648) (h : p < 32) : nI m >>> (nI p &&& 31) = nI (m / 2 ^ p) := by
  rw [and31 h, pk_shrN (by omega) _ p (smod31 h)]
theorem and_nI (a b : Nat) : nI a &&& nI b = nI (a &&& b) := by
  show Int32.ofNat a &&& Int32.ofNat b = Int32.ofNat (a &&& b)
  apply Int32.toBitVec_inj.mp
  rw [Int32.toBitVec_and]
  show BitVec.ofNat 32 a &&& BitVec.ofNat 32 b = BitVec.ofNat 32 (a &&& b)
  rw [BitVec.ofNat_and]
theorem or_nI (a b : Nat) : nI a ||| nI b = nI (a ||| b) := by
  show Int32.ofNat a ||| Int32.ofNat b = Int32.ofNat (a ||| b)
  apply Int32.toBitVec_inj.mp
  rw [Int32.toBitVec_or]
  show BitVec.ofNat 32 a ||| BitVec.ofNat 32 b = BitVec.ofNat 32 (a ||| b)
  rw [BitVec.ofNat_or]
theorem xor_nI (a b : Nat) : nI a ^^^ nI b = nI (a ^^^ b) := by
  show Int32.ofNat a ^^^ Int32.ofNat b = Int32.ofNat (a ^^^ b)
  apply Int32.toBitVec_inj.mp
  rw [Int32.toBitVec_xor]
  show BitVec.ofNat 32 a ^^^ BitVec.ofNat 32 b = BitVec.ofNat 32 (a ^^^ b)
  rw [BitVec.ofNat_xor]
theorem m1_nI : (-1 : Int32) = nI (2 ^ 32 - 1) := by decide
/-- a without b -/
def mwo (a b : Nat) : Nat := a &&& (b ^^^ (2 ^ 32 - 1))
theorem wo_nI (a b : Nat) : nI a &&& (nI b ^^^ (-1)) = nI (mwo a b) := by rw [m1_nI, xor_nI, and_nI]; rfl
theorem mwo_bit {a b i : Nat} (hi : i < 32) : (mwo a b).testBit i = (a.testBit i && !b.testBit i) := by
  unfold mwo
  rw [Nat.testBit_and, Nat.testBit_xor, Nat.testBit_two_pow_sub_one]
  simp [hi]
theorem mwo_le (a b : Nat) : mwo a b ≤ a := Nat.and_le_left
theorem shl_nI {p : Nat} (h : p < 31) : (1 : Int32) <<< (nI p &&& 31) = nI (2 ^ p) := by
  rw [and31 (by omega), show (1 : Int32) = nI 1 from rfl, pk_shlN _ p (smod31 (by omega)) (by rw [Nat.one_mul]; exact Nat.pow_lt_pow_right (by omega) (by omega)), Nat.one_mul]
theorem tb_iff {m p : Nat} : m / 2 ^ p % 2 = 1 ↔ m.testBit p = true := by
  rw [Nat.testBit_eq_decide_div_mod_eq]; simp
theorem bit_at {m p : Nat} (hm : m < 2147483648) (h : p < 32) : (nI m >>> (nI p &&& 31)) &&& 1 = nI (if m.testBit p then 1 else 0) := by
  rw [shr_nI hm h, show (1 : Int32) = nI 1 from rfl, and_nI, Nat.and_one_is_mod]
  congr 1
  by_cases q : m.testBit p
  · rw [if_pos q]; exact tb_iff.mpr q
  · rw [if_neg q]
    have : ¬ m / 2 ^ p % 2 = 1 := fun z => q (tb_iff.mp z)
    omega
theorem bit0 {m p : Nat} (hm : m < 2147483648) (h : p < 32) : ((nI m >>> (nI p &&& 31)) &&& 1 = 0) ↔ m.testBit p = false := by
  rw [bit_at hm h]
  by_cases q : m.testBit p
  · rw [if_pos q]; simp [q]; decide
  · rw [if_neg q]; simp [q]; rfl
theorem bit1 {m p : Nat} (hm : m < 2147483648) (h : p < 32) : ((nI m >>> (nI p &&& 31)) &&& 1 = 1) ↔ m.testBit p = true := by
  rw [bit_at hm h]
  by_cases q : m.testBit p
  · rw [if_pos q]; simp [q]; rfl
  · rw [if_neg q]; simp [q]; decide
theorem or_bit {m p i : Nat} : (m ||| 2 ^ p).testBit i = (m.testBit i || decide (p = i)) := by
  rw [Nat.testBit_or, Nat.testBit_two_pow]
theorem or_lt {m p n : Nat} (h : m < 2 ^ n) (hp : p < n) : m ||| 2 ^ p < 2 ^ n := Nat.or_lt_two_pow h (Nat.pow_lt_pow_right (by omega) hp)
theorem bit_out {m n i : Nat} (h : m < 2 ^ n) (hi : n ≤ i) : m.testBit i = false := Nat.testBit_lt_two_pow (Nat.lt_of_lt_of_le h (Nat.pow_le_pow_right (by omega) hi))
