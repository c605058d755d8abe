/-! THE PURE PART: base rows -/
/-- 1 or 0 -/
def bit (p : Prop) [Decidable p] : Int32 := if p then 1 else 0
theorem bit_ite {α : Type} {p : Prop} [Decidable p] (x y : α) : (if bit p = 0 then x else y) = if p then y else x := by
  unfold bit
  by_cases h : p
  · simp [h]
  · simp [h]
theorem bit_isb {p : Prop} [Decidable p] : isb (bit p) = true := by
  unfold bit isb
  by_cases h : p <;> simp [h]
theorem ck_t {α : Type} {b : Bool} {x : Option α} (h : b = true) : ck b x = x := by
  unfold ck; rw [if_pos h]
theorem lt_eq {α β : Type} (a : α) (f : α → β) : lt a f = f a := rfl
theorem bndI_some {α : Type} (v : Int32) (I : mI) (L : mL) (f : Int32 → mI → mL → Option α) : bndI (some (v, I, L)) f = f v I L := rfl
theorem bndL_some {α : Type} (v : Int64) (I : mI) (L : mL) (f : Int64 → mI → mL → Option α) : bndL (some (v, I, L)) f = f v I L := rfl
theorem bndV_some {α : Type} (I : mI) (L : mL) (f : mI → mL → Option α) : bndV (some (I, L)) f = f I L := rfl
theorem t_nI {n : Nat} (h : n < 2147483648) : (nI n).toInt = n := nI_toInt (by omega)
theorem c_nI {n : Nat} (h : n < 2147483648) : (nI n).toNatClampNeg = n := nI_clamp (by omega)
theorem inb_nI {k n : Nat} (h : k < n) (hn : n < 2147483648) : inb (nI k) n = true := by
  unfold inb
  rw [t_nI (by omega)]
  simp
  exact h
theorem ofI {a : Int32} {n : Nat} (h0 : 0 ≤ a.toInt) (h1 : a.toInt < n) : ∃ k : Nat, k < n ∧ a = nI k ∧ (k : Int) = a.toInt := by
  refine ⟨a.toInt.toNat, by omega, ?_, by omega⟩
  apply Int32.toInt_inj.mp
  have := Int32.toInt_lt a
  rw [t_nI (by omega)]
  omega
theorem lit_nI (n : Nat) : (OfNat.ofNat n : Int32) = nI n := rfl
theorem lgc_lt (a b : Int64) : lg_cmp a b < 0 ↔ a.toInt < b.toInt := by
  rw [← Int64.lt_iff_toInt_lt]
  unfold lg_cmp
  by_cases h : b < a
  · rw [if_pos h]
    have : ¬ a < b := fun q => by
      have := Int64.lt_iff_toInt_lt.mp h
      have := Int64.lt_iff_toInt_lt.mp q
      omega
    simp [this]
  · rw [if_neg h]
    by_cases e : a = b
    · subst e; simp
    · rw [if_neg e]
      have : a < b := by
        rw [Int64.lt_iff_toInt_lt] at h ⊢
        have : a.toInt ≠ b.toInt := fun q => e (Int64.toInt_inj.mp q)
        omega
      simp [this]
theorem lgc_gt (a b : Int64) : 0 < lg_cmp a b ↔ b.toInt < a.toInt := by
  rw [← Int64.lt_iff_toInt_lt]
  unfold lg_cmp
  by_cases h : b < a
  · simp [h]
  · rw [if_neg h]
    by_cases e : a = b
    · subst e; simp
    · rw [if_neg e]
      simp [h]
theorem lgc_eq (a b : Int64) : lg_cmp a b = 0 ↔ a.toInt = b.toInt := by
  rw [Int64.toInt_inj]
  unfold lg_cmp
  by_cases h : b < a
  · rw [if_pos h]
    have : ¬ a = b := fun q => by subst q; exact absurd (Int64.lt_iff_toInt_lt.mp h) (by omega)
    simp [this]
  · rw [if_neg h]
    by_cases e : a = b
    · simp [e]
    · rw [if_neg e]; simp [e]
theorem in_eq (I : mI) (L : mL) (a b c : Int64) : f_X11_in I L a b c = some (bit (b.toInt ≤ a.toInt ∧ a.toInt ≤ c.toInt)) := by
  unfold f_X11_in bit
  by_cases h : a.toInt < b.toInt
  · rw [if_pos ((lgc_lt a b).mpr h), if_neg (by omega)]
  · rw [if_neg (fun q => h ((lgc_lt a b).mp q))]
    by_cases h2 : c.toInt < a.toInt
    · rw [if_pos ((lgc_gt a c).mpr h2), if_neg (by omega)]
    · rw [if_neg (fun q => h2 ((lgc_gt a c).mp q)), if_pos (by omega)]
theorem within_eq (I : mI) (L : mL) (a b c : Int32) : f_X10_within I L a b c = some (bit (b.toInt ≤ a.toInt ∧ a.toInt ≤ c.toInt)) := by
  unfold f_X10_within bit
  by_cases h : a < b
  · rw [if_pos h]
    rw [Int32.lt_iff_toInt_lt] at h
    rw [if_neg (by omega)]
  · rw [if_neg h]
    rw [Int32.lt_iff_toInt_lt] at h
    by_cases h2 : c < a
    · rw [if_pos h2]
      rw [Int32.lt_iff_toInt_lt] at h2
      rw [if_neg (by omega)]
    · rw [if_neg h2]
      rw [Int32.lt_iff_toInt_lt] at h2
      rw [if_pos (by omega)]
theorem has_eq {n a : Int32} : (if a < 0 then (some 0) else (if n ≤ a then (some 0) else (some 1)) : Option Int32) = some (bit (0 ≤ a.toInt ∧ a.toInt < n.toInt)) := by
  unfold bit
  have h0 : (0 : Int32).toInt = 0 := by decide
  by_cases h : a < 0
  · rw [if_pos h]
    rw [Int32.lt_iff_toInt_lt] at h
    rw [if_neg (by omega)]
  · rw [if_neg h]
    rw [Int32.lt_iff_toInt_lt] at h
    by_cases h2 : n ≤ a
    · rw [if_pos h2]
      rw [Int32.le_iff_toInt_le] at h2
      rw [if_neg (by omega)]
    · rw [if_neg h2]
      rw [Int32.le_iff_toInt_le] at h2
      rw [if_pos (by omega)]
theorem hasParish_eq (I : mI) (L : mL) (a : Int32) : f_X3_hasParish_2 I L a = some (bit (0 ≤ a.toInt ∧ a.toInt < (I 2 5).toInt)) := has_eq
theorem hasRoad_eq (I : mI) (L : mL) (a : Int32) : f_X3_hasRoad_2 I L a = some (bit (0 ≤ a.toInt ∧ a.toInt < (I 2 6).toInt)) := has_eq
theorem hasCart_eq (I : mI) (L : mL) (a : Int32) : f_X7_hasCart_1 I L a = some (bit (0 ≤ a.toInt ∧ a.toInt < (I 1 9).toInt)) := has_eq
theorem hasGood_eq (I : mI) (L : mL) (a : Int32) : f_X7_hasGood_1 I L a = some (bit (0 ≤ a.toInt ∧ a.toInt < (I 1 10).toInt)) := has_eq
/-- what a cell reads behind a write -/
theorem uI_same (I : mI) (k j : Nat) (x : Int32) : uI I k j x k j = x := by simp [uI, pI, upd]
theorem uI_cell {I : mI} {k j a : Nat} {x : Int32} (h : a ≠ k) : uI I k j x a = I a := by simp [uI, pI, h]
theorem uI_at (I : mI) (k j a b : Nat) (x : Int32) : uI I k j x a b = if a = k ∧ b = j then x else I a b := by
  unfold uI pI upd
  by_cases h : a = k
  · subst h; simp
  · simp [h]
theorem uL_at (L : mL) (k j a b : Nat) (x : Int64) : uL L k j x a b = if a = k ∧ b = j then x else L a b := by
  unfold uL pL vp_updL
  by_cases h : a = k
  · subst h; simp
  · simp [h]
/-! the state as numbers: v, by the reference's places (0 parishes, 1 roads, 2 carts, 3 goods, 4 people, 5 week, 6 kinds, 14 pulls, 46, 61 roads' ends, 76 tolls, 91 borne, 95 costs, 99 masses, 105 prices, 111 where, 117 ropes, 123 people's masses, 129 where they are) -/
abbrev mV : Type := Nat → Nat
def WF (v : mV) : Prop := v 0 ≤ 8 ∧ v 1 ≤ 15 ∧ v 2 ≤ 4 ∧ v 3 ≤ 6 ∧ v 4 ≤ 6 ∧ v 5 ≤ 9999 ∧ (∀ j, j < v 0 → v (6 + j) ≤ 3) ∧ (∀ j, j < 4 * v 0 → 1 ≤ v (14 + j) ∧ v (14 + j) ≤ 9) ∧ (∀ j, j < v 1 → v (46 + j) < v (61 + j) ∧ v (61 + j) < v 0 ∧ v (76 + j) ≤ 9) ∧ (∀ i j, i < v 1 → j < v 1 → v (46 + i) = v (46 + j) → v (61 + i) = v (61 + j) → i = j) ∧ (∀ j, j < v 2 → v (91 + j) ≤ 999 ∧ v (95 + j) ≤ 99) ∧ (∀ j, j < v 3 → (1 ≤ v (99 + j) ∧ v (99 + j) ≤ 99) ∧ (1 ≤ v (105 + j) ∧ v (105 + j) ≤ 9) ∧ v (111 + j) < v 0 ∧ v (117 + j) ≤ 999) ∧ (∀ j, j < v 4 → (1 ≤ v (123 + j) ∧ v (123 + j) ≤ 99) ∧ v (129 + j) < v 0)
/-- the reference's row r holds v -/
def MH (I : mI) (r : Nat) (v : mV) : Prop := ∀ j, j < 135 → I r j = nI (v j)
/-- where the class holds what the reference holds at place i (its State's cells from 1 on) -/
def loc (i : Nat) : Nat × Nat := if i < 2 then (2, 5 + i) else if i < 6 then (1, 7 + i) else if i < 14 then (3, i - 6) else if i < 46 then (4, i - 14) else if i < 61 then (5, i - 46) else if i < 76 then (6, i - 61) else if i < 91 then (7, i - 76) else if i < 95 then (8, i - 91) else if i < 99 then (9, i - 95) else if i < 105 then (10, i - 99) else if i < 111 then (11, i - 105) else if i < 117 then (12, i - 111) else if i < 123 then (13, i - 117) else if i < 129 then (14, i - 123) else (15, i - 129)
theorem loc_inj : ∀ i, i < 135 → ∀ j, j < 135 → loc i = loc j → i = j := by decide +kernel
theorem loc_kind {k : Nat} (h : k < 8) : loc (6 + k) = (3, k) := by
  unfold loc
  rw [if_neg (by omega)]
  rw [if_neg (by omega)]
  rw [if_pos (by omega)]
  rw [Nat.add_sub_cancel_left]
theorem loc_pull {k : Nat} (h : k < 32) : loc (14 + k) = (4, k) := by
  unfold loc
  rw [if_neg (by omega)]
  rw [if_neg (by omega)]
  rw [if_neg (by omega)]
  rw [if_pos (by omega)]
  rw [Nat.add_sub_cancel_left]
theorem loc_one {k : Nat} (h : k < 15) : loc (46 + k) = (5, k) := by
  unfold loc
  rw [if_neg (by omega)]
  rw [if_neg (by omega)]
  rw [if_neg (by omega)]
  rw [if_neg (by omega)]
  rw [if_pos (by omega)]
  rw [Nat.add_sub_cancel_left]
theorem loc_oth {k : Nat} (h : k < 15) : loc (61 + k) = (6, k) := by
  unfold loc
  rw [if_neg (by omega)]
  rw [if_neg (by omega)]
  rw [if_neg (by omega)]
  rw [if_neg (by omega)]
  rw [if_neg (by omega)]
  rw [if_pos (by omega)]
  rw [Nat.add_sub_cancel_left]
theorem loc_toll {k : Nat} (h : k < 15) : loc (76 + k) = (7, k) := by
  unfold loc
  rw [if_neg (by omega)]
  rw [if_neg (by omega)]
  rw [if_neg (by omega)]
  rw [if_neg (by omega)]
  rw [if_neg (by omega)]
  rw [if_neg (by omega)]
  rw [if_pos (by omega)]
  rw [Nat.add_sub_cancel_left]
theorem loc_bear {k : Nat} (h : k < 4) : loc (91 + k) = (8, k) := by
  unfold loc
  rw [if_neg (by omega)]
  rw [if_neg (by omega)]
  rw [if_neg (by omega)]
  rw [if_neg (by omega)]
  rw [if_neg (by omega)]
  rw [if_neg (by omega)]
  rw [if_neg (by omega)]
  rw [if_pos (by omega)]
  rw [Nat.add_sub_cancel_left]
theorem loc_cost {k : Nat} (h : k < 4) : loc (95 + k) = (9, k) := by
  unfold loc
  rw [if_neg (by omega)]
  rw [if_neg (by omega)]
  rw [if_neg (by omega)]
  rw [if_neg (by omega)]
  rw [if_neg (by omega)]
  rw [if_neg (by omega)]
  rw [if_neg (by omega)]
  rw [if_neg (by omega)]
  rw [if_pos (by omega)]
  rw [Nat.add_sub_cancel_left]
theorem loc_mass {k : Nat} (h : k < 6) : loc (99 + k) = (10, k) := by
  unfold loc
  rw [if_neg (by omega)]
  rw [if_neg (by omega)]
  rw [if_neg (by omega)]
  rw [if_neg (by omega)]
  rw [if_neg (by omega)]
  rw [if_neg (by omega)]
  rw [if_neg (by omega)]
  rw [if_neg (by omega)]
  rw [if_neg (by omega)]
  rw [if_pos (by omega)]
  rw [Nat.add_sub_cancel_left]
theorem loc_price {k : Nat} (h : k < 6) : loc (105 + k) = (11, k) := by
  unfold loc
  rw [if_neg (by omega)]
  rw [if_neg (by omega)]
  rw [if_neg (by omega)]
  rw [if_neg (by omega)]
  rw [if_neg (by omega)]
  rw [if_neg (by omega)]
  rw [if_neg (by omega)]
  rw [if_neg (by omega)]
  rw [if_neg (by omega)]
  rw [if_neg (by omega)]
  rw [if_pos (by omega)]
  rw [Nat.add_sub_cancel_left]
theorem loc_where {k : Nat} (h : k < 6) : loc (111 + k) = (12, k) := by
  unfold loc
  rw [if_neg (by omega)]
  rw [if_neg (by omega)]
  rw [if_neg (by omega)]
  rw [if_neg (by omega)]
  rw [if_neg (by omega)]
  rw [if_neg (by omega)]
  rw [if_neg (by omega)]
  rw [if_neg (by omega)]
  rw [if_neg (by omega)]
  rw [if_neg (by omega)]
  rw [if_neg (by omega)]
  rw [if_pos (by omega)]
  rw [Nat.add_sub_cancel_left]
theorem loc_rope {k : Nat} (h : k < 6) : loc (117 + k) = (13, k) := by
  unfold loc
  rw [if_neg (by omega)]
  rw [if_neg (by omega)]
  rw [if_neg (by omega)]
  rw [if_neg (by omega)]
  rw [if_neg (by omega)]
  rw [if_neg (by omega)]
  rw [if_neg (by omega)]
  rw [if_neg (by omega)]
  rw [if_neg (by omega)]
  rw [if_neg (by omega)]
  rw [if_neg (by omega)]
  rw [if_neg (by omega)]
  rw [if_pos (by omega)]
  rw [Nat.add_sub_cancel_left]
theorem loc_heavy {k : Nat} (h : k < 6) : loc (123 + k) = (14, k) := by
  unfold loc
  rw [if_neg (by omega)]
  rw [if_neg (by omega)]
  rw [if_neg (by omega)]
  rw [if_neg (by omega)]
  rw [if_neg (by omega)]
  rw [if_neg (by omega)]
  rw [if_neg (by omega)]
  rw [if_neg (by omega)]
  rw [if_neg (by omega)]
  rw [if_neg (by omega)]
  rw [if_neg (by omega)]
  rw [if_neg (by omega)]
  rw [if_neg (by omega)]
  rw [if_pos (by omega)]
  rw [Nat.add_sub_cancel_left]
theorem loc_at {k : Nat} (h : k < 6) : loc (129 + k) = (15, k) := by
  unfold loc
  rw [if_neg (by omega)]
  rw [if_neg (by omega)]
  rw [if_neg (by omega)]
  rw [if_neg (by omega)]
  rw [if_neg (by omega)]
  rw [if_neg (by omega)]
  rw [if_neg (by omega)]
  rw [if_neg (by omega)]
  rw [if_neg (by omega)]
  rw [if_neg (by omega)]
  rw [if_neg (by omega)]
  rw [if_neg (by omega)]
  rw [if_neg (by omega)]
  rw [if_neg (by omega)]
  rw [Nat.add_sub_cancel_left]
theorem loc_cell {i : Nat} (h : i < 135) : 1 ≤ (loc i).1 ∧ (loc i).1 ≤ 15 := by
  have : ∀ i, i < 135 → 1 ≤ (loc i).1 ∧ (loc i).1 ≤ 15 := by decide +kernel
  exact this i h
/-- the places that count -/
def live (v : mV) (i : Nat) : Prop := i < 6 ∨ (6 ≤ i ∧ i < 6 + v 0) ∨ (14 ≤ i ∧ i < 14 + 4 * v 0) ∨ (46 ≤ i ∧ i < 46 + v 1) ∨ (61 ≤ i ∧ i < 61 + v 1) ∨ (76 ≤ i ∧ i < 76 + v 1) ∨ (91 ≤ i ∧ i < 91 + v 2) ∨ (95 ≤ i ∧ i < 95 + v 2) ∨ (99 ≤ i ∧ i < 99 + v 3) ∨ (105 ≤ i ∧ i < 105 + v 3) ∨ (111 ≤ i ∧ i < 111 + v 3) ∨ (117 ≤ i ∧ i < 117 + v 3) ∨ (123 ≤ i ∧ i < 123 + v 4) ∨ (129 ≤ i ∧ i < 129 + v 4)
/-- the class's State with its cells from 1 + o on holds v at the places S -/
def CHs (I : mI) (o : Nat) (v : mV) (S : Nat → Prop) : Prop := ∀ i, i < 135 → S i → I ((loc i).1 + o) (loc i).2 = nI (v i)
def CH (I : mI) (o : Nat) (v : mV) : Prop := CHs I o v (live v)
def vu (v : mV) (k x : Nat) : mV := fun j => if j = k then x else v j
theorem vu_s (v : mV) (k x : Nat) : vu v k x k = x := by simp [vu]
theorem vu_n {v : mV} {k x j : Nat} (h : j ≠ k) : vu v k x j = v j := by simp [vu, h]
theorem CHs.set {I : mI} {v : mV} {S : Nat → Prop} (h : CHs I 0 v S) {i c k x : Nat} (hi : i < 135) (e : loc i = (c, k)) : CHs (uI I c k (nI x)) 0 (vu v i x) (fun j => S j ∨ j = i) := by
  intro j hj hS
  have e1 : c = (loc i).1 := by rw [e]
  have e2 : k = (loc i).2 := by rw [e]
  rw [Nat.add_zero, uI_at]
  by_cases hji : j = i
  · subst hji
    rw [if_pos ⟨e1.symm, e2.symm⟩, vu_s]
  · rw [if_neg (fun q => hji (loc_inj j hj i hi (Prod.ext (q.1.trans e1) (q.2.trans e2)))), vu_n hji]
    exact h j hj (hS.resolve_right hji)
theorem CHs.sub {I : mI} {o : Nat} {v : mV} {S S' : Nat → Prop} (h : CHs I o v S) (hs : ∀ i, i < 135 → S' i → S i) : CHs I o v S' := fun i hi hS => h i hi (hs i hi hS)
theorem CHs.frame {I I2 : mI} {o : Nat} {v : mV} {S : Nat → Prop} (h : CHs I o v S) (hf : ∀ k, 1 + o ≤ k → k ≤ 15 + o → I2 k = I k) : CHs I2 o v S := by
  intro i hi hS
  have := loc_cell hi
  rw [hf _ (by omega) (by omega)]
  exact h i hi hS
theorem MH.set {I : mI} {r : Nat} {v : mV} (h : MH I r v) (i x : Nat) : MH (uI I r i (nI x)) r (vu v i x) := by
  intro j hj
  rw [uI_at]
  by_cases hji : j = i
  · subst hji; rw [if_pos ⟨rfl, rfl⟩, vu_s]
  · rw [if_neg (fun q => hji q.2), vu_n hji]; exact h j hj
theorem MH.frame {I I2 : mI} {r : Nat} {v : mV} (h : MH I r v) (hf : I2 r = I r) : MH I2 r v := by
  intro j hj; rw [hf]; exact h j hj
/-- the tape: n letters t -/
def TH (I : mI) (n : Nat) (t : Nat → Nat) : Prop := n ≤ 120 ∧ I 31 2 = nI n ∧ I 67 4 = nI n ∧ ∀ j, j < n → (32 ≤ t j ∧ t j ≤ 126) ∧ I 32 j = nI (t j) ∧ I 70 j = nI (t j)
/-- a sheet: nothing, or a row of a lane -/
def SHt (I : mI) (L : mL) (q : Nat) : Prop := (I 47 q = 0 ∧ I 72 q = -1) ∨ (I 47 q = 1 ∧ (∃ n, n ≤ 24 ∧ I 46 q = nI n ∧ I 72 q = nI n) ∧ (∃ a, a < 3 ∧ I 45 q = nI a ∧ I 71 q = nI a) ∧ ∀ j, j < 24 → L (41 + q) j = L 73 (24 * q + j))
/-- the rest: image, tape, sheets -/
def Re2 (I : mI) (L : mL) : Prop := ((I 0 9 = 0 ∧ I 67 2 = 0) ∨ (I 0 9 = 1 ∧ I 67 2 = 1 ∧ ∃ v : mV, WF v ∧ MH I 69 v ∧ CH I 15 v)) ∧ (∃ (n : Nat) (t : Nat → Nat), TH I n t) ∧ ∀ q, q < 4 → SHt I L q
def Rel (I : mI) (L : mL) : Prop := (∃ v : mV, WF v ∧ MH I 68 v ∧ CH I 0 v) ∧ Re2 I L
theorem Re2.frame {I I2 : mI} {L : mL} (h : Re2 I L) (hf : ∀ k, k = 0 ∨ (16 ≤ k ∧ k ≤ 32) ∨ (45 ≤ k ∧ k ≤ 47) ∨ k = 67 ∨ (69 ≤ k ∧ k ≤ 72) → I2 k = I k) : Re2 I2 L := by
  obtain ⟨h1, ⟨n, t, h2, h3, h4, h5⟩, h6⟩ := h
  refine ⟨?_, ⟨n, t, h2, by rw [hf 31 (by omega)]; exact h3, by rw [hf 67 (by omega)]; exact h4, fun j hj => ?_⟩, fun q hq => ?_⟩
  · rcases h1 with h1 | ⟨h7, h8, v, hw, hm, hc⟩
    · left; rw [hf 0 (by omega), hf 67 (by omega)]; exact h1
    · right
      refine ⟨by rw [hf 0 (by omega)]; exact h7, by rw [hf 67 (by omega)]; exact h8, v, hw, hm.frame (hf 69 (by omega)), hc.frame (fun k a b => hf k (by omega))⟩
  · rw [hf 32 (by omega), hf 70 (by omega)]; exact h5 j hj
  · have := h6 q hq
    unfold SHt at this ⊢
    rw [hf 47 (by omega), hf 72 (by omega), hf 46 (by omega), hf 45 (by omega), hf 71 (by omega)]
    exact this
