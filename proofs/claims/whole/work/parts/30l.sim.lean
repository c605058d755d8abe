/-! rows for simp, with omega as its discharger -/
theorem ck_nI {α : Type} {k n : Nat} {x : Option α} (h : k < n) (hn : n < 2147483648) : ck (inb (nI k) n) x = x := ck_t (inb_nI h hn)
theorem le_n {a b : Nat} (ha : a < 2147483648) (hb : b < 2147483648) : (nI a ≤ nI b) = (a ≤ b) := propext (le_nI ha hb)
theorem lt_n {a b : Nat} (ha : a < 2147483648) (hb : b < 2147483648) : (nI a < nI b) = (a < b) := propext (lt_nI ha hb)
theorem eq_n {a b : Nat} (ha : a < 2147483648) (hb : b < 2147483648) : (nI a = nI b) = (a = b) := propext (eq_nI ha hb)
theorem orz (x : Int32) : x ||| nI 0 = x := by
  apply Int32.toBitVec_inj.mp
  rw [Int32.toBitVec_or]
  show x.toBitVec ||| 0#32 = x.toBitVec
  simp
theorem addz (x : Int32) : x + nI 0 = x := by
  apply Int32.toBitVec_inj.mp
  rw [Int32.toBitVec_add]
  show x.toBitVec + 0#32 = x.toBitVec
  simp
theorem eq1 {k : Nat} (h : k < 2147483648) : (nI k = 1) = (k = 1) := eq_n (b := 1) h (by omega)
theorem le1 {k : Nat} (h : k < 2147483648) : (nI k ≤ 1) = (k ≤ 1) := le_n (b := 1) h (by omega)
theorem ge1 {k : Nat} (h : k < 2147483648) : (1 ≤ nI k) = (1 ≤ k) := le_n (a := 1) (by omega) h
theorem lt1 {k : Nat} (h : k < 2147483648) : (nI k < 1) = (k < 1) := lt_n (b := 1) h (by omega)
theorem gt1 {k : Nat} (h : k < 2147483648) : (1 < nI k) = (1 < k) := lt_n (a := 1) (by omega) h
theorem q0 : (0 : Int32) = nI 0 := rfl
theorem q2 : (2 : Int32) = nI 2 := rfl
theorem q3 : (3 : Int32) = nI 3 := rfl
theorem q4 : (4 : Int32) = nI 4 := rfl
theorem q5 : (5 : Int32) = nI 5 := rfl
theorem q6 : (6 : Int32) = nI 6 := rfl
theorem q7 : (7 : Int32) = nI 7 := rfl
theorem q8 : (8 : Int32) = nI 8 := rfl
theorem q9 : (9 : Int32) = nI 9 := rfl
theorem q10 : (10 : Int32) = nI 10 := rfl
theorem q13 : (13 : Int32) = nI 13 := rfl
theorem q14 : (14 : Int32) = nI 14 := rfl
theorem q15 : (15 : Int32) = nI 15 := rfl
theorem q20 : (20 : Int32) = nI 20 := rfl
theorem q24 : (24 : Int32) = nI 24 := rfl
theorem q46 : (46 : Int32) = nI 46 := rfl
theorem q48 : (48 : Int32) = nI 48 := rfl
theorem q61 : (61 : Int32) = nI 61 := rfl
theorem q76 : (76 : Int32) = nI 76 := rfl
theorem q91 : (91 : Int32) = nI 91 := rfl
theorem q95 : (95 : Int32) = nI 95 := rfl
theorem q99 : (99 : Int32) = nI 99 := rfl
theorem q100 : (100 : Int32) = nI 100 := rfl
theorem q105 : (105 : Int32) = nI 105 := rfl
theorem q111 : (111 : Int32) = nI 111 := rfl
theorem q117 : (117 : Int32) = nI 117 := rfl
theorem q123 : (123 : Int32) = nI 123 := rfl
theorem q129 : (129 : Int32) = nI 129 := rfl
/-! what the class's cells hold -/
section Reads
variable {I : mI} {v : mV}
theorem CH.kind (hc : CH I 0 v) (hw : WF v) : ∀ k, k < v 0 → I 3 k = nI (v (6 + k)) := fun k h => by
  have := hw.1
  exact hc.at (loc_kind (by omega)) (by omega) (by unfold live; omega)
theorem CH.pull (hc : CH I 0 v) (hw : WF v) : ∀ k, k < 4 * v 0 → I 4 k = nI (v (14 + k)) := fun k h => by
  have := hw.1
  exact hc.at (loc_pull (by omega)) (by omega) (by unfold live; omega)
theorem CH.rone (hc : CH I 0 v) (hw : WF v) : ∀ k, k < v 1 → I 5 k = nI (v (46 + k)) := fun k h => by
  have := hw.2.1
  exact hc.at (loc_one (by omega)) (by omega) (by unfold live; omega)
theorem CH.roth (hc : CH I 0 v) (hw : WF v) : ∀ k, k < v 1 → I 6 k = nI (v (61 + k)) := fun k h => by
  have := hw.2.1
  exact hc.at (loc_oth (by omega)) (by omega) (by unfold live; omega)
theorem CH.rtoll (hc : CH I 0 v) (hw : WF v) : ∀ k, k < v 1 → I 7 k = nI (v (76 + k)) := fun k h => by
  have := hw.2.1
  exact hc.at (loc_toll (by omega)) (by omega) (by unfold live; omega)
theorem CH.rbear (hc : CH I 0 v) (hw : WF v) : ∀ k, k < v 2 → I 8 k = nI (v (91 + k)) := fun k h => by
  have := hw.2.2.1
  exact hc.at (loc_bear (by omega)) (by omega) (by unfold live; omega)
theorem CH.rcost (hc : CH I 0 v) (hw : WF v) : ∀ k, k < v 2 → I 9 k = nI (v (95 + k)) := fun k h => by
  have := hw.2.2.1
  exact hc.at (loc_cost (by omega)) (by omega) (by unfold live; omega)
theorem CH.rmass (hc : CH I 0 v) (hw : WF v) : ∀ k, k < v 3 → I 10 k = nI (v (99 + k)) := fun k h => by
  have := hw.2.2.2.1
  exact hc.at (loc_mass (by omega)) (by omega) (by unfold live; omega)
theorem CH.rprice (hc : CH I 0 v) (hw : WF v) : ∀ k, k < v 3 → I 11 k = nI (v (105 + k)) := fun k h => by
  have := hw.2.2.2.1
  exact hc.at (loc_price (by omega)) (by omega) (by unfold live; omega)
theorem CH.rwhere (hc : CH I 0 v) (hw : WF v) : ∀ k, k < v 3 → I 12 k = nI (v (111 + k)) := fun k h => by
  have := hw.2.2.2.1
  exact hc.at (loc_where (by omega)) (by omega) (by unfold live; omega)
theorem CH.rrope (hc : CH I 0 v) (hw : WF v) : ∀ k, k < v 3 → I 13 k = nI (v (117 + k)) := fun k h => by
  have := hw.2.2.2.1
  exact hc.at (loc_rope (by omega)) (by omega) (by unfold live; omega)
theorem CH.rheavy (hc : CH I 0 v) (hw : WF v) : ∀ k, k < v 4 → I 14 k = nI (v (123 + k)) := fun k h => by
  have := hw.2.2.2.2.1
  exact hc.at (loc_heavy (by omega)) (by omega) (by unfold live; omega)
theorem CH.rat_ (hc : CH I 0 v) (hw : WF v) : ∀ k, k < v 4 → I 15 k = nI (v (129 + k)) := fun k h => by
  have := hw.2.2.2.2.1
  exact hc.at (loc_at (by omega)) (by omega) (by unfold live; omega)
theorem MH.n (hm : MH I 68 v) : ∀ j, j < 135 → I 68 j = nI (v j) := hm
end Reads
/-- bounds that omega wants -/
theorem WF.sz {v : mV} (hw : WF v) : v 0 ≤ 8 ∧ v 1 ≤ 15 ∧ v 2 ≤ 4 ∧ v 3 ≤ 6 ∧ v 4 ≤ 6 ∧ v 5 ≤ 9999 := ⟨hw.1, hw.2.1, hw.2.2.1, hw.2.2.2.1, hw.2.2.2.2.1, hw.2.2.2.2.2.1⟩
theorem WF.kindb {v : mV} (hw : WF v) : ∀ j, j < v 0 → v (6 + j) ≤ 3 := hw.2.2.2.2.2.2.1
theorem WF.pullb {v : mV} (hw : WF v) : ∀ j, j < 4 * v 0 → 1 ≤ v (14 + j) ∧ v (14 + j) ≤ 9 := hw.2.2.2.2.2.2.2.1
theorem WF.roadb {v : mV} (hw : WF v) : ∀ j, j < v 1 → v (46 + j) < v (61 + j) ∧ v (61 + j) < v 0 ∧ v (76 + j) ≤ 9 := hw.2.2.2.2.2.2.2.2.1
theorem WF.roadu {v : mV} (hw : WF v) : ∀ i j, i < v 1 → j < v 1 → v (46 + i) = v (46 + j) → v (61 + i) = v (61 + j) → i = j := hw.2.2.2.2.2.2.2.2.2.1
theorem WF.cartb {v : mV} (hw : WF v) : ∀ j, j < v 2 → v (91 + j) ≤ 999 ∧ v (95 + j) ≤ 99 := hw.2.2.2.2.2.2.2.2.2.2.1
theorem WF.goodb {v : mV} (hw : WF v) : ∀ j, j < v 3 → (1 ≤ v (99 + j) ∧ v (99 + j) ≤ 99) ∧ (1 ≤ v (105 + j) ∧ v (105 + j) ≤ 9) ∧ v (111 + j) < v 0 ∧ v (117 + j) ≤ 999 := hw.2.2.2.2.2.2.2.2.2.2.2.1
theorem WF.personb {v : mV} (hw : WF v) : ∀ j, j < v 4 → (1 ≤ v (123 + j) ∧ v (123 + j) ≤ 99) ∧ v (129 + j) < v 0 := hw.2.2.2.2.2.2.2.2.2.2.2.2
theorem wt_le {k p m : Nat} (hp : p ≤ 9) : wt k p m ≤ m * 10 := by
  have : m * p ≤ m * 9 := Nat.mul_le_mul_left m hp
  unfold wt
  split
  · omega
  · split
    · omega
    · split <;> omega
theorem seaV_lt (v : mV) : seaV v < 4 := Nat.mod_lt _ (by omega)
theorem wV_le {v : mV} (hw : WF v) {p m : Nat} (hp : p < v 0) : wV v p m ≤ m * 10 := by
  have := seaV_lt v
  exact wt_le (hw.pullb _ (by omega)).2
