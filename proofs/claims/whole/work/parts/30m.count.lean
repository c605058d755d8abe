/-! count -/
theorem hanging_eq {I : mI} {L : mL} {v : mV} (hw : WF v) (hc : CH I 0 v) : f_X7_hanging_1 I L = some (fold (fun k a => if v (117 + k) = 0 then a else a + nI 1) (v 3) 0 (nI 0)) := by
  have sz := hw.sz
  have gb := hw.goodb
  unfold f_X7_hanging_1
  refine loop_to' (F := fun m k a => f_X7_hanging_1_l4 I L m a (nI k)) (fun k a => if v (117 + k) = 0 then a else a + nI 1) some (v 3) (fun m k a h => ?_) (fun m a => ?_) (nI 0) (fuel_gt (by omega))
  · have := gb k h
    rw [f_X7_hanging_1_l4]
    simp (disch := omega) only [ck_nI, c_nI, le_n, lt_n, eq_n, lt_eq, Option.bind_some, bndI_some, bndV_some, bndL_some, inc_nI, nI_1, n_add, n_mul, orz, addz, q0, q2, q3, q4, q5, q6, q7, q8, q9, q10, q13, q14, q15, q20, q24, q46, q48, q61, q76, q91, q95, q99, q100, q105, q111, q117, q123, q129, eq1, le1, ge1, lt1, gt1, cl1, hc.c3, hc.rrope hw, show ¬ v 3 ≤ k by omega, if_false, Nat.le_zero]
    by_cases q : v (117 + k) = 0
    · simp only [q, if_true]
    · simp only [q, if_false]; rfl
  · rw [f_X7_hanging_1_l4]
    simp (disch := omega) only [ck_nI, c_nI, le_n, lt_n, eq_n, lt_eq, Option.bind_some, bndI_some, bndV_some, bndL_some, inc_nI, nI_1, n_add, n_mul, orz, addz, q0, q2, q3, q4, q5, q6, q7, q8, q9, q10, q13, q14, q15, q20, q24, q46, q48, q61, q76, q91, q95, q99, q100, q105, q111, q117, q123, q129, eq1, le1, ge1, lt1, gt1, cl1, hc.c3, if_true, Nat.le_refl]
theorem mcount_eq {I : mI} {L : mL} {v : mV} (hw : WF v) (hm : MH I 68 v) {x : Int32} : f_X11_count_67 I L x = ((f_X11_in I L (x.toInt64) 0 7).bind (fun r1 => if r1 = 0 then (some (-1)) else (if 6 ≤ x then (if x = 6 then ((f_X11_season_67 I L).bind (fun r2 => some r2)) else (some (fold (fun k a => if v (117 + k) = 0 then a else a + nI 1) (v 3) 0 (nI 0)))) else (ck (inb x 135) (some (I 68 x.toNatClampNeg)))))) := by
  have sz := hw.sz
  have gb := hw.goodb
  unfold f_X11_count_67
  refine loop_to' (F := fun m k a => f_X11_count_67_l4 I L m x a (nI k)) (fun k a => if v (117 + k) = 0 then a else a + nI 1) (fun y => ((f_X11_in I L (x.toInt64) 0 7).bind (fun r1 => if r1 = 0 then (some (-1)) else (if 6 ≤ x then (if x = 6 then ((f_X11_season_67 I L).bind (fun r2 => some r2)) else (some y)) else (ck (inb x 135) (some (I 68 x.toNatClampNeg))))))) (v 3) (fun m k a h => ?_) (fun m a => ?_) (nI 0) (fuel_gt (by omega))
  · have := gb k h
    rw [f_X11_count_67_l4]
    simp (disch := omega) only [ck_nI, c_nI, le_n, lt_n, eq_n, lt_eq, Option.bind_some, bndI_some, bndV_some, bndL_some, inc_nI, nI_1, n_add, n_mul, orz, addz, q0, q2, q3, q4, q5, q6, q7, q8, q9, q10, q13, q14, q15, q20, q24, q46, q48, q61, q76, q91, q95, q99, q100, q105, q111, q117, q123, q129, eq1, le1, ge1, lt1, gt1, cl1, cl3, hm.n, show ¬ v 3 ≤ k by omega, if_false, Nat.le_zero]
    by_cases q : v (117 + k) = 0
    · simp only [q, if_true]
    · simp only [q, if_false]; rfl
  · rw [f_X11_count_67_l4]
    rw [cl3, hm.n 3 (by omega), if_pos (by rw [le_n (by omega) (by omega)]; omega)]
theorem st_count {I : mI} {L : mL} {a1 : Int32} (h : Rel I L) : St_count Rel I L a1 := by
  obtain ⟨⟨v, hw, hm, hc⟩, hr2⟩ := id h
  have sz := hw.sz
  unfold St_count
  rw [mcount_eq hw hm, in_l 0 7 (by decide) (by decide)]
  unfold f_X10_count_0
  rw [hanging_eq hw hc, season_eq hc.c5 (by omega), mseason_eq (hm 5 (by omega)) (by omega)]
  by_cases hr : 0 ≤ a1.toInt ∧ a1.toInt ≤ 7
  · rw [bit_t hr]
    obtain ⟨k, hk, rfl, -⟩ := ofI (a := a1) (n := 8) hr.1 (by omega)
    simp (disch := omega) only [ck_nI, c_nI, le_n, lt_n, eq_n, lt_eq, Option.bind_some, bndI_some, bndV_some, bndL_some, inc_nI, nI_1, n_add, n_mul, orz, addz, q0, q2, q3, q4, q5, q6, q7, q8, q9, q10, q13, q14, q15, q20, q24, q46, q48, q61, q76, q91, q95, q99, q100, q105, q111, q117, q123, q129, eq1, le1, ge1, lt1, gt1, cl1, eq1, hc.c0, hc.c1, hc.c2, hc.c3, hc.c4, hc.c5, show ¬ (1 : Int32) = nI 0 by decide, if_false, hm.n]
    rcases (show k = 0 ∨ k = 1 ∨ k = 2 ∨ k = 3 ∨ k = 4 ∨ k = 5 ∨ k = 6 ∨ k = 7 by omega) with rfl | rfl | rfl | rfl | rfl | rfl | rfl | rfl
    all_goals exact ⟨_, rfl, rfl, h⟩
  · rw [bit_f hr]
    have ne : ∀ j : Nat, j < 8 → ¬ a1 = nI j := fun j hj e => hr (by rw [e, t_nI (by omega)]; omega)
    rw [if_neg (show ¬ a1 = 0 from ne 0 (by omega)), if_neg (show ¬ a1 = 1 from ne 1 (by omega)), if_neg (show ¬ a1 = 2 from ne 2 (by omega)), if_neg (show ¬ a1 = 3 from ne 3 (by omega)), if_neg (show ¬ a1 = 4 from ne 4 (by omega)), if_neg (show ¬ a1 = 5 from ne 5 (by omega)), if_neg (show ¬ a1 = 6 from ne 6 (by omega)), if_neg (show ¬ a1 = 7 from ne 7 (by omega))]
    exact ⟨_, rfl, rfl, h⟩
/-! of -/
def fSet (v : mV) (b p k : Nat) (a : Int32) : Int32 := if v (b + k) = p then a ||| nI (2 ^ k) else a
theorem setW_eq {I : mI} {L : mL} {v : mV} (hw : WF v) (hc : CH I 0 v) {p : Nat} (hp : p < v 0) : f_X10_setThere_12 I L (nI (v 3)) (nI p) = some (fold (fSet v 111 p) (v 3) 0 (nI 0)) := by
  have sz := hw.sz
  have gb := hw.goodb
  unfold f_X10_setThere_12
  refine loop_to' (F := fun m k a => f_X10_setThere_12_l5 I L m (nI (v 3)) (nI p) a (nI k)) (fSet v 111 p) some (v 3) (fun m k a h => ?_) (fun m a => ?_) (nI 0) (fuel_gt (by omega))
  · have := gb k h
    rw [f_X10_setThere_12_l5]
    unfold fSet
    simp (disch := omega) only [ck_nI, c_nI, le_n, lt_n, eq_n, lt_eq, Option.bind_some, bndI_some, bndV_some, bndL_some, inc_nI, nI_1, n_add, n_mul, orz, addz, q0, q2, q3, q4, q5, q6, q7, q8, q9, q10, q13, q14, q15, q20, q24, q46, q48, q61, q76, q91, q95, q99, q100, q105, q111, q117, q123, q129, eq1, le1, ge1, lt1, gt1, cl1, hc.rwhere hw, show ¬ v 3 ≤ k by omega, if_false, shl_nI]
    by_cases q : v (111 + k) = p
    · simp only [q, if_true]
    · simp only [q, if_false]
  · rw [f_X10_setThere_12_l5]
    simp (disch := omega) only [ck_nI, c_nI, le_n, lt_n, eq_n, lt_eq, Option.bind_some, bndI_some, bndV_some, bndL_some, inc_nI, nI_1, n_add, n_mul, orz, addz, q0, q2, q3, q4, q5, q6, q7, q8, q9, q10, q13, q14, q15, q20, q24, q46, q48, q61, q76, q91, q95, q99, q100, q105, q111, q117, q123, q129, eq1, le1, ge1, lt1, gt1, cl1, if_true, Nat.le_refl]
theorem setA_eq {I : mI} {L : mL} {v : mV} (hw : WF v) (hc : CH I 0 v) {p : Nat} (hp : p < v 0) : f_X10_setThere_15 I L (nI (v 4)) (nI p) = some (fold (fSet v 129 p) (v 4) 0 (nI 0)) := by
  have sz := hw.sz
  have gb := hw.personb
  unfold f_X10_setThere_15
  refine loop_to' (F := fun m k a => f_X10_setThere_15_l5 I L m (nI (v 4)) (nI p) a (nI k)) (fSet v 129 p) some (v 4) (fun m k a h => ?_) (fun m a => ?_) (nI 0) (fuel_gt (by omega))
  · have := gb k h
    rw [f_X10_setThere_15_l5]
    unfold fSet
    simp (disch := omega) only [ck_nI, c_nI, le_n, lt_n, eq_n, lt_eq, Option.bind_some, bndI_some, bndV_some, bndL_some, inc_nI, nI_1, n_add, n_mul, orz, addz, q0, q2, q3, q4, q5, q6, q7, q8, q9, q10, q13, q14, q15, q20, q24, q46, q48, q61, q76, q91, q95, q99, q100, q105, q111, q117, q123, q129, eq1, le1, ge1, lt1, gt1, cl1, hc.rat_ hw, show ¬ v 4 ≤ k by omega, if_false, shl_nI]
    by_cases q : v (129 + k) = p
    · simp only [q, if_true]
    · simp only [q, if_false]
  · rw [f_X10_setThere_15_l5]
    simp (disch := omega) only [ck_nI, c_nI, le_n, lt_n, eq_n, lt_eq, Option.bind_some, bndI_some, bndV_some, bndL_some, inc_nI, nI_1, n_add, n_mul, orz, addz, q0, q2, q3, q4, q5, q6, q7, q8, q9, q10, q13, q14, q15, q20, q24, q46, q48, q61, q76, q91, q95, q99, q100, q105, q111, q117, q123, q129, eq1, le1, ge1, lt1, gt1, cl1, if_true, Nat.le_refl]
def fRds (v : mV) (p k : Nat) (a : Int32) : Int32 := if v (46 + k) = p ∨ v (61 + k) = p then a + nI 1 else a
theorem otherEnd_eq {I : mI} {L : mL} {v : mV} (hw : WF v) (hc : CH I 0 v) {p k : Nat} (hp : p < v 0) (hk : k < v 1) : f_X3_otherEnd_2 I L (nI k) (nI p) = some (if v (46 + k) = p then nI (v (61 + k)) else if v (61 + k) = p then nI (v (46 + k)) else -1) := by
  have sz := hw.sz
  have gb := hw.roadb k hk
  unfold f_X3_otherEnd_2
  simp (disch := omega) only [ck_nI, c_nI, le_n, lt_n, eq_n, lt_eq, Option.bind_some, bndI_some, bndV_some, bndL_some, inc_nI, nI_1, n_add, n_mul, orz, addz, q0, q2, q3, q4, q5, q6, q7, q8, q9, q10, q13, q14, q15, q20, q24, q46, q48, q61, q76, q91, q95, q99, q100, q105, q111, q117, q123, q129, eq1, le1, ge1, lt1, gt1, cl1, hc.rone hw, hc.roth hw]
  by_cases q : v (46 + k) = p
  · simp only [q, if_true]
  · by_cases q2 : v (61 + k) = p
    · simp only [q, q2, if_true, if_false]
    · simp only [q, q2, if_false]
theorem roadsAt_eq {I : mI} {L : mL} {v : mV} (hw : WF v) (hc : CH I 0 v) {p : Nat} (hp : p < v 0) : f_X3_roadsAt_2 I L (nI p) = some (fold (fRds v p) (v 1) 0 (nI 0)) := by
  have sz := hw.sz
  have gb := hw.roadb
  unfold f_X3_roadsAt_2
  refine loop_to' (F := fun m k a => f_X3_roadsAt_2_l4 I L m (nI p) a (nI k)) (fRds v p) some (v 1) (fun m k a h => ?_) (fun m a => ?_) (nI 0) (fuel_gt (by omega))
  · have := gb k h
    rw [f_X3_roadsAt_2_l4, otherEnd_eq hw hc hp h]
    unfold fRds
    simp (disch := omega) only [ck_nI, c_nI, le_n, lt_n, eq_n, lt_eq, Option.bind_some, bndI_some, bndV_some, bndL_some, inc_nI, nI_1, n_add, n_mul, orz, addz, q0, q2, q3, q4, q5, q6, q7, q8, q9, q10, q13, q14, q15, q20, q24, q46, q48, q61, q76, q91, q95, q99, q100, q105, q111, q117, q123, q129, eq1, le1, ge1, lt1, gt1, cl1, hc.c1, show ¬ v 1 ≤ k by omega, if_false]
    by_cases q : v (46 + k) = p
    · simp (disch := omega) only [ck_nI, c_nI, le_n, lt_n, eq_n, lt_eq, Option.bind_some, bndI_some, bndV_some, bndL_some, inc_nI, nI_1, n_add, n_mul, orz, addz, q0, q2, q3, q4, q5, q6, q7, q8, q9, q10, q13, q14, q15, q20, q24, q46, q48, q61, q76, q91, q95, q99, q100, q105, q111, q117, q123, q129, eq1, le1, ge1, lt1, gt1, cl1, q, if_true, true_or, show ¬ v (61 + k) < 0 by omega, if_false]; rfl
    · by_cases q2 : v (61 + k) = p
      · simp (disch := omega) only [ck_nI, c_nI, le_n, lt_n, eq_n, lt_eq, Option.bind_some, bndI_some, bndV_some, bndL_some, inc_nI, nI_1, n_add, n_mul, orz, addz, q0, q2, q3, q4, q5, q6, q7, q8, q9, q10, q13, q14, q15, q20, q24, q46, q48, q61, q76, q91, q95, q99, q100, q105, q111, q117, q123, q129, eq1, le1, ge1, lt1, gt1, cl1, q, q2, if_true, or_true, show ¬ v (46 + k) < 0 by omega, if_false]; rfl
      · simp only [q, q2, if_false, or_false, show (-1 : Int32) < nI 0 from by decide, if_true]
  · rw [f_X3_roadsAt_2_l4]
    simp (disch := omega) only [ck_nI, c_nI, le_n, lt_n, eq_n, lt_eq, Option.bind_some, bndI_some, bndV_some, bndL_some, inc_nI, nI_1, n_add, n_mul, orz, addz, q0, q2, q3, q4, q5, q6, q7, q8, q9, q10, q13, q14, q15, q20, q24, q46, q48, q61, q76, q91, q95, q99, q100, q105, q111, q117, q123, q129, eq1, le1, ge1, lt1, gt1, cl1, hc.c1, if_true, Nat.le_refl]
section OfM
variable {I : mI} {L : mL} {v : mV}
theorem of176_end (hm : MH I 68 v) (hw : WF v) {p x : Nat} {a : Int32} (hx : x < 7) : f_X11_of_67_l176 I L fuel (nI p) (nI x) a (nI 0) = some a := by
  have sz := hw.sz
  rw [fuel_eq, f_X11_of_67_l176]
  simp (disch := omega) only [ck_nI, c_nI, le_n, lt_n, eq_n, lt_eq, Option.bind_some, bndI_some, bndV_some, bndL_some, inc_nI, nI_1, n_add, n_mul, orz, addz, q0, q2, q3, q4, q5, q6, q7, q8, q9, q10, q13, q14, q15, q20, q24, q46, q48, q61, q76, q91, q95, q99, q100, q105, q111, q117, q123, q129, eq1, le1, ge1, lt1, gt1, cl1, cl4, hm.n, show ¬ x = 7 by omega, if_false]
  split <;> rfl
theorem of125_end (hm : MH I 68 v) (hw : WF v) {p x : Nat} {a : Int32} (hx : ¬ x = 6) (hx7 : x ≤ 7) : f_X11_of_67_l125 I L fuel (nI p) (nI x) a (nI 0) = f_X11_of_67_l176 I L fuel (nI p) (nI x) a (nI 0) := by
  have sz := hw.sz
  rw [fuel_eq, f_X11_of_67_l125]
  simp (disch := omega) only [ck_nI, c_nI, le_n, lt_n, eq_n, lt_eq, Option.bind_some, bndI_some, bndV_some, bndL_some, inc_nI, nI_1, n_add, n_mul, orz, addz, q0, q2, q3, q4, q5, q6, q7, q8, q9, q10, q13, q14, q15, q20, q24, q46, q48, q61, q76, q91, q95, q99, q100, q105, q111, q117, q123, q129, eq1, le1, ge1, lt1, gt1, cl1, cl3, hm.n, hx, if_false]
  split <;> rfl
theorem of64_end (hm : MH I 68 v) (hw : WF v) {p x : Nat} {a : Int32} (hx : ¬ x = 5) (hx7 : x ≤ 7) : f_X11_of_67_l64 I L fuel (nI p) (nI x) a (nI 0) = f_X11_of_67_l125 I L fuel (nI p) (nI x) a (nI 0) := by
  have sz := hw.sz
  rw [fuel_eq, f_X11_of_67_l64]
  simp (disch := omega) only [ck_nI, c_nI, le_n, lt_n, eq_n, lt_eq, Option.bind_some, bndI_some, bndV_some, bndL_some, inc_nI, nI_1, n_add, n_mul, orz, addz, q0, q2, q3, q4, q5, q6, q7, q8, q9, q10, q13, q14, q15, q20, q24, q46, q48, q61, q76, q91, q95, q99, q100, q105, q111, q117, q123, q129, eq1, le1, ge1, lt1, gt1, cl1, hm.n, hx, if_false]
  split <;> rfl
theorem of64_eq (hm : MH I 68 v) (hw : WF v) {p : Nat} (hp : p < v 0) : f_X11_of_67_l64 I L fuel (nI p) (nI 5) (nI 0) (nI 0) = some (fold (fRds v p) (v 1) 0 (nI 0)) := by
  have sz := hw.sz
  refine loop_to' (F := fun m k a => f_X11_of_67_l64 I L m (nI p) (nI 5) a (nI k)) (fRds v p) some (v 1) (fun m k a h => ?_) (fun m a => ?_) (nI 0) (fuel_gt (by omega))
  · have := hw.roadb k h
    rw [f_X11_of_67_l64]
    unfold fRds
    simp (disch := omega) only [ck_nI, c_nI, le_n, lt_n, eq_n, lt_eq, Option.bind_some, bndI_some, bndV_some, bndL_some, inc_nI, nI_1, n_add, n_mul, orz, addz, q0, q2, q3, q4, q5, q6, q7, q8, q9, q10, q13, q14, q15, q20, q24, q46, q48, q61, q76, q91, q95, q99, q100, q105, q111, q117, q123, q129, eq1, le1, ge1, lt1, gt1, cl1, hm.n, show ¬ v 1 ≤ k by omega, if_false, if_true]
    by_cases q : v (46 + k) = p
    · simp (disch := omega) only [ck_nI, c_nI, le_n, lt_n, eq_n, lt_eq, Option.bind_some, bndI_some, bndV_some, bndL_some, inc_nI, nI_1, n_add, n_mul, orz, addz, q0, q2, q3, q4, q5, q6, q7, q8, q9, q10, q13, q14, q15, q20, q24, q46, q48, q61, q76, q91, q95, q99, q100, q105, q111, q117, q123, q129, eq1, le1, ge1, lt1, gt1, cl1, q, if_true, true_or]; rfl
    · by_cases q2 : v (61 + k) = p
      · simp (disch := omega) only [ck_nI, c_nI, le_n, lt_n, eq_n, lt_eq, Option.bind_some, bndI_some, bndV_some, bndL_some, inc_nI, nI_1, n_add, n_mul, orz, addz, q0, q2, q3, q4, q5, q6, q7, q8, q9, q10, q13, q14, q15, q20, q24, q46, q48, q61, q76, q91, q95, q99, q100, q105, q111, q117, q123, q129, eq1, le1, ge1, lt1, gt1, cl1, q, q2, if_true, or_true, if_false]; rfl
      · simp (disch := omega) only [ck_nI, c_nI, le_n, lt_n, eq_n, lt_eq, Option.bind_some, bndI_some, bndV_some, bndL_some, inc_nI, nI_1, n_add, n_mul, orz, addz, q0, q2, q3, q4, q5, q6, q7, q8, q9, q10, q13, q14, q15, q20, q24, q46, q48, q61, q76, q91, q95, q99, q100, q105, q111, q117, q123, q129, eq1, le1, ge1, lt1, gt1, cl1, q, q2, if_false, or_false]
  · rw [f_X11_of_67_l64]
    simp (disch := omega) only [ck_nI, c_nI, le_n, lt_n, eq_n, lt_eq, Option.bind_some, bndI_some, bndV_some, bndL_some, inc_nI, nI_1, n_add, n_mul, orz, addz, q0, q2, q3, q4, q5, q6, q7, q8, q9, q10, q13, q14, q15, q20, q24, q46, q48, q61, q76, q91, q95, q99, q100, q105, q111, q117, q123, q129, eq1, le1, ge1, lt1, gt1, cl1, hm.n, if_true, Nat.le_refl]
    rw [of125_end hm hw (by omega) (by omega), of176_end hm hw (by omega)]
theorem of125_eq (hm : MH I 68 v) (hw : WF v) {p : Nat} (hp : p < v 0) : f_X11_of_67_l125 I L fuel (nI p) (nI 6) (nI 0) (nI 0) = some (fold (fSet v 111 p) (v 3) 0 (nI 0)) := by
  have sz := hw.sz
  refine loop_to' (F := fun m k a => f_X11_of_67_l125 I L m (nI p) (nI 6) a (nI k)) (fSet v 111 p) some (v 3) (fun m k a h => ?_) (fun m a => ?_) (nI 0) (fuel_gt (by omega))
  · have := hw.goodb k h
    rw [f_X11_of_67_l125]
    unfold fSet
    simp (disch := omega) only [ck_nI, c_nI, le_n, lt_n, eq_n, lt_eq, Option.bind_some, bndI_some, bndV_some, bndL_some, inc_nI, nI_1, n_add, n_mul, orz, addz, q0, q2, q3, q4, q5, q6, q7, q8, q9, q10, q13, q14, q15, q20, q24, q46, q48, q61, q76, q91, q95, q99, q100, q105, q111, q117, q123, q129, eq1, le1, ge1, lt1, gt1, cl1, cl3, hm.n, show ¬ v 3 ≤ k by omega, if_false, if_true, shl_nI]
    by_cases q : v (111 + k) = p
    · simp only [q, if_true]
    · simp only [q, if_false]
  · rw [f_X11_of_67_l125]
    simp (disch := omega) only [ck_nI, c_nI, le_n, lt_n, eq_n, lt_eq, Option.bind_some, bndI_some, bndV_some, bndL_some, inc_nI, nI_1, n_add, n_mul, orz, addz, q0, q2, q3, q4, q5, q6, q7, q8, q9, q10, q13, q14, q15, q20, q24, q46, q48, q61, q76, q91, q95, q99, q100, q105, q111, q117, q123, q129, eq1, le1, ge1, lt1, gt1, cl1, cl3, hm.n, if_true, Nat.le_refl]
    rw [of176_end hm hw (by omega)]
theorem of176_eq (hm : MH I 68 v) (hw : WF v) {p : Nat} (hp : p < v 0) : f_X11_of_67_l176 I L fuel (nI p) (nI 7) (nI 0) (nI 0) = some (fold (fSet v 129 p) (v 4) 0 (nI 0)) := by
  have sz := hw.sz
  refine loop_to' (F := fun m k a => f_X11_of_67_l176 I L m (nI p) (nI 7) a (nI k)) (fSet v 129 p) some (v 4) (fun m k a h => ?_) (fun m a => ?_) (nI 0) (fuel_gt (by omega))
  · have := hw.personb k h
    rw [f_X11_of_67_l176]
    unfold fSet
    simp (disch := omega) only [ck_nI, c_nI, le_n, lt_n, eq_n, lt_eq, Option.bind_some, bndI_some, bndV_some, bndL_some, inc_nI, nI_1, n_add, n_mul, orz, addz, q0, q2, q3, q4, q5, q6, q7, q8, q9, q10, q13, q14, q15, q20, q24, q46, q48, q61, q76, q91, q95, q99, q100, q105, q111, q117, q123, q129, eq1, le1, ge1, lt1, gt1, cl1, cl4, hm.n, show ¬ v 4 ≤ k by omega, if_false, if_true, shl_nI]
    by_cases q : v (129 + k) = p
    · simp only [q, if_true]
    · simp only [q, if_false]
  · rw [f_X11_of_67_l176]
    simp (disch := omega) only [ck_nI, c_nI, le_n, lt_n, eq_n, lt_eq, Option.bind_some, bndI_some, bndV_some, bndL_some, inc_nI, nI_1, n_add, n_mul, orz, addz, q0, q2, q3, q4, q5, q6, q7, q8, q9, q10, q13, q14, q15, q20, q24, q46, q48, q61, q76, q91, q95, q99, q100, q105, q111, q117, q123, q129, eq1, le1, ge1, lt1, gt1, cl1, cl4, hm.n, if_true, Nat.le_refl]
end OfM
theorem st_of {I : mI} {L : mL} {a1 a2 : Int32} (h : Rel I L) : St_of Rel I L a1 a2 := by
  obtain ⟨⟨v, hw, hm, hc⟩, hr2⟩ := id h
  have sz := hw.sz
  unfold St_of f_X10_of_0 f_X11_of_67
  rw [hasParish_n hc.c0 (by omega), isParish_n (hm 0 (by omega)) (by omega), in_l 0 7 (by decide) (by decide)]
  simp only [Option.bind_some, bit_ite]
  by_cases h1 : 0 ≤ a1.toInt ∧ a1.toInt < (v 0 : Int)
  · rw [if_pos h1, if_pos h1]
    obtain ⟨p, hp, rfl, -⟩ := ofI h1.1 h1.2
    by_cases hr : 0 ≤ a2.toInt ∧ a2.toInt ≤ 7
    · rw [if_pos hr]
      obtain ⟨k, hk, rfl, -⟩ := ofI (a := a2) (n := 8) hr.1 (by omega)
      have sub : ∀ b j : Nat, 1 ≤ j → nI b + nI j - 1 = nI (b + (j - 1)) := fun b j hj => by rw [n_add, show b + j = b + (j - 1) + 1 by omega, nI_pred]
      unfold f_X10_of_0_b77
      rcases (show k = 0 ∨ k = 1 ∨ k = 2 ∨ k = 3 ∨ k = 4 ∨ k = 5 ∨ k = 6 ∨ k = 7 by omega) with rfl | rfl | rfl | rfl | rfl | rfl | rfl | rfl
      · refine ⟨nI (v (6 + p)), ?_, ?_, h⟩
        · simp (disch := omega) only [ck_nI, c_nI, le_n, lt_n, eq_n, lt_eq, Option.bind_some, bndI_some, bndV_some, bndL_some, inc_nI, nI_1, n_add, n_mul, orz, addz, q0, q2, q3, q4, q5, q6, q7, q8, q9, q10, q13, q14, q15, q20, q24, q46, q48, q61, q76, q91, q95, q99, q100, q105, q111, q117, q123, q129, eq1, le1, ge1, lt1, gt1, cl1, if_true, hc.kind hw]
        · simp (disch := omega) only [ck_nI, c_nI, le_n, lt_n, eq_n, lt_eq, Option.bind_some, bndI_some, bndV_some, bndL_some, inc_nI, nI_1, n_add, n_mul, orz, addz, q0, q2, q3, q4, q5, q6, q7, q8, q9, q10, q13, q14, q15, q20, q24, q46, q48, q61, q76, q91, q95, q99, q100, q105, q111, q117, q123, q129, eq1, le1, ge1, lt1, gt1, cl1, show ¬ 5 ≤ 0 by omega, if_false, if_true, hm.n]
      · refine ⟨nI (v (14 + (4 * p + 0))), ?_, ?_, h⟩
        · have e : nI p * 4 + nI 1 - 1 = nI (4 * p + 0) := by rw [q4, n_mul, sub _ _ (by omega)]; congr 1; omega
          rw [e]
          simp (disch := omega) only [ck_nI, c_nI, le_n, lt_n, eq_n, lt_eq, Option.bind_some, bndI_some, bndV_some, bndL_some, inc_nI, nI_1, n_add, n_mul, orz, addz, q0, q2, q3, q4, q5, q6, q7, q8, q9, q10, q13, q14, q15, q20, q24, q46, q48, q61, q76, q91, q95, q99, q100, q105, q111, q117, q123, q129, eq1, le1, ge1, lt1, gt1, cl1, if_true, if_false, hc.pull hw]
          rfl
        · have e : 14 + 4 * nI p + nI 1 - 1 = nI (14 + (4 * p + 0)) := by rw [q4, q14, n_mul, n_add, sub _ _ (by omega)]; exact congrArg nI (by omega)
          rw [e]
          simp (disch := omega) only [ck_nI, c_nI, le_n, lt_n, eq_n, lt_eq, Option.bind_some, bndI_some, bndV_some, bndL_some, inc_nI, nI_1, n_add, n_mul, orz, addz, q0, q2, q3, q4, q5, q6, q7, q8, q9, q10, q13, q14, q15, q20, q24, q46, q48, q61, q76, q91, q95, q99, q100, q105, q111, q117, q123, q129, eq1, le1, ge1, lt1, gt1, cl1, show ¬ 5 ≤ 1 by omega, show ¬ 1 = 0 by omega, if_false, if_true, hm.n]
      · refine ⟨nI (v (14 + (4 * p + 1))), ?_, ?_, h⟩
        · have e : nI p * 4 + nI 2 - 1 = nI (4 * p + 1) := by rw [q4, n_mul, sub _ _ (by omega)]; congr 1; omega
          rw [e]
          simp (disch := omega) only [ck_nI, c_nI, le_n, lt_n, eq_n, lt_eq, Option.bind_some, bndI_some, bndV_some, bndL_some, inc_nI, nI_1, n_add, n_mul, orz, addz, q0, q2, q3, q4, q5, q6, q7, q8, q9, q10, q13, q14, q15, q20, q24, q46, q48, q61, q76, q91, q95, q99, q100, q105, q111, q117, q123, q129, eq1, le1, ge1, lt1, gt1, cl1, if_true, if_false, hc.pull hw]
          rfl
        · have e : 14 + 4 * nI p + nI 2 - 1 = nI (14 + (4 * p + 1)) := by rw [q4, q14, n_mul, n_add, sub _ _ (by omega)]; exact congrArg nI (by omega)
          rw [e]
          simp (disch := omega) only [ck_nI, c_nI, le_n, lt_n, eq_n, lt_eq, Option.bind_some, bndI_some, bndV_some, bndL_some, inc_nI, nI_1, n_add, n_mul, orz, addz, q0, q2, q3, q4, q5, q6, q7, q8, q9, q10, q13, q14, q15, q20, q24, q46, q48, q61, q76, q91, q95, q99, q100, q105, q111, q117, q123, q129, eq1, le1, ge1, lt1, gt1, cl1, show ¬ 5 ≤ 2 by omega, show ¬ 2 = 0 by omega, if_false, if_true, hm.n]
      · refine ⟨nI (v (14 + (4 * p + 2))), ?_, ?_, h⟩
        · have e : nI p * 4 + nI 3 - 1 = nI (4 * p + 2) := by rw [q4, n_mul, sub _ _ (by omega)]; congr 1; omega
          rw [e]
          simp (disch := omega) only [ck_nI, c_nI, le_n, lt_n, eq_n, lt_eq, Option.bind_some, bndI_some, bndV_some, bndL_some, inc_nI, nI_1, n_add, n_mul, orz, addz, q0, q2, q3, q4, q5, q6, q7, q8, q9, q10, q13, q14, q15, q20, q24, q46, q48, q61, q76, q91, q95, q99, q100, q105, q111, q117, q123, q129, eq1, le1, ge1, lt1, gt1, cl1, if_true, if_false, hc.pull hw]
          rfl
        · have e : 14 + 4 * nI p + nI 3 - 1 = nI (14 + (4 * p + 2)) := by rw [q4, q14, n_mul, n_add, sub _ _ (by omega)]; exact congrArg nI (by omega)
          rw [e]
          simp (disch := omega) only [ck_nI, c_nI, le_n, lt_n, eq_n, lt_eq, Option.bind_some, bndI_some, bndV_some, bndL_some, inc_nI, nI_1, n_add, n_mul, orz, addz, q0, q2, q3, q4, q5, q6, q7, q8, q9, q10, q13, q14, q15, q20, q24, q46, q48, q61, q76, q91, q95, q99, q100, q105, q111, q117, q123, q129, eq1, le1, ge1, lt1, gt1, cl1, show ¬ 5 ≤ 3 by omega, show ¬ 3 = 0 by omega, if_false, if_true, hm.n]
      · refine ⟨nI (v (14 + (4 * p + 3))), ?_, ?_, h⟩
        · have e : nI p * 4 + nI 4 - 1 = nI (4 * p + 3) := by rw [q4, n_mul, sub _ _ (by omega)]; congr 1; omega
          rw [e]
          simp (disch := omega) only [ck_nI, c_nI, le_n, lt_n, eq_n, lt_eq, Option.bind_some, bndI_some, bndV_some, bndL_some, inc_nI, nI_1, n_add, n_mul, orz, addz, q0, q2, q3, q4, q5, q6, q7, q8, q9, q10, q13, q14, q15, q20, q24, q46, q48, q61, q76, q91, q95, q99, q100, q105, q111, q117, q123, q129, eq1, le1, ge1, lt1, gt1, cl1, if_true, if_false, hc.pull hw]
          rfl
        · have e : 14 + 4 * nI p + nI 4 - 1 = nI (14 + (4 * p + 3)) := by rw [q4, q14, n_mul, n_add, sub _ _ (by omega)]; exact congrArg nI (by omega)
          rw [e]
          simp (disch := omega) only [ck_nI, c_nI, le_n, lt_n, eq_n, lt_eq, Option.bind_some, bndI_some, bndV_some, bndL_some, inc_nI, nI_1, n_add, n_mul, orz, addz, q0, q2, q3, q4, q5, q6, q7, q8, q9, q10, q13, q14, q15, q20, q24, q46, q48, q61, q76, q91, q95, q99, q100, q105, q111, q117, q123, q129, eq1, le1, ge1, lt1, gt1, cl1, show ¬ 5 ≤ 4 by omega, show ¬ 4 = 0 by omega, if_false, if_true, hm.n]
      · refine ⟨fold (fRds v p) (v 1) 0 (nI 0), ?_, ?_, h⟩
        · have := roadsAt_eq (I := I) (L := L) hw hc hp
          rw [this]; rfl
        · exact of64_eq hm hw hp
      · refine ⟨fold (fSet v 111 p) (v 3) 0 (nI 0), ?_, ?_, h⟩
        · have := setW_eq (I := I) (L := L) hw hc hp
          rw [hc.c3, this]; rfl
        · have := of64_end (I := I) (L := L) (a := nI 0) (p := p) (x := 6) hm hw (by omega) (by omega)
          exact this.trans (of125_eq hm hw hp)
      · refine ⟨fold (fSet v 129 p) (v 4) 0 (nI 0), ?_, ?_, h⟩
        · have := setA_eq (I := I) (L := L) hw hc hp
          rw [hc.c4, this]; rfl
        · have := of64_end (I := I) (L := L) (a := nI 0) (p := p) (x := 7) hm hw (by omega) (by omega)
          have t2 := of125_end (I := I) (L := L) (a := nI 0) (p := p) (x := 7) hm hw (by omega) (by omega)
          exact (this.trans t2).trans (of176_eq hm hw hp)
    · rw [if_neg hr]
      have ne : ∀ j : Nat, j < 8 → ¬ a2 = nI j := fun j hj e => hr (by rw [e, t_nI (by omega)]; omega)
      rw [if_neg (show ¬ a2 = 0 from ne 0 (by omega)), if_neg (show ¬ a2 = 1 from ne 1 (by omega)), if_neg (show ¬ a2 = 2 from ne 2 (by omega)), if_neg (show ¬ a2 = 3 from ne 3 (by omega)), if_neg (show ¬ a2 = 4 from ne 4 (by omega)), if_neg (show ¬ a2 = 5 from ne 5 (by omega)), if_neg (show ¬ a2 = 6 from ne 6 (by omega)), if_neg (show ¬ a2 = 7 from ne 7 (by omega))]
      exact ⟨_, rfl, rfl, h⟩
  · rw [if_neg h1, if_neg h1]
    exact ⟨_, rfl, rfl, h⟩
