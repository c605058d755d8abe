/-! mills -/
theorem inc2_nI (n : Nat) : nI n + Int32.ofInt 2 = nI (n + 2) := n_add n 2
theorem l2i {x : Int64} {n : Nat} (h : x.toInt = n) (hn : n < 2147483648) : x.toInt32 = nI n := by
  apply Int32.toInt_inj.mp
  rw [t_nI hn, Int64.toInt_toInt32, h]
  exact Int.bmod_eq_of_le (by omega) (by omega)
theorem z64 : (0 : Int64).toInt = 0 := by decide
theorem l99 : (99 : Int64).toInt = 99 := by decide
theorem mills_loop {I : mI} {L : mL} {v : mV} (hw : WF v) (hm : MH I 68 v) (hc : CH I 0 v) {q i n : Nat} (hq : q < 4) (hrow : ∀ j, j < 24 → L (41 + q) j = L 73 (24 * q + j)) (hn : i + 2 * n ≤ 24) : ∀ (d k m1 m2 : Nat) (acc : Int32), k + d = n → d < m1 → d < m2 → ∃ r, f_X10_mills_0_l62 I L m1 (nI i) (nI n) q acc (nI (i + 2 * k)) = some r ∧ f_X11_mills_67_l56 I L m2 (nI q) (nI i) (nI n) acc (nI k) = some r := by
  have sz := hw.sz
  intro d
  induction d with
  | zero =>
    intro k m1 m2 acc hk h1 h2
    obtain ⟨m1, rfl⟩ : ∃ j, m1 = j + 1 := ⟨m1 - 1, by omega⟩
    obtain ⟨m2, rfl⟩ : ∃ j, m2 = j + 1 := ⟨m2 - 1, by omega⟩
    refine ⟨acc, ?_, ?_⟩
    · rw [f_X10_mills_0_l62]
      simp (disch := omega) only [ck_nI, c_nI, le_n, lt_n, eq_n, lt_eq, Option.bind_some, bndI_some, bndV_some, bndL_some, inc_nI, nI_1, n_add, n_mul, orz, addz, q0, q2, q3, q4, q5, q6, q7, q8, q9, q10, q13, q14, q15, q20, q24, q46, q48, q61, q76, q91, q95, q99, q100, q105, q111, q117, q123, q129, eq1, le1, ge1, lt1, gt1, cl1, show i + 2 * n ≤ i + 2 * k by omega, if_true]
    · rw [f_X11_mills_67_l56]
      simp (disch := omega) only [ck_nI, c_nI, le_n, lt_n, eq_n, lt_eq, Option.bind_some, bndI_some, bndV_some, bndL_some, inc_nI, nI_1, n_add, n_mul, orz, addz, q0, q2, q3, q4, q5, q6, q7, q8, q9, q10, q13, q14, q15, q20, q24, q46, q48, q61, q76, q91, q95, q99, q100, q105, q111, q117, q123, q129, eq1, le1, ge1, lt1, gt1, cl1, show n ≤ k by omega, if_true]
  | succ d ih =>
    intro k m1 m2 acc hk h1 h2
    obtain ⟨m1, rfl⟩ : ∃ j, m1 = j + 1 := ⟨m1 - 1, by omega⟩
    obtain ⟨m2, rfl⟩ : ∃ j, m2 = j + 1 := ⟨m2 - 1, by omega⟩
    have e1 : f_X10_mills_0_l62 I L (m1 + 1) (nI i) (nI n) q acc (nI (i + 2 * k)) = if (lg_cmp (L (41 + q) (i + 2 * k)) 0) < 0 then (some (-2)) else (if 0 ≤ (lg_cmp (L (41 + q) (i + 2 * k)) ((nI (v 0)).toInt64)) then (some (-2)) else (if (lg_cmp (L (41 + q) (i + 2 * k + 1)) 0) < 0 then (some (-2)) else (if (lg_cmp (L (41 + q) (i + 2 * k + 1)) 99) ≤ 0 then ((f_X7_weightAt_1 I L ((L (41 + q) (i + 2 * k)).toInt32) 1).bind (fun r6 => f_X10_mills_0_l62 I L m1 (nI i) (nI n) q (acc + (r6 * ((L (41 + q) (i + 2 * k + 1)).toInt32))) (nI (i + 2 * k + 2)))) else (some (-2))))) := by
      rw [f_X10_mills_0_l62]
      simp (disch := omega) only [ck_nI, c_nI, le_n, lt_n, eq_n, lt_eq, Option.bind_some, bndI_some, bndV_some, bndL_some, inc_nI, nI_1, n_add, n_mul, orz, addz, q0, q2, q3, q4, q5, q6, q7, q8, q9, q10, q13, q14, q15, q20, q24, q46, q48, q61, q76, q91, q95, q99, q100, q105, q111, q117, q123, q129, eq1, le1, ge1, lt1, gt1, cl1, hc.c0, inc2_nI, show ¬ i + 2 * n ≤ i + 2 * k by omega, if_false]
      rfl
    have e2 : f_X11_mills_67_l56 I L (m2 + 1) (nI q) (nI i) (nI n) acc (nI k) = ((f_X11_in I L (L 73 (24 * q + i + 2 * k)) 0 ((nI (v 0) - 1).toInt64)).bind (fun r7 => if r7 = 0 then (some (-2)) else ((f_X11_in I L (L 73 (24 * q + i + 2 * k + 1)) 0 99).bind (fun r8 => if r8 = 0 then (some (-2)) else ((f_X11_weight_67 I L ((L 73 (24 * q + i + 2 * k)).toInt32) 1).bind (fun r9 => f_X11_mills_67_l56 I L m2 (nI q) (nI i) (nI n) (acc + (r9 * ((L 73 (24 * q + i + 2 * k + 1)).toInt32))) (nI (k + 1)))))))) := by
      rw [f_X11_mills_67_l56]
      simp (disch := omega) only [ck_nI, c_nI, le_n, lt_n, eq_n, lt_eq, Option.bind_some, bndI_some, bndV_some, bndL_some, inc_nI, nI_1, n_add, n_mul, orz, addz, q0, q2, q3, q4, q5, q6, q7, q8, q9, q10, q13, q14, q15, q20, q24, q46, q48, q61, q76, q91, q95, q99, q100, q105, q111, q117, q123, q129, eq1, le1, ge1, lt1, gt1, cl1, cl0, hm.n, show ¬ n ≤ k by omega, if_false]
      rfl
    have r1 : L 73 (24 * q + i + 2 * k) = L (41 + q) (i + 2 * k) := by rw [hrow _ (by omega)]; congr 1; omega
    have r2 : L 73 (24 * q + i + 2 * k + 1) = L (41 + q) (i + 2 * k + 1) := by rw [hrow _ (by omega)]; congr 1; omega
    rw [r1, r2] at e2
    rw [in_eq, in_eq, pred_l (by omega), z64, l99] at e2
    simp only [Option.bind_some, bit_ite] at e2
    generalize hP : L (41 + q) (i + 2 * k) = P at e1 e2
    generalize hF : L (41 + q) (i + 2 * k + 1) = F at e1 e2
    simp only [lgc_lt, lgc_ge, lgc_le, z64, l99, Int32.toInt_toInt64, t_nI (show v 0 < 2147483648 by omega)] at e1
    rw [e1, e2]
    by_cases a1 : P.toInt < 0
    · rw [if_pos a1, if_neg (show ¬ (0 ≤ P.toInt ∧ P.toInt ≤ (v 0 : Int) - 1) by omega)]; exact ⟨_, rfl, rfl⟩
    · rw [if_neg a1]
      by_cases a2 : (v 0 : Int) ≤ P.toInt
      · rw [if_pos a2, if_neg (show ¬ (0 ≤ P.toInt ∧ P.toInt ≤ (v 0 : Int) - 1) by omega)]; exact ⟨_, rfl, rfl⟩
      · rw [if_neg a2, if_pos (show 0 ≤ P.toInt ∧ P.toInt ≤ (v 0 : Int) - 1 by omega)]
        by_cases a3 : F.toInt < 0
        · rw [if_pos a3, if_neg (show ¬ (0 ≤ F.toInt ∧ F.toInt ≤ 99) by omega)]; exact ⟨_, rfl, rfl⟩
        · rw [if_neg a3]
          by_cases a4 : F.toInt ≤ 99
          · rw [if_pos a4, if_pos (show 0 ≤ F.toInt ∧ F.toInt ≤ 99 by omega)]
            have eP : P.toInt32 = nI P.toInt.toNat := l2i (by omega) (by omega)
            rw [eP, show (1 : Int32) = nI 1 from rfl, weightAt_eq hw hc (by omega) (by omega), mweight_eq hw hm (by omega) (by omega), Option.bind_some, Option.bind_some]
            exact ih (k + 1) m1 m2 _ (by omega) (by omega) (by omega)
          · rw [if_neg a4, if_neg (show ¬ (0 ≤ F.toInt ∧ F.toInt ≤ 99) by omega)]; exact ⟨_, rfl, rfl⟩
theorem st_mills {I : mI} {L : mL} {a1 a2 a3 a4 : Int32} (h : Rel I L) : St_mills Rel I L a1 a2 a3 a4 := by
  obtain ⟨⟨v, hw, hm, hc⟩, hr2⟩ := id h
  have sz := hw.sz
  have hs := h.2.2.2
  unfold St_mills f_X10_mills_0 f_X11_mills_67
  rw [isLaneC_n, within_l 1 8 (by decide) (by decide), isSheetM_n, isLaneM_n, in_l 1 8 (by decide) (by decide)]
  simp only [Option.bind_some, bit_ite]
  by_cases h1 : 0 ≤ a1.toInt ∧ a1.toInt ≤ 3
  · by_cases h2 : 0 ≤ a2.toInt ∧ a2.toInt ≤ 2
    · rw [if_pos ⟨h1, h2⟩, if_pos h1, if_pos h2]
      by_cases h3 : 1 ≤ a4.toInt ∧ a4.toInt ≤ 8
      · rw [if_pos h3, if_pos h3]
        obtain ⟨q, hq, rfl, -⟩ := ofI (a := a1) (n := 4) h1.1 (by omega)
        obtain ⟨n, hn9, rfl, gn⟩ := ofI (a := a4) (n := 9) (by omega) (by omega)
        obtain ⟨r, e1, e2, hr⟩ := fault_eq hq (hs q hq) a2 a3 (2 * nI n)
        rw [e1, e2, Option.bind_some, Option.bind_some]
        rcases hr with hr | ⟨rfl, k7, i, m, n', rfl, em, him, hn, -, -, ⟨a, ha, rfl, k4, k5⟩, k6⟩
        · rw [if_neg hr, if_neg hr]
          exact ⟨_, rfl, rfl, h⟩
        · rw [q2, n_mul, eq_n (by omega) (by omega)] at em
          subst em
          rw [if_pos (by decide), if_pos (by decide), ck_nI hq (by omega), c_nI (by omega)]
          obtain ⟨r, e3, e4⟩ := mills_loop (I := I) (L := L) hw hm hc hq k6 (show i + 2 * n ≤ 24 by omega) n 0 fuel fuel 0 (by omega) (fuel_gt (by omega)) (fuel_gt (by omega))
          exact ⟨r, e3, e4, h⟩
      · rw [if_neg h3, if_neg h3]
        exact ⟨_, rfl, rfl, h⟩
    · rw [if_neg (fun z => h2 z.2), if_pos h1, if_neg h2]
      exact ⟨_, rfl, rfl, h⟩
  · rw [if_neg (fun z => h1 z.1), if_neg h1]
    exact ⟨_, rfl, rfl, h⟩
/-! image, restore -/
theorem pI_same (I : mI) (k : Nat) (f : Nat → Int32) : pI I k f k = f := by unfold pI; simp
theorem cpy0 {f g : Nat → Int32} {n j : Nat} (h : j < n) : va_cpy f g 0 0 n j = f j := by rw [pk_cpy_in (by omega) (by omega)]; congr 1; omega
theorem locs {i : Nat} (hi : i < 135) : (∃ k, k < 2 ∧ i = k ∧ loc i = (2, 5 + k)) ∨ (∃ k, k < 4 ∧ i = 2 + k ∧ loc i = (1, 9 + k)) ∨ (∃ k, k < 8 ∧ i = 6 + k ∧ loc i = (3, k)) ∨ (∃ k, k < 32 ∧ i = 14 + k ∧ loc i = (4, k)) ∨ (∃ k, k < 15 ∧ i = 46 + k ∧ loc i = (5, k)) ∨ (∃ k, k < 15 ∧ i = 61 + k ∧ loc i = (6, k)) ∨ (∃ k, k < 15 ∧ i = 76 + k ∧ loc i = (7, k)) ∨ (∃ k, k < 4 ∧ i = 91 + k ∧ loc i = (8, k)) ∨ (∃ k, k < 4 ∧ i = 95 + k ∧ loc i = (9, k)) ∨ (∃ k, k < 6 ∧ i = 99 + k ∧ loc i = (10, k)) ∨ (∃ k, k < 6 ∧ i = 105 + k ∧ loc i = (11, k)) ∨ (∃ k, k < 6 ∧ i = 111 + k ∧ loc i = (12, k)) ∨ (∃ k, k < 6 ∧ i = 117 + k ∧ loc i = (13, k)) ∨ (∃ k, k < 6 ∧ i = 123 + k ∧ loc i = (14, k)) ∨ (∃ k, k < 6 ∧ i = 129 + k ∧ loc i = (15, k)) := by
  by_cases h0 : i < 2
  · left; refine ⟨i, h0, rfl, ?_⟩
    rcases (show i = 0 ∨ i = 1 by omega) with rfl | rfl <;> decide
  right
  by_cases h1 : i < 6
  · left; refine ⟨i - 2, by omega, by omega, ?_⟩
    rcases (show i = 2 ∨ i = 3 ∨ i = 4 ∨ i = 5 by omega) with rfl | rfl | rfl | rfl <;> decide
  right
  by_cases h6 : i < 14
  · left; obtain ⟨k, rfl⟩ : ∃ k, i = 6 + k := ⟨i - 6, by omega⟩
    exact ⟨k, by omega, rfl, loc_kind (by omega)⟩
  right
  by_cases h14 : i < 46
  · left; obtain ⟨k, rfl⟩ : ∃ k, i = 14 + k := ⟨i - 14, by omega⟩
    exact ⟨k, by omega, rfl, loc_pull (by omega)⟩
  right
  by_cases h46 : i < 61
  · left; obtain ⟨k, rfl⟩ : ∃ k, i = 46 + k := ⟨i - 46, by omega⟩
    exact ⟨k, by omega, rfl, loc_one (by omega)⟩
  right
  by_cases h61 : i < 76
  · left; obtain ⟨k, rfl⟩ : ∃ k, i = 61 + k := ⟨i - 61, by omega⟩
    exact ⟨k, by omega, rfl, loc_oth (by omega)⟩
  right
  by_cases h76 : i < 91
  · left; obtain ⟨k, rfl⟩ : ∃ k, i = 76 + k := ⟨i - 76, by omega⟩
    exact ⟨k, by omega, rfl, loc_toll (by omega)⟩
  right
  by_cases h91 : i < 95
  · left; obtain ⟨k, rfl⟩ : ∃ k, i = 91 + k := ⟨i - 91, by omega⟩
    exact ⟨k, by omega, rfl, loc_bear (by omega)⟩
  right
  by_cases h95 : i < 99
  · left; obtain ⟨k, rfl⟩ : ∃ k, i = 95 + k := ⟨i - 95, by omega⟩
    exact ⟨k, by omega, rfl, loc_cost (by omega)⟩
  right
  by_cases h99 : i < 105
  · left; obtain ⟨k, rfl⟩ : ∃ k, i = 99 + k := ⟨i - 99, by omega⟩
    exact ⟨k, by omega, rfl, loc_mass (by omega)⟩
  right
  by_cases h105 : i < 111
  · left; obtain ⟨k, rfl⟩ : ∃ k, i = 105 + k := ⟨i - 105, by omega⟩
    exact ⟨k, by omega, rfl, loc_price (by omega)⟩
  right
  by_cases h111 : i < 117
  · left; obtain ⟨k, rfl⟩ : ∃ k, i = 111 + k := ⟨i - 111, by omega⟩
    exact ⟨k, by omega, rfl, loc_where (by omega)⟩
  right
  by_cases h117 : i < 123
  · left; obtain ⟨k, rfl⟩ : ∃ k, i = 117 + k := ⟨i - 117, by omega⟩
    exact ⟨k, by omega, rfl, loc_rope (by omega)⟩
  right
  by_cases h123 : i < 129
  · left; obtain ⟨k, rfl⟩ : ∃ k, i = 123 + k := ⟨i - 123, by omega⟩
    exact ⟨k, by omega, rfl, loc_heavy (by omega)⟩
  right
  obtain ⟨k, rfl⟩ : ∃ k, i = 129 + k := ⟨i - 129, by omega⟩
  exact ⟨k, by omega, rfl, loc_at (by omega)⟩
theorem cpC16_1 {I : mI} {L : mL} : ∃ I2, f_X7_copyFrom_16_1 I L = some (I2, L) ∧ (∀ k, ¬ (16 ≤ k ∧ k ≤ 30) → I2 k = I k) ∧ (∀ k, k < 8 → I2 18 k = I 3 k) ∧ (∀ k, k < 32 → I2 19 k = I 4 k) ∧ (∀ k, k < 15 → I2 20 k = I 5 k) ∧ (∀ k, k < 15 → I2 21 k = I 6 k) ∧ (∀ k, k < 15 → I2 22 k = I 7 k) ∧ (∀ k, k < 4 → I2 23 k = I 8 k) ∧ (∀ k, k < 4 → I2 24 k = I 9 k) ∧ (∀ k, k < 6 → I2 25 k = I 10 k) ∧ (∀ k, k < 6 → I2 26 k = I 11 k) ∧ (∀ k, k < 6 → I2 27 k = I 12 k) ∧ (∀ k, k < 6 → I2 28 k = I 13 k) ∧ (∀ k, k < 6 → I2 29 k = I 14 k) ∧ (∀ k, k < 6 → I2 30 k = I 15 k) ∧ I2 17 5 = I 2 5 ∧ I2 17 6 = I 2 6 ∧ I2 16 9 = I 1 9 ∧ I2 16 10 = I 1 10 ∧ I2 16 11 = I 1 11 ∧ I2 16 12 = I 1 12 := by
  unfold f_X7_copyFrom_16_1 f_X3_copyFrom_17_2
  simp only [lt_eq, ck_t (show cpk 0 0 4 4 4 = true by decide), ck_t (show cpk 0 0 6 6 6 = true by decide), ck_t (show cpk 0 0 8 8 8 = true by decide), ck_t (show cpk 0 0 15 15 15 = true by decide), ck_t (show cpk 0 0 32 32 32 = true by decide), bndV_some, cl0, cl4, show (6 : Int32).toNatClampNeg = 6 from by decide, show (8 : Int32).toNatClampNeg = 8 from by decide, show (15 : Int32).toNatClampNeg = 15 from by decide, show (32 : Int32).toNatClampNeg = 32 from by decide]
  refine ⟨_, rfl, fun k hk => ?_, fun k hk => ?_, fun k hk => ?_, fun k hk => ?_, fun k hk => ?_, fun k hk => ?_, fun k hk => ?_, fun k hk => ?_, fun k hk => ?_, fun k hk => ?_, fun k hk => ?_, fun k hk => ?_, fun k hk => ?_, fun k hk => ?_, ?_, ?_, ?_, ?_, ?_, ?_⟩
  · simp (disch := omega) only [uI_cell, pI_cell]
  · simp (disch := omega) only [uI_cell, pI_cell, pI_same, cpy0]
  · simp (disch := omega) only [uI_cell, pI_cell, pI_same, cpy0]
  · simp (disch := omega) only [uI_cell, pI_cell, pI_same, cpy0]
  · simp (disch := omega) only [uI_cell, pI_cell, pI_same, cpy0]
  · simp (disch := omega) only [uI_cell, pI_cell, pI_same, cpy0]
  · simp (disch := omega) only [uI_cell, pI_cell, pI_same, cpy0]
  · simp (disch := omega) only [uI_cell, pI_cell, pI_same, cpy0]
  · simp (disch := omega) only [uI_cell, pI_cell, pI_same, cpy0]
  · simp (disch := omega) only [uI_cell, pI_cell, pI_same, cpy0]
  · simp (disch := omega) only [uI_cell, pI_cell, pI_same, cpy0]
  · simp (disch := omega) only [uI_cell, pI_cell, pI_same, cpy0]
  · simp (disch := omega) only [uI_cell, pI_cell, pI_same, cpy0]
  · simp (disch := omega) only [uI_cell, pI_cell, pI_same, cpy0]
  · simp (disch := omega) only [uI_cell, pI_cell, pI_same, uI_same, uI_at, show ¬ ((5 : Nat) = 6) by omega, show ¬ ((9 : Nat) = 12) by omega, show ¬ ((9 : Nat) = 11) by omega, show ¬ ((9 : Nat) = 10) by omega, show ¬ ((10 : Nat) = 12) by omega, show ¬ ((10 : Nat) = 11) by omega, show ¬ ((11 : Nat) = 12) by omega, and_false, if_false]; simp
  · simp (disch := omega) only [uI_cell, pI_cell, pI_same, uI_same, uI_at, show ¬ ((5 : Nat) = 6) by omega, show ¬ ((9 : Nat) = 12) by omega, show ¬ ((9 : Nat) = 11) by omega, show ¬ ((9 : Nat) = 10) by omega, show ¬ ((10 : Nat) = 12) by omega, show ¬ ((10 : Nat) = 11) by omega, show ¬ ((11 : Nat) = 12) by omega, and_false, if_false]; simp
  · simp (disch := omega) only [uI_cell, pI_cell, pI_same, uI_same, uI_at, show ¬ ((5 : Nat) = 6) by omega, show ¬ ((9 : Nat) = 12) by omega, show ¬ ((9 : Nat) = 11) by omega, show ¬ ((9 : Nat) = 10) by omega, show ¬ ((10 : Nat) = 12) by omega, show ¬ ((10 : Nat) = 11) by omega, show ¬ ((11 : Nat) = 12) by omega, and_false, if_false]; simp
  · simp (disch := omega) only [uI_cell, pI_cell, pI_same, uI_same, uI_at, show ¬ ((5 : Nat) = 6) by omega, show ¬ ((9 : Nat) = 12) by omega, show ¬ ((9 : Nat) = 11) by omega, show ¬ ((9 : Nat) = 10) by omega, show ¬ ((10 : Nat) = 12) by omega, show ¬ ((10 : Nat) = 11) by omega, show ¬ ((11 : Nat) = 12) by omega, and_false, if_false]; simp
  · simp (disch := omega) only [uI_cell, pI_cell, pI_same, uI_same, uI_at, show ¬ ((5 : Nat) = 6) by omega, show ¬ ((9 : Nat) = 12) by omega, show ¬ ((9 : Nat) = 11) by omega, show ¬ ((9 : Nat) = 10) by omega, show ¬ ((10 : Nat) = 12) by omega, show ¬ ((10 : Nat) = 11) by omega, show ¬ ((11 : Nat) = 12) by omega, and_false, if_false]; simp
  · simp (disch := omega) only [uI_cell, pI_cell, pI_same, uI_same, uI_at, show ¬ ((5 : Nat) = 6) by omega, show ¬ ((9 : Nat) = 12) by omega, show ¬ ((9 : Nat) = 11) by omega, show ¬ ((9 : Nat) = 10) by omega, show ¬ ((10 : Nat) = 12) by omega, show ¬ ((10 : Nat) = 11) by omega, show ¬ ((11 : Nat) = 12) by omega, and_false, if_false]; simp
theorem copy16_1 {I : mI} {L : mL} : ∃ I2, f_X7_copyFrom_16_1 I L = some (I2, L) ∧ (∀ k, ¬ (16 ≤ k ∧ k ≤ 30) → I2 k = I k) ∧ ∀ i, i < 135 → I2 ((loc i).1 + 15) (loc i).2 = I ((loc i).1 + 0) (loc i).2 := by
  obtain ⟨I2, e0, e1, a3, a4, a5, a6, a7, a8, a9, a10, a11, a12, a13, a14, a15, b1, b2, b3, b4, b5, b6⟩ := cpC16_1 (I := I) (L := L)
  refine ⟨I2, e0, e1, fun i hi => ?_⟩
  rcases locs hi with ⟨k, hk, -, e⟩ | ⟨k, hk, -, e⟩ | ⟨k, hk, -, e⟩ | ⟨k, hk, -, e⟩ | ⟨k, hk, -, e⟩ | ⟨k, hk, -, e⟩ | ⟨k, hk, -, e⟩ | ⟨k, hk, -, e⟩ | ⟨k, hk, -, e⟩ | ⟨k, hk, -, e⟩ | ⟨k, hk, -, e⟩ | ⟨k, hk, -, e⟩ | ⟨k, hk, -, e⟩ | ⟨k, hk, -, e⟩ | ⟨k, hk, -, e⟩
  · rw [e]
    rcases (show k = 0 ∨ k = 1 by omega) with rfl | rfl
    · exact b1
    · exact b2
  · rw [e]
    rcases (show k = 0 ∨ k = 1 ∨ k = 2 ∨ k = 3 by omega) with rfl | rfl | rfl | rfl
    · exact b3
    · exact b4
    · exact b5
    · exact b6
  · rw [e]; exact a3 k hk
  · rw [e]; exact a4 k hk
  · rw [e]; exact a5 k hk
  · rw [e]; exact a6 k hk
  · rw [e]; exact a7 k hk
  · rw [e]; exact a8 k hk
  · rw [e]; exact a9 k hk
  · rw [e]; exact a10 k hk
  · rw [e]; exact a11 k hk
  · rw [e]; exact a12 k hk
  · rw [e]; exact a13 k hk
  · rw [e]; exact a14 k hk
  · rw [e]; exact a15 k hk
theorem cpC1_16 {I : mI} {L : mL} : ∃ I2, f_X7_copyFrom_1_16 I L = some (I2, L) ∧ (∀ k, ¬ (1 ≤ k ∧ k ≤ 15) → I2 k = I k) ∧ (∀ k, k < 8 → I2 3 k = I 18 k) ∧ (∀ k, k < 32 → I2 4 k = I 19 k) ∧ (∀ k, k < 15 → I2 5 k = I 20 k) ∧ (∀ k, k < 15 → I2 6 k = I 21 k) ∧ (∀ k, k < 15 → I2 7 k = I 22 k) ∧ (∀ k, k < 4 → I2 8 k = I 23 k) ∧ (∀ k, k < 4 → I2 9 k = I 24 k) ∧ (∀ k, k < 6 → I2 10 k = I 25 k) ∧ (∀ k, k < 6 → I2 11 k = I 26 k) ∧ (∀ k, k < 6 → I2 12 k = I 27 k) ∧ (∀ k, k < 6 → I2 13 k = I 28 k) ∧ (∀ k, k < 6 → I2 14 k = I 29 k) ∧ (∀ k, k < 6 → I2 15 k = I 30 k) ∧ I2 2 5 = I 17 5 ∧ I2 2 6 = I 17 6 ∧ I2 1 9 = I 16 9 ∧ I2 1 10 = I 16 10 ∧ I2 1 11 = I 16 11 ∧ I2 1 12 = I 16 12 := by
  unfold f_X7_copyFrom_1_16 f_X3_copyFrom_2_17
  simp only [lt_eq, ck_t (show cpk 0 0 4 4 4 = true by decide), ck_t (show cpk 0 0 6 6 6 = true by decide), ck_t (show cpk 0 0 8 8 8 = true by decide), ck_t (show cpk 0 0 15 15 15 = true by decide), ck_t (show cpk 0 0 32 32 32 = true by decide), bndV_some, cl0, cl4, show (6 : Int32).toNatClampNeg = 6 from by decide, show (8 : Int32).toNatClampNeg = 8 from by decide, show (15 : Int32).toNatClampNeg = 15 from by decide, show (32 : Int32).toNatClampNeg = 32 from by decide]
  refine ⟨_, rfl, fun k hk => ?_, fun k hk => ?_, fun k hk => ?_, fun k hk => ?_, fun k hk => ?_, fun k hk => ?_, fun k hk => ?_, fun k hk => ?_, fun k hk => ?_, fun k hk => ?_, fun k hk => ?_, fun k hk => ?_, fun k hk => ?_, fun k hk => ?_, ?_, ?_, ?_, ?_, ?_, ?_⟩
  · simp (disch := omega) only [uI_cell, pI_cell]
  · simp (disch := omega) only [uI_cell, pI_cell, pI_same, cpy0]
  · simp (disch := omega) only [uI_cell, pI_cell, pI_same, cpy0]
  · simp (disch := omega) only [uI_cell, pI_cell, pI_same, cpy0]
  · simp (disch := omega) only [uI_cell, pI_cell, pI_same, cpy0]
  · simp (disch := omega) only [uI_cell, pI_cell, pI_same, cpy0]
  · simp (disch := omega) only [uI_cell, pI_cell, pI_same, cpy0]
  · simp (disch := omega) only [uI_cell, pI_cell, pI_same, cpy0]
  · simp (disch := omega) only [uI_cell, pI_cell, pI_same, cpy0]
  · simp (disch := omega) only [uI_cell, pI_cell, pI_same, cpy0]
  · simp (disch := omega) only [uI_cell, pI_cell, pI_same, cpy0]
  · simp (disch := omega) only [uI_cell, pI_cell, pI_same, cpy0]
  · simp (disch := omega) only [uI_cell, pI_cell, pI_same, cpy0]
  · simp (disch := omega) only [uI_cell, pI_cell, pI_same, cpy0]
  · simp (disch := omega) only [uI_cell, pI_cell, pI_same, uI_same, uI_at, show ¬ ((5 : Nat) = 6) by omega, show ¬ ((9 : Nat) = 12) by omega, show ¬ ((9 : Nat) = 11) by omega, show ¬ ((9 : Nat) = 10) by omega, show ¬ ((10 : Nat) = 12) by omega, show ¬ ((10 : Nat) = 11) by omega, show ¬ ((11 : Nat) = 12) by omega, and_false, if_false]; simp
  · simp (disch := omega) only [uI_cell, pI_cell, pI_same, uI_same, uI_at, show ¬ ((5 : Nat) = 6) by omega, show ¬ ((9 : Nat) = 12) by omega, show ¬ ((9 : Nat) = 11) by omega, show ¬ ((9 : Nat) = 10) by omega, show ¬ ((10 : Nat) = 12) by omega, show ¬ ((10 : Nat) = 11) by omega, show ¬ ((11 : Nat) = 12) by omega, and_false, if_false]; simp
  · simp (disch := omega) only [uI_cell, pI_cell, pI_same, uI_same, uI_at, show ¬ ((5 : Nat) = 6) by omega, show ¬ ((9 : Nat) = 12) by omega, show ¬ ((9 : Nat) = 11) by omega, show ¬ ((9 : Nat) = 10) by omega, show ¬ ((10 : Nat) = 12) by omega, show ¬ ((10 : Nat) = 11) by omega, show ¬ ((11 : Nat) = 12) by omega, and_false, if_false]; simp
  · simp (disch := omega) only [uI_cell, pI_cell, pI_same, uI_same, uI_at, show ¬ ((5 : Nat) = 6) by omega, show ¬ ((9 : Nat) = 12) by omega, show ¬ ((9 : Nat) = 11) by omega, show ¬ ((9 : Nat) = 10) by omega, show ¬ ((10 : Nat) = 12) by omega, show ¬ ((10 : Nat) = 11) by omega, show ¬ ((11 : Nat) = 12) by omega, and_false, if_false]; simp
  · simp (disch := omega) only [uI_cell, pI_cell, pI_same, uI_same, uI_at, show ¬ ((5 : Nat) = 6) by omega, show ¬ ((9 : Nat) = 12) by omega, show ¬ ((9 : Nat) = 11) by omega, show ¬ ((9 : Nat) = 10) by omega, show ¬ ((10 : Nat) = 12) by omega, show ¬ ((10 : Nat) = 11) by omega, show ¬ ((11 : Nat) = 12) by omega, and_false, if_false]; simp
  · simp (disch := omega) only [uI_cell, pI_cell, pI_same, uI_same, uI_at, show ¬ ((5 : Nat) = 6) by omega, show ¬ ((9 : Nat) = 12) by omega, show ¬ ((9 : Nat) = 11) by omega, show ¬ ((9 : Nat) = 10) by omega, show ¬ ((10 : Nat) = 12) by omega, show ¬ ((10 : Nat) = 11) by omega, show ¬ ((11 : Nat) = 12) by omega, and_false, if_false]; simp
theorem copy1_16 {I : mI} {L : mL} : ∃ I2, f_X7_copyFrom_1_16 I L = some (I2, L) ∧ (∀ k, ¬ (1 ≤ k ∧ k ≤ 15) → I2 k = I k) ∧ ∀ i, i < 135 → I2 ((loc i).1 + 0) (loc i).2 = I ((loc i).1 + 15) (loc i).2 := by
  obtain ⟨I2, e0, e1, a3, a4, a5, a6, a7, a8, a9, a10, a11, a12, a13, a14, a15, b1, b2, b3, b4, b5, b6⟩ := cpC1_16 (I := I) (L := L)
  refine ⟨I2, e0, e1, fun i hi => ?_⟩
  rcases locs hi with ⟨k, hk, -, e⟩ | ⟨k, hk, -, e⟩ | ⟨k, hk, -, e⟩ | ⟨k, hk, -, e⟩ | ⟨k, hk, -, e⟩ | ⟨k, hk, -, e⟩ | ⟨k, hk, -, e⟩ | ⟨k, hk, -, e⟩ | ⟨k, hk, -, e⟩ | ⟨k, hk, -, e⟩ | ⟨k, hk, -, e⟩ | ⟨k, hk, -, e⟩ | ⟨k, hk, -, e⟩ | ⟨k, hk, -, e⟩ | ⟨k, hk, -, e⟩
  · rw [e]
    rcases (show k = 0 ∨ k = 1 by omega) with rfl | rfl
    · exact b1
    · exact b2
  · rw [e]
    rcases (show k = 0 ∨ k = 1 ∨ k = 2 ∨ k = 3 by omega) with rfl | rfl | rfl | rfl
    · exact b3
    · exact b4
    · exact b5
    · exact b6
  · rw [e]; exact a3 k hk
  · rw [e]; exact a4 k hk
  · rw [e]; exact a5 k hk
  · rw [e]; exact a6 k hk
  · rw [e]; exact a7 k hk
  · rw [e]; exact a8 k hk
  · rw [e]; exact a9 k hk
  · rw [e]; exact a10 k hk
  · rw [e]; exact a11 k hk
  · rw [e]; exact a12 k hk
  · rw [e]; exact a13 k hk
  · rw [e]; exact a14 k hk
  · rw [e]; exact a15 k hk
theorem mimage_loop {I : mI} {L : mL} : ∃ I2, f_X11_image_67 I L = some (1, uI I2 67 2 1, L) ∧ (∀ c, c ≠ 69 → I2 c = I c) ∧ ∀ j, j < 135 → I2 69 j = I 68 j := by
  have hl := loop_inv (F := fun m k J => f_X11_image_67_l2 m (nI k) J L) (n := 135) (Inv := fun k J => (∀ c, c ≠ 69 → J c = I c) ∧ ∀ j, j < k → J 69 j = I 68 j) (fun m k J hk hI => ?_) 135 0 I fuel (by omega) ⟨fun _ _ => rfl, fun j hj => absurd hj (by omega)⟩ (fuel_gt (by omega))
  · obtain ⟨m', J, hI, e⟩ := hl
    refine ⟨J, ?_, hI.1, hI.2⟩
    unfold f_X11_image_67
    rw [q0]
    refine e.trans ?_
    show f_X11_image_67_l2 (m' + 1) (nI 135) J L = _
    rw [f_X11_image_67_l2, if_pos (by decide)]
    rfl
  · refine ⟨uI J 69 k (J 68 k), ⟨fun c hc => by rw [uI_cell hc]; exact hI.1 c hc, fun j hj => ?_⟩, ?_⟩
    · rw [uI_at, hI.1 68 (by omega)]
      by_cases e : j = k
      · rw [if_pos ⟨rfl, e⟩, e]
      · rw [if_neg (by omega)]; exact hI.2 j (by omega)
    · show f_X11_image_67_l2 (m + 1) (nI k) J L = f_X11_image_67_l2 m (nI (k + 1)) _ L
      rw [f_X11_image_67_l2, if_neg (by rw [show (135 : Int32) = nI 135 from rfl, le_n (by omega) (by omega)]; omega)]
      simp (disch := omega) only [ck_nI, c_nI, le_n, lt_n, eq_n, lt_eq, Option.bind_some, bndI_some, bndV_some, bndL_some, inc_nI, nI_1, n_add, n_mul, orz, addz, q0, q2, q3, q4, q5, q6, q7, q8, q9, q10, q13, q14, q15, q20, q24, q46, q48, q61, q76, q91, q95, q99, q100, q105, q111, q117, q123, q129, eq1, le1, ge1, lt1, gt1, cl1]
theorem mrestore_loop {I : mI} {L : mL} : ∃ I2, f_X11_restore_67_l12 fuel 0 I L = some (1, I2, L) ∧ (∀ c, c ≠ 68 → I2 c = I c) ∧ ∀ j, j < 135 → I2 68 j = I 69 j := by
  have hl := loop_inv (F := fun m k J => f_X11_restore_67_l12 m (nI k) J L) (n := 135) (Inv := fun k J => (∀ c, c ≠ 68 → J c = I c) ∧ ∀ j, j < k → J 68 j = I 69 j) (fun m k J hk hI => ?_) 135 0 I fuel (by omega) ⟨fun _ _ => rfl, fun j hj => absurd hj (by omega)⟩ (fuel_gt (by omega))
  · obtain ⟨m', J, hI, e⟩ := hl
    refine ⟨J, ?_, hI.1, hI.2⟩
    rw [q0]
    refine e.trans ?_
    show f_X11_restore_67_l12 (m' + 1) (nI 135) J L = _
    rw [f_X11_restore_67_l12, if_pos (by decide)]
  · refine ⟨uI J 68 k (J 69 k), ⟨fun c hc => by rw [uI_cell hc]; exact hI.1 c hc, fun j hj => ?_⟩, ?_⟩
    · rw [uI_at, hI.1 69 (by omega)]
      by_cases e : j = k
      · rw [if_pos ⟨rfl, e⟩, e]
      · rw [if_neg (by omega)]; exact hI.2 j (by omega)
    · show f_X11_restore_67_l12 (m + 1) (nI k) J L = f_X11_restore_67_l12 m (nI (k + 1)) _ L
      rw [f_X11_restore_67_l12, if_neg (by rw [show (135 : Int32) = nI 135 from rfl, le_n (by omega) (by omega)]; omega)]
      simp (disch := omega) only [ck_nI, c_nI, le_n, lt_n, eq_n, lt_eq, Option.bind_some, bndI_some, bndV_some, bndL_some, inc_nI, nI_1, n_add, n_mul, orz, addz, q0, q2, q3, q4, q5, q6, q7, q8, q9, q10, q13, q14, q15, q20, q24, q46, q48, q61, q76, q91, q95, q99, q100, q105, q111, q117, q123, q129, eq1, le1, ge1, lt1, gt1, cl1]
theorem SHt.frame {I I2 : mI} {L : mL} {q : Nat} (h : SHt I L q) (hf : ∀ k, k = 45 ∨ k = 46 ∨ k = 47 ∨ k = 71 ∨ k = 72 → I2 k = I k) : SHt I2 L q := by
  unfold SHt at h ⊢
  rw [hf 47 (by omega), hf 72 (by omega), hf 46 (by omega), hf 45 (by omega), hf 71 (by omega)]
  exact h
theorem st_image {I : mI} {L : mL} (h : Rel I L) : St_image Rel I L := by
  obtain ⟨⟨v, hw, hm, hc⟩, hk, ⟨n, t, h2, h3, h4, h5⟩, hs⟩ := id h
  unfold St_image f_X10_image_0
  obtain ⟨I2, e, f1, f2⟩ := copy16_1 (I := I) (L := L)
  rw [e, bndV_some, lt_eq]
  obtain ⟨I3, e3, g1, g2⟩ := mimage_loop (I := uI I2 0 9 1) (L := L)
  have hh : ∀ c, (1 ≤ c ∧ c ≤ 15) ∨ (31 ≤ c ∧ c ≤ 66) ∨ c = 68 ∨ 70 ≤ c → (uI I3 67 2 1) c = I c := fun c hc => by
    rw [uI_cell (by omega), g1 c (by omega), uI_cell (by omega), f1 c (by omega)]
  refine ⟨_, _, _, _, _, rfl, e3, ⟨v, hw, hm.frame (hh 68 (by omega)), hc.frame (fun k a b => hh k (by omega))⟩, Or.inr ⟨?_, ?_, v, hw, fun j hj => ?_, fun i hi hl => ?_⟩, ⟨n, t, h2, by rw [hh 31 (by omega)]; exact h3, ?_, fun j hj => ?_⟩, fun q hq => (hs q hq).frame (fun k hk => hh k (by omega))⟩
  · rw [uI_cell (by omega), g1 0 (by omega), uI_same]
  · rw [uI_same]
  · rw [uI_cell (by omega), g2 j hj, uI_cell (by omega), f1 68 (by omega)]; exact hm j hj
  · have := loc_cell hi
    rw [uI_cell (by omega), g1 _ (by omega), uI_cell (by omega), f2 i hi]
    exact hc i hi hl
  · rw [uI_at, if_neg (by omega), g1 67 (by omega), uI_cell (by omega), f1 67 (by omega)]; exact h4
  · rw [hh 32 (by omega), hh 70 (by omega)]; exact h5 j hj
theorem st_restore {I : mI} {L : mL} (h : Rel I L) : St_restore Rel I L := by
  obtain ⟨⟨v, hw, hm, hc⟩, hk, ⟨n, t, h2, h3, h4, h5⟩, hs⟩ := id h
  unfold St_restore f_X10_restore_0 f_X11_restore_67
  rcases hk with ⟨k1, k2⟩ | ⟨k1, k2, w, kw, km, kc⟩
  · refine ⟨-4, I, L, I, L, by rw [if_pos k1], by rw [if_pos k2], h⟩
  · obtain ⟨I2, e, f1, f2⟩ := copy1_16 (I := I) (L := L)
    rw [if_neg (by rw [k1]; decide), e, bndV_some]
    obtain ⟨I3, e3, g1, g2⟩ := mrestore_loop (I := I2) (L := L)
    have hh : ∀ c, c = 0 ∨ (16 ≤ c ∧ c ≤ 67) ∨ 69 ≤ c → I3 c = I c := fun c hc => by
      rw [g1 c (by omega), f1 c (by omega)]
    refine ⟨_, _, _, I3, L, rfl, ?_, ⟨w, kw, fun j hj => ?_, fun i hi hl => ?_⟩, Or.inr ⟨?_, ?_, w, kw, km.frame (hh 69 (by omega)), kc.frame (fun k a b => hh k (by omega))⟩, ⟨n, t, h2, by rw [hh 31 (by omega)]; exact h3, by rw [hh 67 (by omega)]; exact h4, fun j hj => ?_⟩, fun q hq => (hs q hq).frame (fun k hk => hh k (by omega))⟩
    · rw [f1 67 (by omega), if_neg (by rw [k2]; decide)]; exact e3
    · rw [g2 j hj, f1 69 (by omega)]; exact km j hj
    · have := loc_cell hi
      rw [g1 _ (by omega), f2 i hi]
      exact kc i hi hl
    · rw [hh 0 (by omega)]; exact k1
    · rw [hh 67 (by omega)]; exact k2
    · rw [hh 32 (by omega), hh 70 (by omega)]; exact h5 j hj
