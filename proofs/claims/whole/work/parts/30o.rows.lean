/-! sheets: faults, items -/
theorem nlt_le (a b : Int32) : ¬ a < b ↔ b ≤ a := by rw [Int32.lt_iff_toInt_lt, Int32.le_iff_toInt_le]; omega
theorem lgc_ge (a b : Int64) : 0 ≤ lg_cmp a b ↔ b.toInt ≤ a.toInt := by
  rw [← nlt_le, lgc_lt]; omega
theorem lgc_le (a b : Int64) : lg_cmp a b ≤ 0 ↔ a.toInt ≤ b.toInt := by
  rw [← nlt_le, lgc_gt]; omega
theorem add_tl {a b : Int32} : (a.toInt64 + b.toInt64).toInt = a.toInt + b.toInt := by
  have := Int32.toInt_lt a
  have := Int32.toInt_lt b
  have := Int32.le_toInt a
  have := Int32.le_toInt b
  rw [Int64.toInt_add, Int32.toInt_toInt64, Int32.toInt_toInt64]
  exact Int.bmod_eq_of_le (by omega) (by omega)
/-- what both sides find where n items from i on are wanted -/
theorem fault_eq {I : mI} {L : mL} {q : Nat} (hq : q < 4) (hs : SHt I L q) (a2 a3 a4 : Int32) : ∃ r, f_X6_fault_39 I L (nI q) a2 a3 a4 = some r ∧ (∀ L2 : mL, f_X11_finds_67 I L2 (nI q) a2 a3 a4 = some r) ∧ (¬ 0 ≤ r ∨ (r = 0 ∧ I 47 q = 1 ∧ ∃ i m n, a3 = nI i ∧ a4 = nI m ∧ i + m ≤ n ∧ n ≤ 24 ∧ I 46 q = nI n ∧ I 72 q = nI n ∧ (∃ a, a < 3 ∧ a2 = nI a ∧ I 45 q = nI a ∧ I 71 q = nI a) ∧ ∀ j, j < 24 → L (41 + q) j = L 73 (24 * q + j))) := by
  unfold f_X6_fault_39 f_X11_finds_67 f_X6_isMissing_39 f_X6_holds_39
  simp only [ck_t (inb_nI hq (by omega)), c_nI (show q < 2147483648 by omega)]
  rcases hs with ⟨k1, k2⟩ | ⟨k1, ⟨n, hn, k2, k3⟩, ⟨a, ha, k4, k5⟩, k6⟩
  · refine ⟨-11, ?_, fun _ => ?_, Or.inl (by decide)⟩
    · rw [k1]; rfl
    · rw [k2, if_neg (by decide)]
  · simp only [k1, k2, k3, k4, k5, show ¬ (1 : Int32) = 0 by decide, if_false, Option.bind_some, if_true, ge0_nI (show n < 2147483648 by omega)]
    have h0 : (0 : Int32).toInt = 0 := by decide
    by_cases e1 : nI a = a2
    · simp only [e1, if_true]
      by_cases e2 : a3 < 0
      · refine ⟨-13, by simp only [e2, if_true]; rfl, fun _ => by simp only [e2, if_true], Or.inl (by decide)⟩
      · by_cases e3 : a4 < 0
        · refine ⟨-13, by simp only [e2, e3, if_true, if_false]; rfl, fun _ => by simp only [e2, e3, if_true, if_false], Or.inl (by decide)⟩
        · obtain ⟨i, hi, rfl⟩ := nI_of e2
          obtain ⟨m, hm, rfl⟩ := nI_of e3
          have hc : lg_cmp ((nI i).toInt64 + (nI m).toInt64) (nI n).toInt64 ≤ 0 ↔ i + m ≤ n := by
            rw [lgc_le, add_tl, Int32.toInt_toInt64, t_nI (by omega), t_nI (by omega), t_nI (by omega)]; omega
          have hd : nI n - nI m < nI i ↔ ¬ i + m ≤ n := by
            have e : (nI n - nI m).toInt = (n : Int) - m := by
              rw [Int32.toInt_sub, t_nI (by omega), t_nI (by omega)]
              exact Int.bmod_eq_of_le (by omega) (by omega)
            rw [Int32.lt_iff_toInt_lt, e, t_nI (by omega)]; omega
          by_cases e4 : i + m ≤ n
          · refine ⟨0, ?_, fun _ => ?_, Or.inr ⟨rfl, trivial, i, m, n, rfl, rfl, e4, hn, rfl, rfl, ⟨a, ha, e1.symm, e1.symm, e1.symm⟩, k6⟩⟩
            · simp only [e2, e3, if_false, if_neg (fun z => hd.mp z e4), Option.bind_some]; rfl
            · simp only [e2, e3, if_false, if_pos (hc.mpr e4)]
          · refine ⟨-13, ?_, fun _ => ?_, Or.inl (by decide)⟩
            · simp only [e2, e3, if_false, if_pos (hd.mpr e4), Option.bind_some]; rfl
            · simp only [e2, e3, if_false, if_neg (fun z => e4 (hc.mp z))]
    · simp only [e1, if_false]
      exact ⟨-12, rfl, fun _ => rfl, Or.inl (by decide)⟩
/-- as its lane cuts it -/
def cutv (a : Nat) (x : Int64) : Int64 := if a = 0 then ((x.toInt32).toInt16.toInt32).toInt64 else if a = 1 then (x.toInt32).toInt64 else x
theorem cut_eq {I : mI} {L : mL} {a : Nat} {x : Int64} (ha : a < 3) : f_X11_cut I L (nI a) x = some (cutv a x) := by
  unfold f_X11_cut cutv
  rcases (show a = 0 ∨ a = 1 ∨ a = 2 by omega) with rfl | rfl | rfl <;> rfl
theorem put_eq {I : mI} {L : mL} {q i a : Nat} {x : Int64} (hq : q < 4) (hi : i < 24) (ha : a < 3) (h : I 45 q = nI a) : f_X6_put_39 I L (nI q) (nI i) x = some (I, uL L (41 + q) i (cutv a x)) := by
  unfold f_X6_put_39 cutv
  simp (disch := omega) only [ck_nI, c_nI, le_n, lt_n, eq_n, lt_eq, Option.bind_some, bndI_some, bndV_some, bndL_some, inc_nI, nI_1, n_add, n_mul, orz, addz, q0, q2, q3, q4, q5, q6, q7, q8, q9, q10, q13, q14, q15, q20, q24, q46, q48, q61, q76, q91, q95, q99, q100, q105, q111, q117, q123, q129, eq1, le1, ge1, lt1, gt1, cl1, h]
  rcases (show a = 0 ∨ a = 1 ∨ a = 2 by omega) with rfl | rfl | rfl <;> rfl
/-- a sheet's items change, alike on both sides -/
theorem SHt.items {I : mI} {L L2 : mL} {q : Nat} (hq : q < 4) (hs : ∀ r, r < 4 → SHt I L r) (h1 : ∀ r j, r < 4 → r ≠ q → j < 24 → L2 (41 + r) j = L (41 + r) j ∧ L2 73 (24 * r + j) = L 73 (24 * r + j)) (h2 : I 47 q = 1 → ∀ j, j < 24 → L2 (41 + q) j = L2 73 (24 * q + j)) : ∀ r, r < 4 → SHt I L2 r := by
  intro r hr
  rcases hs r hr with k | ⟨k1, k2, k3, k4⟩
  · exact Or.inl k
  · refine Or.inr ⟨k1, k2, k3, fun j hj => ?_⟩
    by_cases e : r = q
    · subst e; exact h2 k1 j hj
    · rw [(h1 r j hr e hj).1, (h1 r j hr e hj).2]; exact k4 j hj
theorem st_item {I : mI} {L : mL} {a1 a2 a3 : Int32} {a4 : Int64} (h : Rel I L) : St_item Rel I L a1 a2 a3 a4 := by
  have hs := h.2.2.2
  unfold St_item f_X10_item_0
  have hM : ∀ L2 : mL, f_X11_item_67 I L2 a1 a2 a3 a4 = if 0 ≤ a1.toInt ∧ a1.toInt ≤ 3 then (if 0 ≤ a2.toInt ∧ a2.toInt ≤ 2 then ((f_X11_finds_67 I L2 a1 a2 a3 1).bind (fun r3 => if 0 ≤ r3 then ((f_X11_cut I L2 a2 a4).bind (fun r4 => ck (inb ((24 * a1) + a3) 96) (lt (uL L2 73 ((24 * a1) + a3).toNatClampNeg r4) (fun M5 => some (1, I, M5))))) else (some (r3, I, L2)))) else some (-1, I, L2)) else some (-1, I, L2) := by
    intro L2
    unfold f_X11_item_67
    rw [isSheetM_n, isLaneM_n]
    simp only [Option.bind_some, bit_ite]
  rw [isLaneC_n]
  simp only [Option.bind_some, bit_ite]
  by_cases h1 : 0 ≤ a1.toInt ∧ a1.toInt ≤ 3
  · by_cases h2 : 0 ≤ a2.toInt ∧ a2.toInt ≤ 2
    · rw [if_pos ⟨h1, h2⟩]
      have hM' : ∀ L2 : mL, _ := fun L2 => by have := hM L2; rw [if_pos h1, if_pos h2] at this; exact this
      obtain ⟨q, hq, rfl, -⟩ := ofI (a := a1) (n := 4) h1.1 (by omega)
      obtain ⟨r, e1, e2, hr⟩ := fault_eq hq (hs q hq) a2 a3 1
      rw [e1, Option.bind_some]
      rcases hr with hr | ⟨rfl, k7, i, m, n, rfl, em, him, hn, -, -, ⟨a, ha, rfl, k4, k5⟩, k6⟩
      · rw [if_neg hr]
        exact ⟨_, _, _, _, _, rfl, by rw [hM', e2, Option.bind_some, if_neg hr], h⟩
      · rw [if_pos (by decide), put_eq hq (by have := congrArg Int32.toInt em; rw [show (1 : Int32).toInt = 1 from by decide] at this; have hm : m < 2147483648 := by omega
                                              rw [t_nI hm] at this; omega) ha k4, bndV_some]
        have hm1 : m = 1 := by
          have hm : m < 2147483648 := by omega
          have := congrArg Int32.toInt em
          rw [show (1 : Int32).toInt = 1 from by decide, t_nI hm] at this
          omega
        refine ⟨_, _, _, _, _, rfl, by rw [hM', e2, Option.bind_some, if_pos (by decide), cut_eq ha, Option.bind_some, q24, n_mul, n_add, ck_nI (by omega) (by omega), lt_eq, c_nI (by omega)], ?_⟩
        refine h.sheets (fun k hk => rfl) (SHt.items hq hs (fun r j hr hne hj => ?_) (fun _ j hj => ?_))
        · simp only [uL_at]
          rw [if_neg (by omega), if_neg (by omega), if_neg (by omega), if_neg (by omega)]
          exact ⟨rfl, rfl⟩
        · simp only [uL_at]
          by_cases e : j = i
          · subst e
            rw [if_neg (by omega), if_pos (by simp), if_pos (by simp)]
          · rw [if_neg (by omega), if_neg (by omega), if_neg (by omega), if_neg (by omega)]
            exact k6 j hj
    · rw [if_neg (fun z => h2 z.2)]
      exact ⟨_, _, _, _, _, rfl, by rw [hM, if_pos h1, if_neg h2], h⟩
  · rw [if_neg (fun z => h1 z.1)]
    exact ⟨_, _, _, _, _, rfl, by rw [hM, if_neg h1], h⟩
theorem st_sheet {I : mI} {L : mL} {a1 a2 a3 : Int32} (h : Rel I L) : St_sheet Rel I L a1 a2 a3 := by
  have hs := h.2.2.2
  unfold St_sheet f_X10_sheet_0
  have hM : ∀ (J : mI) (L2 : mL), f_X11_sheet_67 J L2 a1 a2 a3 = if 0 ≤ a1.toInt ∧ a1.toInt ≤ 3 then (if 0 ≤ a2.toInt ∧ a2.toInt ≤ 2 then (if a3 ≤ 24 then (if 0 ≤ a3 then (ck (inb a1 4) (lt (uI J 71 a1.toNatClampNeg a2) (fun M3 => ck (inb a1 4) (lt (uI M3 72 a1.toNatClampNeg a3) (fun M4 => f_X11_sheet_67_l46 fuel a1 a3 0 M4 L2))))) else (some ((-14), J, L2))) else (some ((-1), J, L2))) else some (-1, J, L2)) else some (-1, J, L2) := by
    intro J L2
    unfold f_X11_sheet_67
    rw [isSheetM_n, isLaneM_n]
    simp only [Option.bind_some, bit_ite]
  rw [isLaneC_n]
  simp only [Option.bind_some, bit_ite]
  by_cases h1 : 0 ≤ a1.toInt ∧ a1.toInt ≤ 3
  · by_cases h2 : 0 ≤ a2.toInt ∧ a2.toInt ≤ 2
    · rw [if_pos ⟨h1, h2⟩]
      by_cases h3 : a3 ≤ 24
      · rw [if_pos h3]
        by_cases h4 : 0 ≤ a3
        · rw [if_pos h4]
          have hM' : ∀ (J : mI) (L2 : mL), _ := fun J L2 => by have := hM J L2; rw [if_pos h1, if_pos h2, if_pos h3, if_pos h4] at this; exact this
          obtain ⟨q, hq, rfl, -⟩ := ofI (a := a1) (n := 4) h1.1 (by omega)
          obtain ⟨a, ha, rfl, -⟩ := ofI (a := a2) (n := 3) h2.1 (by omega)
          have h3' := Int32.le_iff_toInt_le.mp h3
          have h4' := Int32.le_iff_toInt_le.mp h4
          rw [show (24 : Int32).toInt = 24 from by decide] at h3'
          rw [show (0 : Int32).toInt = 0 from by decide] at h4'
          obtain ⟨n, hn, rfl, -⟩ := ofI (a := a3) (n := 25) h4' (by omega)
          have hfill : f_J7_fill_d0a16_w I L q 0 = some (I, fold (fun k M => uL M (41 + q) k 0) 24 0 L) := by
            unfold f_J7_fill_d0a16_w
            refine loop_to' (F := fun m k M => f_J7_fill_d0a16_w_l6 m q 0 (nI k) 24 I M) (fun k M => uL M (41 + q) k 0) (fun M => some (I, M)) 24 (fun m k M hk => ?_) (fun m M => ?_) L (fuel_gt (by omega))
            · rw [f_J7_fill_d0a16_w_l6]
              simp (disch := omega) only [ck_nI, c_nI, le_n, lt_n, eq_n, lt_eq, Option.bind_some, bndI_some, bndV_some, bndL_some, inc_nI, nI_1, n_add, n_mul, orz, addz, q0, q2, q3, q4, q5, q6, q7, q8, q9, q10, q13, q14, q15, q20, q24, q46, q48, q61, q76, q91, q95, q99, q100, q105, q111, q117, q123, q129, eq1, le1, ge1, lt1, gt1, cl1, show ¬ 24 ≤ k by omega, if_false]
            · rw [f_J7_fill_d0a16_w_l6]
              simp (disch := omega) only [ck_nI, c_nI, le_n, lt_n, eq_n, lt_eq, Option.bind_some, bndI_some, bndV_some, bndL_some, inc_nI, nI_1, n_add, n_mul, orz, addz, q0, q2, q3, q4, q5, q6, q7, q8, q9, q10, q13, q14, q15, q20, q24, q46, q48, q61, q76, q91, q95, q99, q100, q105, q111, q117, q123, q129, eq1, le1, ge1, lt1, gt1, cl1, Nat.le_refl, if_true]
          have hmf : ∀ (J : mI) (L2 : mL), f_X11_sheet_67_l46 fuel (nI q) (nI n) 0 J L2 = some (nI n, J, fold (fun k M => uL M 73 (24 * q + k) 0) 24 0 L2) := by
            intro J L2
            refine loop_to' (F := fun m k M => f_X11_sheet_67_l46 m (nI q) (nI n) (nI k) J M) (fun k M => uL M 73 (24 * q + k) 0) (fun M => some (nI n, J, M)) 24 (fun m k M hk => ?_) (fun m M => ?_) L2 (fuel_gt (by omega))
            · rw [f_X11_sheet_67_l46]
              simp (disch := omega) only [ck_nI, c_nI, le_n, lt_n, eq_n, lt_eq, Option.bind_some, bndI_some, bndV_some, bndL_some, inc_nI, nI_1, n_add, n_mul, orz, addz, q0, q2, q3, q4, q5, q6, q7, q8, q9, q10, q13, q14, q15, q20, q24, q46, q48, q61, q76, q91, q95, q99, q100, q105, q111, q117, q123, q129, eq1, le1, ge1, lt1, gt1, cl1, show ¬ 24 ≤ k by omega, if_false]
            · rw [f_X11_sheet_67_l46]
              simp (disch := omega) only [ck_nI, c_nI, le_n, lt_n, eq_n, lt_eq, Option.bind_some, bndI_some, bndV_some, bndL_some, inc_nI, nI_1, n_add, n_mul, orz, addz, q0, q2, q3, q4, q5, q6, q7, q8, q9, q10, q13, q14, q15, q20, q24, q46, q48, q61, q76, q91, q95, q99, q100, q105, q111, q117, q123, q129, eq1, le1, ge1, lt1, gt1, cl1, Nat.le_refl, if_true]
          have v1 : ∀ c j, fold (fun k M => uL M (41 + q) k 0) 24 0 L c j = if c = 41 + q ∧ j < 24 then 0 else L c j := by
            have := fold_inv (f := fun k M => uL M (41 + q) k 0) (n := 24) (a := L) (P := fun k M => ∀ c j, M c j = if c = 41 + q ∧ j < k then 0 else L c j) (fun k M hk hP c j => by
              rw [uL_at, hP]
              by_cases e : c = 41 + q ∧ j = k
              · rw [if_pos e, if_pos ⟨e.1, by omega⟩]
              · rw [if_neg e]
                by_cases e2 : c = 41 + q ∧ j < k
                · rw [if_pos e2, if_pos ⟨e2.1, by omega⟩]
                · rw [if_neg e2, if_neg (by omega)]) (fun c j => by rw [if_neg (by omega)])
            exact this
          have v2 : ∀ (L2 : mL) c j, fold (fun k M => uL M 73 (24 * q + k) 0) 24 0 L2 c j = if c = 73 ∧ 24 * q ≤ j ∧ j < 24 * q + 24 then 0 else L2 c j := by
            intro L2
            have := fold_inv (f := fun k M => uL M 73 (24 * q + k) 0) (n := 24) (a := L2) (P := fun k M => ∀ c j, M c j = if c = 73 ∧ 24 * q ≤ j ∧ j < 24 * q + k then 0 else L2 c j) (fun k M hk hP c j => by
              rw [uL_at, hP]
              by_cases e : c = 73 ∧ j = 24 * q + k
              · rw [if_pos e, if_pos ⟨e.1, by omega⟩]
              · rw [if_neg e]
                by_cases e2 : c = 73 ∧ 24 * q ≤ j ∧ j < 24 * q + k
                · rw [if_pos e2, if_pos ⟨e2.1, by omega⟩]
                · rw [if_neg e2, if_neg (by omega)]) (fun c j => by rw [if_neg (by omega)])
            exact this
          have hR : f_X6_renew_39 I L (nI q) (nI a) (nI n) = some (uI (uI (uI I 45 q (nI a)) 46 q (nI n)) 47 q 1, fold (fun k M => uL M (41 + q) k 0) 24 0 L) := by
            unfold f_X6_renew_39
            rw [c_nI (by omega), hfill, bndV_some]
            simp (disch := omega) only [ck_nI, c_nI, le_n, lt_n, eq_n, lt_eq, Option.bind_some, bndI_some, bndV_some, bndL_some, inc_nI, nI_1, n_add, n_mul, orz, addz, q0, q2, q3, q4, q5, q6, q7, q8, q9, q10, q13, q14, q15, q20, q24, q46, q48, q61, q76, q91, q95, q99, q100, q105, q111, q117, q123, q129, eq1, le1, ge1, lt1, gt1, cl1]
            rfl
          rw [hR, bndV_some]
          refine ⟨nI n, _, _, uI (uI (uI (uI (uI I 45 q (nI a)) 46 q (nI n)) 47 q 1) 71 q (nI a)) 72 q (nI n), fold (fun k M => uL M 73 (24 * q + k) 0) 24 0 (fold (fun k M => uL M (41 + q) k 0) 24 0 L), rfl, ?_, ?_⟩
          · rw [hM']
            simp only [lt_eq, ck_t (inb_nI hq (show 4 < 2147483648 by omega)), hmf, c_nI (show q < 2147483648 by omega)]
          · refine h.sheets (fun k hk => by rw [uI_cell (by omega), uI_cell (by omega), uI_cell (by omega), uI_cell (by omega), uI_cell (by omega)]) (fun r hr => ?_)
            by_cases e : r = q
            · subst e
              refine Or.inr ⟨?_, ⟨n, by omega, ?_, ?_⟩, ⟨a, ha, ?_, ?_⟩, fun j hj => ?_⟩
              · rw [uI_cell (by omega), uI_cell (by omega), uI_same]
              · rw [uI_cell (by omega), uI_cell (by omega), uI_cell (by omega), uI_same]
              · rw [uI_same]
              · rw [uI_cell (by omega), uI_cell (by omega), uI_cell (by omega), uI_cell (by omega), uI_same]
              · rw [uI_cell (by omega), uI_same]
              · rw [v2, v2, if_neg (by omega), if_pos (by omega), v1, if_pos (by omega)]
            · have := hs r hr
              unfold SHt at this ⊢
              simp only [uI_at, e, and_false, if_false]
              rcases this with k | ⟨k1, k2, k3, k4⟩
              · exact Or.inl k
              · refine Or.inr ⟨k1, k2, k3, fun j hj => ?_⟩
                rw [v2, v2, if_neg (by omega), if_neg (by omega), v1, v1, if_neg (by omega), if_neg (by omega)]
                exact k4 j hj
        · rw [if_neg h4]
          exact ⟨_, _, _, _, _, rfl, by rw [hM, if_pos h1, if_pos h2, if_pos h3, if_neg h4], h⟩
      · rw [if_neg h3]
        exact ⟨_, _, _, _, _, rfl, by rw [hM, if_pos h1, if_pos h2, if_neg h3], h⟩
    · rw [if_neg (fun z => h2 z.2)]
      exact ⟨_, _, _, _, _, rfl, by rw [hM, if_pos h1, if_neg h2], h⟩
  · rw [if_neg (fun z => h1 z.1)]
    exact ⟨_, _, _, _, _, rfl, by rw [hM, if_neg h1], h⟩
theorem st_film {I : mI} {L : mL} {a1 a2 a3 : Int32} (h : Rel I L) : St_film Rel I L a1 a2 a3 := by
  obtain ⟨⟨v, hw, hm, hc⟩, hr2⟩ := id h
  have sz := hw.sz
  have hs := h.2.2.2
  unfold St_film f_X10_film_0
  have hM : ∀ L2 : mL, f_X11_film_67 I L2 a1 a2 a3 = if 0 ≤ a1.toInt ∧ a1.toInt ≤ 3 then (if 0 ≤ a2.toInt ∧ a2.toInt ≤ 2 then ((f_X11_finds_67 I L2 a1 a2 a3 (nI (v 3))).bind (fun r3 => if 0 ≤ r3 then (f_X11_film_67_l42 fuel a1 a2 a3 0 I L2) else (some (r3, I, L2)))) else some (-1, I, L2)) else some (-1, I, L2) := by
    intro L2
    unfold f_X11_film_67
    rw [isSheetM_n, isLaneM_n, cl3, hm 3 (by omega)]
    simp only [Option.bind_some, bit_ite]
  rw [isLaneC_n, hc.c3]
  simp only [Option.bind_some, bit_ite]
  by_cases h1 : 0 ≤ a1.toInt ∧ a1.toInt ≤ 3
  · by_cases h2 : 0 ≤ a2.toInt ∧ a2.toInt ≤ 2
    · rw [if_pos ⟨h1, h2⟩]
      have hM' : ∀ L2 : mL, _ := fun L2 => by have := hM L2; rw [if_pos h1, if_pos h2] at this; exact this
      obtain ⟨q, hq, rfl, -⟩ := ofI (a := a1) (n := 4) h1.1 (by omega)
      obtain ⟨r, e1, e2, hr⟩ := fault_eq hq (hs q hq) a2 a3 (nI (v 3))
      rw [e1, Option.bind_some]
      rcases hr with hr | ⟨rfl, k7, i, m, n, rfl, em, him, hn, -, -, ⟨a, ha, rfl, k4, k5⟩, k6⟩
      · rw [if_neg hr]
        exact ⟨_, _, _, _, _, rfl, by rw [hM', e2, Option.bind_some, if_neg hr], h⟩
      · have hm1 : m = v 3 := by
          have := congrArg Int32.toInt em
          rw [t_nI (by omega), t_nI (by omega)] at this
          omega
        subst hm1
        have f1 : f_X10_film_0_l40 fuel (nI q) (nI i) 0 I L = some (nI (v 3), I, fold (fun k M => uL M (41 + q) (i + k) (cutv a (nI (wV v (v (111 + k)) (v (99 + k)))).toInt64)) (v 3) 0 L) := by
          refine loop_to' (F := fun m k M => f_X10_film_0_l40 m (nI q) (nI i) (nI k) I M) _ (fun M => some (nI (v 3), I, M)) (v 3) (fun m k M hk => ?_) (fun m M => ?_) L (fuel_gt (by omega))
          · rw [f_X10_film_0_l40, weightOfGood_eq hw hc hk, n_add, Option.bind_some, put_eq hq (by omega) ha k4]
            simp (disch := omega) only [ck_nI, c_nI, le_n, lt_n, eq_n, lt_eq, Option.bind_some, bndI_some, bndV_some, bndL_some, inc_nI, nI_1, n_add, n_mul, orz, addz, q0, q2, q3, q4, q5, q6, q7, q8, q9, q10, q13, q14, q15, q20, q24, q46, q48, q61, q76, q91, q95, q99, q100, q105, q111, q117, q123, q129, eq1, le1, ge1, lt1, gt1, cl1, hc.c3, show ¬ v 3 ≤ k by omega, if_false]
          · rw [f_X10_film_0_l40]
            simp (disch := omega) only [ck_nI, c_nI, le_n, lt_n, eq_n, lt_eq, Option.bind_some, bndI_some, bndV_some, bndL_some, inc_nI, nI_1, n_add, n_mul, orz, addz, q0, q2, q3, q4, q5, q6, q7, q8, q9, q10, q13, q14, q15, q20, q24, q46, q48, q61, q76, q91, q95, q99, q100, q105, q111, q117, q123, q129, eq1, le1, ge1, lt1, gt1, cl1, hc.c3, Nat.le_refl, if_true]
        have f2 : ∀ L2 : mL, f_X11_film_67_l42 fuel (nI q) (nI a) (nI i) 0 I L2 = some (nI (v 3), I, fold (fun k M => uL M 73 (24 * q + i + k) (cutv a (nI (wV v (v (111 + k)) (v (99 + k)))).toInt64)) (v 3) 0 L2) := by
          intro L2
          refine loop_to' (F := fun m k M => f_X11_film_67_l42 m (nI q) (nI a) (nI i) (nI k) I M) _ (fun M => some (nI (v 3), I, M)) (v 3) (fun m k M hk => ?_) (fun m M => ?_) L2 (fuel_gt (by omega))
          · have gb := hw.goodb k hk
            rw [f_X11_film_67_l42]
            simp (disch := omega) only [ck_nI, c_nI, le_n, lt_n, eq_n, lt_eq, Option.bind_some, bndI_some, bndV_some, bndL_some, inc_nI, nI_1, n_add, n_mul, orz, addz, q0, q2, q3, q4, q5, q6, q7, q8, q9, q10, q13, q14, q15, q20, q24, q46, q48, q61, q76, q91, q95, q99, q100, q105, q111, q117, q123, q129, eq1, le1, ge1, lt1, gt1, cl1, cl3, hm.n, show ¬ v 3 ≤ k by omega, if_false, mweight_eq hw hm gb.2.2.1 (show v (99 + k) ≤ 999 by omega), cut_eq ha]
          · rw [f_X11_film_67_l42]
            simp (disch := omega) only [ck_nI, c_nI, le_n, lt_n, eq_n, lt_eq, Option.bind_some, bndI_some, bndV_some, bndL_some, inc_nI, nI_1, n_add, n_mul, orz, addz, q0, q2, q3, q4, q5, q6, q7, q8, q9, q10, q13, q14, q15, q20, q24, q46, q48, q61, q76, q91, q95, q99, q100, q105, q111, q117, q123, q129, eq1, le1, ge1, lt1, gt1, cl1, cl3, hm.n, Nat.le_refl, if_true]
        rw [if_pos (by decide), f1]
        refine ⟨_, _, _, _, _, rfl, by rw [hM', e2, Option.bind_some, if_pos (by decide), f2], ?_⟩
        have v1 : ∀ c j, fold (fun k M => uL M (41 + q) (i + k) (cutv a (nI (wV v (v (111 + k)) (v (99 + k)))).toInt64)) (v 3) 0 L c j = if c = 41 + q ∧ i ≤ j ∧ j < i + v 3 then cutv a (nI (wV v (v (111 + (j - i))) (v (99 + (j - i))))).toInt64 else L c j := by
          have := fold_inv (f := fun k M => uL M (41 + q) (i + k) (cutv a (nI (wV v (v (111 + k)) (v (99 + k)))).toInt64)) (n := v 3) (a := L) (P := fun k M => ∀ c j, M c j = if c = 41 + q ∧ i ≤ j ∧ j < i + k then cutv a (nI (wV v (v (111 + (j - i))) (v (99 + (j - i))))).toInt64 else L c j) (fun k M hk hP c j => by
            rw [uL_at, hP]
            by_cases e : c = 41 + q ∧ j = i + k
            · rw [if_pos e, if_pos (by omega), show j - i = k by omega]
            · rw [if_neg e]
              by_cases e2 : c = 41 + q ∧ i ≤ j ∧ j < i + k
              · rw [if_pos e2, if_pos (by omega)]
              · rw [if_neg e2, if_neg (by omega)]) (fun c j => by rw [if_neg (by omega)])
          exact this
        have v2 : ∀ (L2 : mL) c j, fold (fun k M => uL M 73 (24 * q + i + k) (cutv a (nI (wV v (v (111 + k)) (v (99 + k)))).toInt64)) (v 3) 0 L2 c j = if c = 73 ∧ 24 * q + i ≤ j ∧ j < 24 * q + i + v 3 then cutv a (nI (wV v (v (111 + (j - (24 * q + i)))) (v (99 + (j - (24 * q + i)))))).toInt64 else L2 c j := by
          intro L2
          have := fold_inv (f := fun k M => uL M 73 (24 * q + i + k) (cutv a (nI (wV v (v (111 + k)) (v (99 + k)))).toInt64)) (n := v 3) (a := L2) (P := fun k M => ∀ c j, M c j = if c = 73 ∧ 24 * q + i ≤ j ∧ j < 24 * q + i + k then cutv a (nI (wV v (v (111 + (j - (24 * q + i)))) (v (99 + (j - (24 * q + i)))))).toInt64 else L2 c j) (fun k M hk hP c j => by
            rw [uL_at, hP]
            by_cases e : c = 73 ∧ j = 24 * q + i + k
            · rw [if_pos e, if_pos (by omega), show j - (24 * q + i) = k by omega]
            · rw [if_neg e]
              by_cases e2 : c = 73 ∧ 24 * q + i ≤ j ∧ j < 24 * q + i + k
              · rw [if_pos e2, if_pos (by omega)]
              · rw [if_neg e2, if_neg (by omega)]) (fun c j => by rw [if_neg (by omega)])
          exact this
        refine h.sheets (fun k hk => rfl) (SHt.items hq hs (fun r j hr hne hj => ?_) (fun _ j hj => ?_))
        · rw [v2, v2, if_neg (by omega), if_neg (by omega), v1, v1, if_neg (by omega), if_neg (by omega)]
          exact ⟨rfl, rfl⟩
        · rw [v2, v2, if_neg (by omega), v1]
          by_cases e : i ≤ j ∧ j < i + v 3
          · rw [if_pos ⟨rfl, e⟩, if_pos (by omega), show 24 * q + j - (24 * q + i) = j - i by omega]
          · rw [if_neg (by omega), if_neg (by omega), v1, if_neg (by omega)]
            exact k6 j hj
    · rw [if_neg (fun z => h2 z.2)]
      exact ⟨_, _, _, _, _, rfl, by rw [hM, if_pos h1, if_neg h2], h⟩
  · rw [if_neg (fun z => h1 z.1)]
    exact ⟨_, _, _, _, _, rfl, by rw [hM, if_neg h1], h⟩
