/-! copy, mills -/
theorem pL_at (L : mL) (k : Nat) (f : Nat → Int64) (a b : Nat) : pL L k f a b = if a = k then f b else L a b := by
  unfold pL
  by_cases h : a = k
  · subst h; simp
  · simp [h]
theorem pI_at (I : mI) (k : Nat) (f : Nat → Int32) (a b : Nat) : pI I k f a b = if a = k then f b else I a b := by
  unfold pI
  by_cases h : a = k
  · subst h; simp
  · simp [h]
theorem pI_cell {I : mI} {k a : Nat} {f : Nat → Int32} (h : a ≠ k) : pI I k f a = I a := by unfold pI; simp [h]
theorem mcopy_loop {I : mI} {L : mL} {s i t j n : Nat} (hs : s < 4) (ht : t < 4) (hi : i + n ≤ 24) (hj : j + n ≤ 24) : ∃ L2, f_X11_copy_67_l91 fuel (nI s) (nI i) (nI t) (nI j) (nI n) 0 I L = some (nI n, I, L2) ∧ ∀ c x, L2 c x = if c = 73 ∧ 24 * t + j ≤ x ∧ x < 24 * t + j + n then L 73 (24 * s + i + (x - (24 * t + j))) else L c x := by
  by_cases q : j ≤ i
  · have hl := loop_inv (F := fun m k M => f_X11_copy_67_l91 m (nI s) (nI i) (nI t) (nI j) (nI n) (nI k) I M) (n := n) (Inv := fun k M => ∀ c x, M c x = if c = 73 ∧ 24 * t + j ≤ x ∧ x < 24 * t + j + k then L 73 (24 * s + i + (x - (24 * t + j))) else L c x) (fun m k M hk hI => ?_) n 0 L fuel (by omega) (fun c x => by rw [if_neg (by omega)]) (fuel_gt (by omega))
    · obtain ⟨m', M, hI, e⟩ := hl
      refine ⟨M, ?_, hI⟩
      rw [q0]
      refine e.trans ?_
      show f_X11_copy_67_l91 (m' + 1) (nI s) (nI i) (nI t) (nI j) (nI n) (nI n) I M = _
      rw [f_X11_copy_67_l91]
      simp (disch := omega) only [ck_nI, c_nI, le_n, lt_n, eq_n, lt_eq, Option.bind_some, bndI_some, bndV_some, bndL_some, inc_nI, nI_1, n_add, n_mul, orz, addz, q0, q2, q3, q4, q5, q6, q7, q8, q9, q10, q13, q14, q15, q20, q24, q46, q48, q61, q76, q91, q95, q99, q100, q105, q111, q117, q123, q129, eq1, le1, ge1, lt1, gt1, cl1, Nat.le_refl, if_true]
    · refine ⟨uL M 73 (24 * t + j + k) (M 73 (24 * s + i + k)), fun c x => ?_, ?_⟩
      · have e0 : M 73 (24 * s + i + k) = L 73 (24 * s + i + k) := by rw [hI, if_neg (by omega)]
        rw [uL_at, e0]
        by_cases e : c = 73 ∧ x = 24 * t + j + k
        · rw [if_pos e, if_pos (by omega), show x - (24 * t + j) = k by omega]
        · rw [if_neg e, hI]
          by_cases e2 : c = 73 ∧ 24 * t + j ≤ x ∧ x < 24 * t + j + k
          · rw [if_pos e2, if_pos (by omega)]
          · rw [if_neg e2, if_neg (by omega)]
      · show f_X11_copy_67_l91 (m + 1) (nI s) (nI i) (nI t) (nI j) (nI n) (nI k) I M = f_X11_copy_67_l91 m (nI s) (nI i) (nI t) (nI j) (nI n) (nI (k + 1)) I _
        rw [f_X11_copy_67_l91]
        unfold f_X11_copy_67_b116
        simp (disch := omega) only [ck_nI, c_nI, le_n, lt_n, eq_n, lt_eq, Option.bind_some, bndI_some, bndV_some, bndL_some, inc_nI, nI_1, n_add, n_mul, orz, addz, q0, q2, q3, q4, q5, q6, q7, q8, q9, q10, q13, q14, q15, q20, q24, q46, q48, q61, q76, q91, q95, q99, q100, q105, q111, q117, q123, q129, eq1, le1, ge1, lt1, gt1, cl1, show ¬ n ≤ k by omega, q, if_true, if_false]
  · have hl := loop_inv (F := fun m k M => f_X11_copy_67_l91 m (nI s) (nI i) (nI t) (nI j) (nI n) (nI k) I M) (n := n) (Inv := fun k M => ∀ c x, M c x = if c = 73 ∧ 24 * t + j + (n - k) ≤ x ∧ x < 24 * t + j + n then L 73 (24 * s + i + (x - (24 * t + j))) else L c x) (fun m k M hk hI => ?_) n 0 L fuel (by omega) (fun c x => by rw [if_neg (by omega)]) (fuel_gt (by omega))
    · obtain ⟨m', M, hI, e⟩ := hl
      refine ⟨M, ?_, fun c x => ?_⟩
      · rw [q0]
        refine e.trans ?_
        show f_X11_copy_67_l91 (m' + 1) (nI s) (nI i) (nI t) (nI j) (nI n) (nI n) I M = _
        rw [f_X11_copy_67_l91]
        simp (disch := omega) only [ck_nI, c_nI, le_n, lt_n, eq_n, lt_eq, Option.bind_some, bndI_some, bndV_some, bndL_some, inc_nI, nI_1, n_add, n_mul, orz, addz, q0, q2, q3, q4, q5, q6, q7, q8, q9, q10, q13, q14, q15, q20, q24, q46, q48, q61, q76, q91, q95, q99, q100, q105, q111, q117, q123, q129, eq1, le1, ge1, lt1, gt1, cl1, Nat.le_refl, if_true]
      · have := hI c x
        rw [show n - n = 0 by omega, Nat.add_zero] at this
        exact this
    · have e5 : nI n - 1 - nI k = nI (n - 1 - k) := by
        rw [show n = n - 1 + 1 by omega, nI_pred, pk_sub (by omega), show n - 1 + 1 - 1 - k = n - 1 - k by omega]
      refine ⟨uL M 73 (24 * t + j + (n - 1 - k)) (M 73 (24 * s + i + (n - 1 - k))), fun c x => ?_, ?_⟩
      · have e0 : M 73 (24 * s + i + (n - 1 - k)) = L 73 (24 * s + i + (n - 1 - k)) := by rw [hI, if_neg (by omega)]
        rw [uL_at, e0]
        by_cases e : c = 73 ∧ x = 24 * t + j + (n - 1 - k)
        · rw [if_pos e, if_pos (by omega), show x - (24 * t + j) = n - 1 - k by omega]
        · rw [if_neg e, hI]
          by_cases e2 : c = 73 ∧ 24 * t + j + (n - k) ≤ x ∧ x < 24 * t + j + n
          · rw [if_pos e2, if_pos (by omega)]
          · rw [if_neg e2, if_neg (by omega)]
      · show f_X11_copy_67_l91 (m + 1) (nI s) (nI i) (nI t) (nI j) (nI n) (nI k) I M = f_X11_copy_67_l91 m (nI s) (nI i) (nI t) (nI j) (nI n) (nI (k + 1)) I _
        rw [f_X11_copy_67_l91, e5]
        unfold f_X11_copy_67_b116
        simp (disch := omega) only [ck_nI, c_nI, le_n, lt_n, eq_n, lt_eq, Option.bind_some, bndI_some, bndV_some, bndL_some, inc_nI, nI_1, n_add, n_mul, orz, addz, q0, q2, q3, q4, q5, q6, q7, q8, q9, q10, q13, q14, q15, q20, q24, q46, q48, q61, q76, q91, q95, q99, q100, q105, q111, q117, q123, q129, eq1, le1, ge1, lt1, gt1, cl1, show ¬ n ≤ k by omega, q, if_true, if_false]
abbrev badr (n : Nat) (a b : Int32) : Prop := a.toInt < 0 ∨ b.toInt < 0 ∨ (n : Int) < a.toInt + b.toInt
theorem holds_eq {I : mI} {L : mL} {q n : Nat} (hq : q < 4) (hn : n ≤ 24) (h : I 46 q = nI n) (a b : Int32) : f_X6_holds_39 I L (nI q) a b = if badr n a b then some 0 else some 1 := by
  unfold f_X6_holds_39
  have h0 : (0 : Int32).toInt = 0 := by decide
  by_cases e2 : a < 0
  · have e2' := Int32.lt_iff_toInt_lt.mp e2
    rw [if_pos e2, if_pos (Or.inl (by omega))]
  · by_cases e3 : b < 0
    · have e3' := Int32.lt_iff_toInt_lt.mp e3
      rw [if_neg e2, if_pos e3, if_pos (Or.inr (Or.inl (by omega)))]
    · obtain ⟨i, hi, rfl⟩ := nI_of e2
      obtain ⟨m, hm, rfl⟩ := nI_of e3
      have hd : nI n - nI m < nI i ↔ ¬ i + m ≤ n := by
        have e : (nI n - nI m).toInt = (n : Int) - m := by
          rw [Int32.toInt_sub, t_nI (by omega), t_nI (by omega)]
          exact Int.bmod_eq_of_le (by omega) (by omega)
        rw [Int32.lt_iff_toInt_lt, e, t_nI (by omega)]; omega
      rw [if_neg e2, if_neg e3, ck_nI hq (by omega), c_nI (by omega), h]
      have hb : badr n (nI i) (nI m) ↔ ¬ i + m ≤ n := by unfold badr; rw [t_nI (by omega), t_nI (by omega)]; omega
      by_cases e4 : i + m ≤ n
      · rw [if_neg (fun z => hd.mp z e4), if_neg (fun z => hb.mp z e4)]
      · rw [if_pos (hd.mpr e4), if_pos (hb.mpr e4)]
theorem finds_eq {I : mI} {L : mL} {q n : Nat} (hq : q < 4) (hn : n ≤ 24) (h : I 72 q = nI n) (x a b : Int32) : f_X11_finds_67 I L (nI q) x a b = if I 71 q = x then (if badr n a b then some (-13) else some 0) else some (-12) := by
  unfold f_X11_finds_67
  have h0 : (0 : Int32).toInt = 0 := by decide
  rw [ck_nI hq (by omega), c_nI (by omega), h, if_pos (ge0_nI (by omega)), ck_nI hq (by omega), ck_nI hq (by omega)]
  by_cases e1 : I 71 q = x
  · rw [if_pos e1, if_pos e1]
    by_cases e2 : a < 0
    · have e2' := Int32.lt_iff_toInt_lt.mp e2
      rw [if_pos e2, if_pos (Or.inl (by omega))]
    · by_cases e3 : b < 0
      · have e3' := Int32.lt_iff_toInt_lt.mp e3
        rw [if_neg e2, if_pos e3, if_pos (Or.inr (Or.inl (by omega)))]
      · obtain ⟨i, hi, rfl⟩ := nI_of e2
        obtain ⟨m, hm, rfl⟩ := nI_of e3
        have hc : lg_cmp ((nI i).toInt64 + (nI m).toInt64) (nI n).toInt64 ≤ 0 ↔ i + m ≤ n := by
          rw [lgc_le, add_tl, Int32.toInt_toInt64, t_nI (by omega), t_nI (by omega), t_nI (by omega)]; omega
        have hb : badr n (nI i) (nI m) ↔ ¬ i + m ≤ n := by unfold badr; rw [t_nI (by omega), t_nI (by omega)]; omega
        rw [if_neg e2, if_neg e3]
        by_cases e4 : i + m ≤ n
        · rw [if_pos (hc.mpr e4), if_neg (fun z => hb.mp z e4)]
        · rw [if_neg (fun z => e4 (hc.mp z)), if_pos (hb.mpr e4)]
  · rw [if_neg e1, if_neg e1]
theorem cpk_nI {i j m a b : Nat} (h1 : i + m ≤ a) (h2 : j + m ≤ b) (ha : a < 2147483648) (hb : b < 2147483648) : cpk (nI i) (nI j) (nI m) a b = true := by
  unfold cpk
  rw [t_nI (by omega), t_nI (by omega), t_nI (by omega)]
  simp
  omega
theorem st_copy {I : mI} {L : mL} {a1 a2 a3 a4 a5 : Int32} (h : Rel I L) : St_copy Rel I L a1 a2 a3 a4 a5 := by
  have hs := h.2.2.2
  unfold St_copy f_X10_copy_0
  have hM : ∀ L2 : mL, f_X11_copy_67 I L2 a1 a2 a3 a4 a5 = if 0 ≤ a1.toInt ∧ a1.toInt ≤ 3 then (if 0 ≤ a3.toInt ∧ a3.toInt ≤ 3 then (ck (inb a1 4) (if (I 72 a1.toNatClampNeg) < 0 then (some ((-11), I, L2)) else (ck (inb a3 4) (if 0 ≤ (I 72 a3.toNatClampNeg) then (ck (inb a3 4) ((f_X11_finds_67 I L2 a1 (I 71 a3.toNatClampNeg) a2 a5).bind (fun r3 => if 0 ≤ r3 then (ck (inb a3 4) ((f_X11_finds_67 I L2 a3 (I 71 a3.toNatClampNeg) a4 a5).bind (fun r4 => f_X11_copy_67_b78 I L2 a1 a2 a3 a4 a5 r4))) else (f_X11_copy_67_b78 I L2 a1 a2 a3 a4 a5 r3)))) else (some ((-11), I, L2)))))) else some (-1, I, L2)) else some (-1, I, L2) := by
    intro L2
    unfold f_X11_copy_67
    rw [isSheetM_n, isSheetM_n]
    simp only [Option.bind_some, bit_ite]
  rw [isSheetC_n, isSheetC_n]
  simp only [Option.bind_some, bit_ite]
  by_cases h1 : 0 ≤ a1.toInt ∧ a1.toInt ≤ 3
  · by_cases h2 : 0 ≤ a3.toInt ∧ a3.toInt ≤ 3
    · rw [if_pos h1, if_pos h2]
      have hM' : ∀ L2 : mL, _ := fun L2 => by have := hM L2; rw [if_pos h1, if_pos h2] at this; exact this
      obtain ⟨s, hs4, rfl, -⟩ := ofI (a := a1) (n := 4) h1.1 (by omega)
      obtain ⟨t, ht4, rfl, -⟩ := ofI (a := a3) (n := 4) h2.1 (by omega)
      simp only [ck_t (inb_nI hs4 (show 4 < 2147483648 by omega)), ck_t (inb_nI ht4 (show 4 < 2147483648 by omega)), c_nI (show s < 2147483648 by omega), c_nI (show t < 2147483648 by omega)] at hM' ⊢
      unfold f_X6_isMissing_39
      simp only [ck_t (inb_nI hs4 (show 4 < 2147483648 by omega)), ck_t (inb_nI ht4 (show 4 < 2147483648 by omega)), c_nI (show s < 2147483648 by omega), c_nI (show t < 2147483648 by omega)]
      rcases hs s hs4 with ⟨k1, k2⟩ | ⟨k1, ⟨n, hn, k2, k3⟩, ⟨a, ha, k4, k5⟩, k6⟩
      · refine ⟨-11, I, L, I, L, ?_, ?_, h⟩
        · rw [k1]; rfl
        · rw [hM', k2, if_pos (by decide)]
      · have n0 : ¬ nI n < 0 := nI_pos (by omega)
        rcases hs t ht4 with ⟨g1, g2⟩ | ⟨g1, ⟨n', hn', g2, g3⟩, ⟨b, hb, g4, g5⟩, g6⟩
        · refine ⟨-11, I, L, I, L, ?_, ?_, h⟩
          · rw [k1, g1]; rfl
          · rw [hM', k3, if_neg n0, g2, if_neg (by decide)]
        · rw [k1, g1, if_neg (by decide), Option.bind_some, if_pos rfl, Option.bind_some, if_pos rfl, k4, g4, holds_eq hs4 hn k2, holds_eq ht4 hn' g2]
          have hM2 : ∀ L2 : mL, f_X11_copy_67 I L2 (nI s) a2 (nI t) a4 a5 = ((if nI a = nI b then (if badr n a2 a5 then some (-13) else some 0) else some (-12)).bind (fun r3 => if 0 ≤ r3 then ((if nI b = nI b then (if badr n' a4 a5 then some (-13) else some 0) else some (-12)).bind (fun r4 => f_X11_copy_67_b78 I L2 (nI s) a2 (nI t) a4 a5 r4)) else (f_X11_copy_67_b78 I L2 (nI s) a2 (nI t) a4 a5 r3))) := fun L2 => by
            have := hM' L2
            rw [k3, if_neg n0, g3, if_pos (ge0_nI (by omega)), finds_eq hs4 hn k3, finds_eq ht4 hn' g3, k5, g5] at this
            exact this
          by_cases e1 : nI a = nI b
          · rw [if_pos e1]
            by_cases f1 : badr n a2 a5
            · rw [if_pos f1, Option.bind_some, if_pos rfl]
              refine ⟨_, _, _, _, _, rfl, ?_, h⟩
              rw [hM2, if_pos e1, if_pos f1, Option.bind_some, if_neg (by decide)]
              unfold f_X11_copy_67_b78
              rw [if_neg (by decide)]
            · rw [if_neg f1, Option.bind_some, if_neg (by decide)]
              by_cases f2 : badr n' a4 a5
              · rw [if_pos f2, Option.bind_some, if_pos rfl]
                refine ⟨_, _, _, _, _, rfl, ?_, h⟩
                rw [hM2, if_pos e1, if_neg f1, Option.bind_some, if_pos (by decide), if_pos rfl, if_pos f2, Option.bind_some]
                unfold f_X11_copy_67_b78
                rw [if_neg (by decide)]
              · rw [if_neg f2, Option.bind_some, if_neg (by decide)]
                obtain ⟨i, hi, rfl, gi⟩ := ofI (a := a2) (n := 25) (by unfold badr at f1; omega) (by unfold badr at f1; omega)
                obtain ⟨j, hj, rfl, gj⟩ := ofI (a := a4) (n := 25) (by unfold badr at f2; omega) (by unfold badr at f2; omega)
                obtain ⟨m, hm, rfl, gm⟩ := ofI (a := a5) (n := 25) (by unfold badr at f1; omega) (by unfold badr at f1; omega)
                unfold badr at f1 f2
                rw [ck_t (cpk_nI (by omega) (by omega) (by omega) (by omega)), lt_eq, c_nI (by omega), c_nI (by omega), c_nI (by omega)]
                obtain ⟨L3, e3, e4⟩ := mcopy_loop (I := I) (L := pL L (41 + t) (va_cpy (L (41 + s)) (L (41 + t)) i j m)) hs4 ht4 (show i + m ≤ 24 by omega) (show j + m ≤ 24 by omega)
                refine ⟨_, _, _, I, L3, rfl, ?_, ?_⟩
                · rw [hM2, if_pos e1, if_neg f1, Option.bind_some, if_pos (by decide), if_pos rfl, if_neg f2, Option.bind_some]
                  unfold f_X11_copy_67_b78
                  rw [if_pos (by decide), e3]
                · refine h.sheets (fun k hk => rfl) (SHt.items ht4 hs (fun r x hr hne hx => ?_) (fun _ x hx => ?_))
                  · rw [e4, e4, if_neg (by omega), if_neg (by omega), pL_at, pL_at, if_neg (by omega), if_neg (by omega)]
                    exact ⟨rfl, rfl⟩
                  · rw [e4, e4, if_neg (by omega), pL_at, if_pos rfl]
                    by_cases e : j ≤ x ∧ x < j + m
                    · rw [pk_cpy_in e.1 e.2, if_pos (by omega), pL_at, if_neg (by omega), k6 _ (by omega)]
                      congr 1; omega
                    · rw [pk_cpy_out (by omega), if_neg (by omega), pL_at, if_neg (by omega), g6 x hx]
          · rw [if_neg e1]
            refine ⟨_, _, _, _, _, rfl, ?_, h⟩
            rw [hM2, if_neg e1, Option.bind_some, if_neg (by decide)]
            unfold f_X11_copy_67_b78
            rw [if_neg (by decide)]
    · rw [if_pos h1, if_neg h2]
      exact ⟨_, _, _, _, _, rfl, by rw [hM, if_pos h1, if_neg h2], h⟩
  · rw [if_neg h1]
    exact ⟨_, _, _, _, _, rfl, by rw [hM, if_neg h1], h⟩
