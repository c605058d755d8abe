/-! THE CLASS'S ROUTES -/
def wc (c lg : Nat) (T : Nat → Nat → Nat) (W : Nat → Nat) (a b : Nat) : Nat := if lg.testBit a = true ∧ lg.testBit b = true then c else c + (T a b - 1) * W a / 10
/-- what the routes hold: parishes, borne, cost, league; tolls (T: 0 no road, else the toll and 1); weights -/
def RT (I : mI) (n B c lg : Nat) (T : Nat → Nat → Nat) (W : Nat → Nat) : Prop := I 48 8 = nI n ∧ I 48 9 = nI B ∧ I 48 10 = nI c ∧ I 48 11 = nI lg ∧ (∀ a b, a < n → b < n → I 49 (a * 8 + b) = nI (T a b) - 1) ∧ (∀ a, a < n → I 51 a = nI (W a))
/-- what they may be -/
def RB (n B c lg : Nat) (T : Nat → Nat → Nat) (W : Nat → Nat) : Prop := n ≤ 8 ∧ B ≤ 999 ∧ c ≤ 99 ∧ lg < 256 ∧ (∀ a b, a < n → b < n → T a b ≤ 10) ∧ (∀ a, a < n → W a ≤ 990)
/-- only costs, what is open and the best net changed -/
def RF (I I' : mI) : Prop := (∀ k, k ≠ 48 → k ≠ 52 → I' k = I k) ∧ (∀ j, j ≤ 11 → I' 48 j = I 48 j)
theorem RF.refl (I : mI) : RF I I := ⟨fun _ _ _ => rfl, fun _ _ => rfl⟩
theorem RF.trans {I J K : mI} (h : RF I J) (g : RF J K) : RF I K := ⟨fun k a b => (g.1 k a b).trans (h.1 k a b), fun j a => (g.2 j a).trans (h.2 j a)⟩
theorem RF.u52 {I J : mI} (h : RF I J) (j : Nat) (x : Int32) : RF I (uI J 52 j x) := ⟨fun k a b => by rw [uI_cell b]; exact h.1 k a b, fun j a => by rw [uI_cell (by omega)]; exact h.2 j a⟩
theorem RF.u48 {I J : mI} (h : RF I J) {j : Nat} (hj : 12 ≤ j) (x : Int32) : RF I (uI J 48 j x) := ⟨fun k a b => by rw [uI_cell a]; exact h.1 k a b, fun i a => by rw [uI_at, if_neg (by omega)]; exact h.2 i a⟩
section Routes
variable {I J : mI} {L : mL} {n B c lg : Nat} {T : Nat → Nat → Nat} {W : Nat → Nat}
theorem RT.frame (h : RT I n B c lg T W) (hf : RF I J) : RT J n B c lg T W := by
  obtain ⟨h1, h2, h3, h4, h5, h6⟩ := h
  refine ⟨by rw [hf.2 8 (by omega)]; exact h1, by rw [hf.2 9 (by omega)]; exact h2, by rw [hf.2 10 (by omega)]; exact h3, by rw [hf.2 11 (by omega)]; exact h4, fun a b ha hb => by rw [hf.1 49 (by omega) (by omega)]; exact h5 a b ha hb, fun a ha => by rw [hf.1 51 (by omega) (by omega)]; exact h6 a ha⟩
theorem bit2 {m a b : Nat} (hm : m < 2147483648) (ha : a < 32) (hb : b < 32) : (((nI m >>> (nI a &&& 31)) &&& (nI m >>> (nI b &&& 31))) &&& 1 = 0) ↔ ¬ (m.testBit a = true ∧ m.testBit b = true) := by
  rw [shr_nI hm ha, shr_nI hm hb, show (1 : Int32) = nI 1 from rfl, and_nI, and_nI, Nat.and_one_is_mod]
  have e : ∀ x y : Nat, (x &&& y) % 2 = 1 ↔ x % 2 = 1 ∧ y % 2 = 1 := by
    intro x y
    have q : ∀ z : Nat, z % 2 = 1 ↔ z.testBit 0 = true := fun z => by rw [Nat.testBit_zero]; simp
    rw [q, q, q, Nat.testBit_and]; simp
  have e2 := e (m / 2 ^ a) (m / 2 ^ b)
  rw [tb_iff, tb_iff] at e2
  rw [← e2, show (0 : Int32) = nI 0 from rfl, eq_nI (by omega) (by omega)]
  omega
theorem wc_le (hB : RB n B c lg T W) {a b : Nat} (ha : a < n) (hb : b < n) : wc c lg T W a b ≤ 990 := by
  obtain ⟨h1, h2, h3, h4, h5, h6⟩ := hB
  have := h5 a b ha hb
  have := h6 a ha
  unfold wc
  split
  · omega
  · have : (T a b - 1) * W a ≤ 9 * 990 := Nat.mul_le_mul (by omega) (by omega)
    omega
theorem wc_ok (hB : RB n B c lg T W) : ∀ a b, a < n → b < n → T a b ≠ 0 → wc c lg T W a b ≤ 1000 := fun a b ha hb _ => Nat.le_trans (wc_le hB ha hb) (by omega)
theorem roadCost_eq (h : RT I n B c lg T W) (hB : RB n B c lg T W) {a b : Nat} (ha : a < n) (hb : b < n) (ht : T a b ≠ 0) : f_X5_roadCost_48 I L (nI a) (nI b) = some (nI (wc c lg T W a b)) := by
  obtain ⟨h1, h2, h3, h4, h5, h6⟩ := h
  obtain ⟨b1, b2, b3, b4, b5, b6⟩ := hB
  have q1 := b5 a b ha hb
  have q2 := b6 a ha
  obtain ⟨t, et⟩ : ∃ t, T a b = t + 1 := ⟨T a b - 1, by omega⟩
  have q3 : t * W a ≤ 9 * 990 := Nat.mul_le_mul (by omega) (by omega)
  unfold f_X5_roadCost_48 wc
  rw [h4]
  simp only [bit2 (show lg < 2147483648 by omega) (show a < 32 by omega) (show b < 32 by omega)]
  by_cases q : lg.testBit a = true ∧ lg.testBit b = true
  · rw [if_neg (fun z => z q), if_pos q]
    unfold f_X5_roadCost_48_b23
    rw [if_neg (by decide), h3]
  · rw [if_pos q, if_neg q]
    unfold f_X5_roadCost_48_b23
    rw [if_pos rfl]
    simp (disch := omega) only [ck_nI, c_nI, le_n, lt_n, eq_n, lt_eq, Option.bind_some, bndI_some, bndV_some, bndL_some, inc_nI, nI_1, n_add, n_mul, orz, addz, q0, q2, q3, q4, q5, q6, q7, q8, q9, q10, q13, q14, q15, q20, q24, q46, q48, q61, q76, q91, q95, q99, q100, q105, q111, q117, q123, q129, eq1, le1, ge1, lt1, gt1, cl1, h3, h5 a b ha hb, h6 a ha, et, nI_pred]
    rw [div_nI (by omega) (by omega) (by omega), n_add, Nat.add_sub_cancel]
/-- the nearest one that is open -/
theorem nearest_eq (h : RT I n B c lg T W) (hB : RB n B c lg T W) {m : Nat} (hm : I 48 12 = nI m) (hm2 : m < 256) {C : Nat → Nat} (hC : ∀ b, b < n → I 52 b = nI (C b)) (hC2 : ∀ b, b < n → C b ≤ 536870912) : ∃ r, f_X5_nearest_48 I L = some r ∧ ((r = -1 ∧ ∀ b, b < n → m.testBit b = true → C b = 536870912) ∨ ∃ p, p < n ∧ r = nI p ∧ m.testBit p = true ∧ C p < 536870912 ∧ ∀ b, b < n → m.testBit b = true → C p ≤ C b) := by
  have h1 := h.1
  have b1 := hB.1
  unfold f_X5_nearest_48
  obtain ⟨m', a', hI, hF⟩ := loop_inv (F := fun f k (a : Int32 × Int32) => f_X5_nearest_48_l7 I L f a.1 a.2 (nI k)) (n := n)
    (Inv := fun k a => (a.1 = -1 ∧ a.2 = nI 536870912 ∧ ∀ b, b < k → m.testBit b = true → C b = 536870912) ∨ ∃ p, p < n ∧ a.1 = nI p ∧ a.2 = nI (C p) ∧ m.testBit p = true ∧ C p < 536870912 ∧ ∀ b, b < k → m.testBit b = true → C p ≤ C b)
    (fun f k a hk hI => by
      have hCk := hC2 k hk
      show ∃ a', _ ∧ f_X5_nearest_48_l7 I L (f + 1) a.1 a.2 (nI k) = _
      by_cases hb : m.testBit k = true
      · have e0 : f_X5_nearest_48_l7 I L (f + 1) a.1 a.2 (nI k) = if a.2 ≤ nI (C k) then f_X5_nearest_48_l7 I L f a.1 a.2 (nI (k + 1)) else f_X5_nearest_48_l7 I L f (nI k) (nI (C k)) (nI (k + 1)) := by
          rw [f_X5_nearest_48_l7, h1, hm, if_neg (show ¬ nI n ≤ nI k by rw [le_nI (by omega) (by omega)]; omega), if_neg (fun z => by rw [bit0 (by omega) (by omega)] at z; rw [hb] at z; cases z)]
          simp (disch := omega) only [ck_nI, c_nI, le_n, lt_n, eq_n, lt_eq, Option.bind_some, bndI_some, bndV_some, bndL_some, inc_nI, nI_1, n_add, n_mul, orz, addz, q0, q2, q3, q4, q5, q6, q7, q8, q9, q10, q13, q14, q15, q20, q24, q46, q48, q61, q76, q91, q95, q99, q100, q105, q111, q117, q123, q129, eq1, le1, ge1, lt1, gt1, cl1, hC k hk]
        rw [e0]
        rcases hI with ⟨i1, i2, i3⟩ | ⟨p, hp, i1, i2, i3, i4, i5⟩
        · rw [i2]
          by_cases q : C k = 536870912
          · refine ⟨a, Or.inl ⟨i1, i2, fun b hb' hbb => ?_⟩, ?_⟩
            · by_cases e : b = k
              · subst e; exact q
              · exact i3 b (by omega) hbb
            · rw [if_pos (by rw [le_nI (by omega) (by omega)]; omega), i2]
          · refine ⟨(nI k, nI (C k)), Or.inr ⟨k, hk, rfl, rfl, hb, by omega, fun b hb' hbb => ?_⟩, ?_⟩
            · by_cases e : b = k
              · subst e; omega
              · have := i3 b (by omega) hbb; omega
            · rw [if_neg (by rw [le_nI (by omega) (by omega)]; omega)]
        · rw [i2]
          have := hC2 p hp
          by_cases q : C p ≤ C k
          · refine ⟨a, Or.inr ⟨p, hp, i1, i2, i3, i4, fun b hb' hbb => ?_⟩, ?_⟩
            · by_cases e : b = k
              · subst e; exact q
              · exact i5 b (by omega) hbb
            · rw [if_pos (by rw [le_nI (by omega) (by omega)]; omega), i2]
          · refine ⟨(nI k, nI (C k)), Or.inr ⟨k, hk, rfl, rfl, hb, by omega, fun b hb' hbb => ?_⟩, ?_⟩
            · by_cases e : b = k
              · subst e; omega
              · have := i5 b (by omega) hbb; omega
            · rw [if_neg (by rw [le_nI (by omega) (by omega)]; omega)]
      · refine ⟨a, ?_, ?_⟩
        · rcases hI with ⟨i1, i2, i3⟩ | ⟨p, hp, i1, i2, i3, i4, i5⟩
          · refine Or.inl ⟨i1, i2, fun b hb' hbb => ?_⟩
            by_cases e : b = k
            · subst e; exact absurd hbb hb
            · exact i3 b (by omega) hbb
          · refine Or.inr ⟨p, hp, i1, i2, i3, i4, fun b hb' hbb => ?_⟩
            by_cases e : b = k
            · subst e; exact absurd hbb hb
            · exact i5 b (by omega) hbb
        · rw [f_X5_nearest_48_l7, h1, hm, if_neg (show ¬ nI n ≤ nI k by rw [le_nI (by omega) (by omega)]; omega), if_pos (by rw [bit0 (by omega) (by omega)]; simpa using hb)]
          simp (disch := omega) only [ck_nI, c_nI, le_n, lt_n, eq_n, lt_eq, Option.bind_some, bndI_some, bndV_some, bndL_some, inc_nI, nI_1, n_add, n_mul, orz, addz, q0, q2, q3, q4, q5, q6, q7, q8, q9, q10, q13, q14, q15, q20, q24, q46, q48, q61, q76, q91, q95, q99, q100, q105, q111, q117, q123, q129, eq1, le1, ge1, lt1, gt1, cl1])
    n 0 (-1, 536870912) fuel (by omega) (Or.inl ⟨rfl, rfl, fun b hb => absurd hb (by omega)⟩) (fuel_gt (by omega))
  have hF' : f_X5_nearest_48_l7 I L fuel (-1) 536870912 0 = f_X5_nearest_48_l7 I L (m' + 1) a'.1 a'.2 (nI n) := hF
  rw [hF', f_X5_nearest_48_l7, h1, if_pos (by rw [le_nI (by omega) (by omega)]; omega)]
  refine ⟨a'.1, rfl, ?_⟩
  rcases hI with ⟨i1, i2, i3⟩ | ⟨p, hp, i1, i2, i3, i4, i5⟩
  · exact Or.inl ⟨i1, i3⟩
  · exact Or.inr ⟨p, hp, i1, i3, i4, i5⟩
/-- costs behind a leaving -/
def Cn (c lg : Nat) (T : Nat → Nat → Nat) (W : Nat → Nat) (m p : Nat) (C : Nat → Nat) (b : Nat) : Nat := if m.testBit b = true ∧ T p b ≠ 0 then (if C b ≤ C p + wc c lg T W p b then C b else C p + wc c lg T W p b) else C b
theorem leave_eq (h : RT I n B c lg T W) (hB : RB n B c lg T W) {m : Nat} (hm : I 48 12 = nI m) (hm2 : m < 256) {C : Nat → Nat} (hC : ∀ b, b < n → I 52 b = nI (C b)) (hC2 : ∀ b, b < n → C b ≤ 536870912) {p : Nat} (hp : p < n) : ∃ J, f_X5_leave_48 I L (nI p) = some (J, L) ∧ RF I J ∧ J 48 12 = nI (mwo m (2 ^ p)) ∧ (∀ b, b < n → J 52 b = nI (Cn c lg T W (mwo m (2 ^ p)) p C b)) ∧ ∀ j, j ≠ 12 → J 48 j = I 48 j := by
  have b1 := hB.1
  have hm3 : mwo m (2 ^ p) < 256 := Nat.lt_of_le_of_lt (mwo_le _ _) hm2
  have hpb : (mwo m (2 ^ p)).testBit p = false := by rw [mwo_bit (by omega), Nat.testBit_two_pow_self]; simp
  generalize em : mwo m (2 ^ p) = m1 at *
  unfold f_X5_leave_48
  rw [hm, shl_nI (by omega), wo_nI, em, lt_eq]
  obtain ⟨m', J, ⟨i1, i2, i3, i4⟩, hF⟩ := loop_inv (F := fun f k (J : mI) => f_X5_leave_48_l16 f (nI p) (nI k) J L) (n := n)
    (Inv := fun k J => RF I J ∧ J 48 12 = nI m1 ∧ (∀ b, b < n → J 52 b = nI (if b < k then Cn c lg T W m1 p C b else C b)) ∧ ∀ j, j ≠ 12 → J 48 j = I 48 j)
    (fun f k J hk hI => by
      obtain ⟨i1, i2, i3, i4⟩ := hI
      have hJ := h.frame i1
      have hCk := hC2 k hk
      have hCp := hC2 p hp
      have hwc := wc_le hB hp hk
      have e52 : J 52 k = nI (C k) := by rw [i3 k hk, if_neg (by omega)]
      have ep : J 52 p = nI (C p) := by
        rw [i3 p hp]
        have : Cn c lg T W m1 p C p = C p := by unfold Cn; rw [if_neg (by rw [hpb]; simp)]
        rw [this]; split <;> rfl
      have keep : Cn c lg T W m1 p C k = C k → ∀ b, b < n → J 52 b = nI (if b < k + 1 then Cn c lg T W m1 p C b else C b) := by
        intro e b hb
        rw [i3 b hb]
        by_cases q : b = k
        · subst q; rw [if_neg (by omega), if_pos (by omega), e]
        · by_cases z : b < k
          · rw [if_pos z, if_pos (by omega)]
          · rw [if_neg z, if_neg (by omega)]
      show ∃ J', _ ∧ f_X5_leave_48_l16 (f + 1) (nI p) (nI k) J L = _
      have e0 := hJ.1
      by_cases hb : m1.testBit k = true
      · have e1 : f_X5_leave_48_l16 (f + 1) (nI p) (nI k) J L = if nI (T p k) - 1 = -1 then f_X5_leave_48_l16 f (nI p) (nI (k + 1)) J L else ((f_X5_roadCost_48 J L (nI p) (nI k)).bind (fun r4 => lt ((nI (C p)) + r4) (fun v5 => if nI (C k) ≤ v5 then f_X5_leave_48_l16 f (nI p) (nI (k + 1)) J L else f_X5_leave_48_l16 f (nI p) (nI (k + 1)) (uI J 52 k v5) L))) := by
          rw [f_X5_leave_48_l16, e0, i2, if_neg (show ¬ nI n ≤ nI k by rw [le_nI (by omega) (by omega)]; omega), if_neg (fun z => by rw [bit0 (by omega) (by omega)] at z; rw [hb] at z; cases z)]
          simp (disch := omega) only [ck_nI, c_nI, le_n, lt_n, eq_n, lt_eq, Option.bind_some, bndI_some, bndV_some, bndL_some, inc_nI, nI_1, n_add, n_mul, orz, addz, q0, q2, q3, q4, q5, q6, q7, q8, q9, q10, q13, q14, q15, q20, q24, q46, q48, q61, q76, q91, q95, q99, q100, q105, q111, q117, q123, q129, eq1, le1, ge1, lt1, gt1, cl1, e52, ep, hJ.2.2.2.2.1 p k hp hk]
        rw [e1]
        by_cases t0 : T p k = 0
        · refine ⟨J, ⟨i1, i2, keep (by unfold Cn; rw [if_neg (fun z => z.2 t0)]), i4⟩, ?_⟩
          rw [t0, if_pos (by decide)]
        · have t10 := hB.2.2.2.2.1 p k hp hk
          rw [if_neg (by
            obtain ⟨t, et⟩ : ∃ t, T p k = t + 1 := ⟨T p k - 1, by omega⟩
            rw [et, nI_pred]
            intro z
            have := congrArg Int32.toInt z
            rw [t_nI (by omega)] at this
            have q : (-1 : Int32).toInt = -1 := by decide
            omega), roadCost_eq hJ hB hp hk t0]
          have ec : Cn c lg T W m1 p C k = if C k ≤ C p + wc c lg T W p k then C k else C p + wc c lg T W p k := by unfold Cn; rw [if_pos ⟨hb, t0⟩]
          simp (disch := omega) only [ck_nI, c_nI, le_n, lt_n, eq_n, lt_eq, Option.bind_some, bndI_some, bndV_some, bndL_some, inc_nI, nI_1, n_add, n_mul, orz, addz, q0, q2, q3, q4, q5, q6, q7, q8, q9, q10, q13, q14, q15, q20, q24, q46, q48, q61, q76, q91, q95, q99, q100, q105, q111, q117, q123, q129, eq1, le1, ge1, lt1, gt1, cl1]
          by_cases q : C k ≤ C p + wc c lg T W p k
          · refine ⟨J, ⟨i1, i2, keep (by rw [ec, if_pos q]), i4⟩, ?_⟩
            rw [if_pos q]
          · refine ⟨uI J 52 k (nI (C p + wc c lg T W p k)), ⟨i1.u52 _ _, by rw [uI_cell (by omega)]; exact i2, fun b hb' => ?_, fun j hj => by rw [uI_cell (by omega)]; exact i4 j hj⟩, ?_⟩
            · rw [uI_at]
              by_cases e : b = k
              · subst e; rw [if_pos ⟨rfl, rfl⟩, if_pos (by omega), ec, if_neg q]
              · rw [if_neg (fun z => e z.2), i3 b hb']
                by_cases z : b < k
                · rw [if_pos z, if_pos (by omega)]
                · rw [if_neg z, if_neg (by omega)]
            · rw [if_neg q]
      · refine ⟨J, ⟨i1, i2, keep (by unfold Cn; rw [if_neg (fun z => hb z.1)]), i4⟩, ?_⟩
        rw [f_X5_leave_48_l16, e0, i2, if_neg (show ¬ nI n ≤ nI k by rw [le_nI (by omega) (by omega)]; omega), if_pos (by rw [bit0 (by omega) (by omega)]; simpa using hb)]
        simp (disch := omega) only [ck_nI, c_nI, le_n, lt_n, eq_n, lt_eq, Option.bind_some, bndI_some, bndV_some, bndL_some, inc_nI, nI_1, n_add, n_mul, orz, addz, q0, q2, q3, q4, q5, q6, q7, q8, q9, q10, q13, q14, q15, q20, q24, q46, q48, q61, q76, q91, q95, q99, q100, q105, q111, q117, q123, q129, eq1, le1, ge1, lt1, gt1, cl1])
    n 0 (uI I 48 12 (nI m1)) fuel (by omega) ⟨(RF.refl I).u48 (by omega) _, uI_same _ _ _ _, fun b hb => by rw [uI_cell (by omega), if_neg (by omega)]; exact hC b hb, fun j hj => by rw [uI_at, if_neg (by omega)]⟩ (fuel_gt (by omega))
  have hF' : f_X5_leave_48_l16 fuel (nI p) 0 (uI I 48 12 (nI m1)) L = f_X5_leave_48_l16 (m' + 1) (nI p) (nI n) J L := hF
  refine ⟨J, ?_, i1, i2, fun b hb => by rw [i3 b hb, if_pos hb], i4⟩
  rw [hF', f_X5_leave_48_l16, (h.frame i1).1, if_pos (by rw [le_nI (by omega) (by omega)]; omega)]
end Routes
