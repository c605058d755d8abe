/-! roads as a table, both sides' ways -/
def rdk (v : mV) (a b : Nat) : Nat → Nat
  | 0 => 0
  | k + 1 => if (v (46 + k) = a ∧ v (61 + k) = b) ∨ (v (46 + k) = b ∧ v (61 + k) = a) then v (76 + k) + 1 else rdk v a b k
def rd (v : mV) (a b : Nat) : Nat := rdk v a b (v 1)
theorem rdk_of {v : mV} (hw : WF v) {a b r : Nat} (he : En v r a b) : ∀ k, k ≤ v 1 → r < k → rdk v a b k = v (76 + r) + 1 := by
  intro k
  induction k with
  | zero => intro _ h; omega
  | succ k ih =>
    intro hk hr
    show (if (v (46 + k) = a ∧ v (61 + k) = b) ∨ (v (46 + k) = b ∧ v (61 + k) = a) then v (76 + k) + 1 else rdk v a b k) = v (76 + r) + 1
    by_cases q : (v (46 + k) = a ∧ v (61 + k) = b) ∨ (v (46 + k) = b ∧ v (61 + k) = a)
    · rw [if_pos q]
      have h1 := (hw.roadb k (by omega)).1
      have h2 := (hw.roadb r (by omega)).1
      have : k = r := by
        unfold En at he
        apply hw.roadu k r (by omega) (by omega) <;> omega
      rw [this]
    · rw [if_neg q]
      have : r ≠ k := fun z => q (by subst z; exact he)
      exact ih (by omega) (by omega)
theorem rdk_none {v : mV} {a b : Nat} : ∀ k, (∀ r, r < k → ¬ En v r a b) → rdk v a b k = 0 := by
  intro k
  induction k with
  | zero => intro _; rfl
  | succ k ih =>
    intro h
    show (if (v (46 + k) = a ∧ v (61 + k) = b) ∨ (v (46 + k) = b ∧ v (61 + k) = a) then v (76 + k) + 1 else rdk v a b k) = 0
    rw [if_neg (show ¬ ((v (46 + k) = a ∧ v (61 + k) = b) ∨ (v (46 + k) = b ∧ v (61 + k) = a)) from h k (by omega))]
    exact ih (fun r hr => h r (by omega))
theorem rdk_le {v : mV} (hw : WF v) {a b : Nat} : ∀ k, k ≤ v 1 → rdk v a b k ≤ 10 := by
  intro k
  induction k with
  | zero => intro _; exact Nat.zero_le _
  | succ k ih =>
    intro hk
    show (if (v (46 + k) = a ∧ v (61 + k) = b) ∨ (v (46 + k) = b ∧ v (61 + k) = a) then v (76 + k) + 1 else rdk v a b k) ≤ 10
    have := (hw.roadb k (by omega)).2.2
    have := ih (by omega)
    split <;> omega
theorem rd_le {v : mV} (hw : WF v) (a b : Nat) : rd v a b ≤ 10 := rdk_le hw _ (Nat.le_refl _)
theorem fill49_eq {I : mI} {L : mL} : ∃ J, f_J7_fill_53178_49 I L (-1) = some (J, L) ∧ (∀ k, k ≠ 49 → J k = I k) ∧ ∀ b, b < 64 → J 49 b = -1 := by
  unfold f_J7_fill_53178_49
  obtain ⟨m', J, ⟨i1, i2⟩, hF⟩ := loop_inv (F := fun f k (J : mI) => f_J7_fill_53178_49_l5 f (-1) (nI k) 64 J L) (n := 64)
    (Inv := fun k J => (∀ c, c ≠ 49 → J c = I c) ∧ ∀ b, b < k → J 49 b = -1)
    (fun f k J hk hI => by
      refine ⟨uI J 49 k (-1), ⟨fun c hc => by rw [uI_cell hc]; exact hI.1 c hc, fun b hb => ?_⟩, ?_⟩
      · rw [uI_at]
        by_cases e : b = k
        · rw [if_pos ⟨rfl, e⟩]
        · rw [if_neg (fun z => e z.2)]; exact hI.2 b (by omega)
      · show f_J7_fill_53178_49_l5 (f + 1) (-1) (nI k) 64 J L = _
        rw [f_J7_fill_53178_49_l5]
        simp (disch := omega) only [ck_nI, c_nI, le_n, lt_n, eq_n, lt_eq, Option.bind_some, bndI_some, bndV_some, bndL_some, inc_nI, nI_1, n_add, n_mul, orz, addz, q0, q2, q3, q4, q5, q6, q7, q8, q9, q10, q13, q14, q15, q20, q24, q46, q48, q61, q76, q91, q95, q99, q100, q105, q111, q117, q123, q129, eq1, le1, ge1, lt1, gt1, cl1, show (64 : Int32) = nI 64 from rfl, show ¬ 64 ≤ k by omega, if_false])
    64 0 I fuel (by omega) ⟨fun _ _ => rfl, fun b hb => absurd hb (by omega)⟩ (fuel_gt (by omega))
  have hF' : f_J7_fill_53178_49_l5 fuel (-1) 0 64 I L = f_J7_fill_53178_49_l5 (m' + 1) (-1) (nI 64) 64 J L := hF
  refine ⟨J, ?_, i1, i2⟩
  rw [hF', f_J7_fill_53178_49_l5, if_pos (by decide)]
theorem CH.frame {I J : mI} {v : mV} (h : CH I 0 v) (hf : ∀ k, 1 ≤ k → k ≤ 15 → J k = I k) : CH J 0 v := CHs.frame h (fun k a b => hf k (by omega) (by omega))
section Ways
variable {I J : mI} {L : mL} {v : mV}
theorem harness_a (hw : WF v) (hc : CH I 0 v) {ca : Nat} (hca : ca < v 2) : f_X5_harness_48 I L (nI ca) = bndV (f_J7_fill_53178_49 (uI (uI (uI (uI I 48 8 (nI (v 0))) 48 9 (nI (v (91 + ca)))) 48 10 (nI (v (95 + ca)))) 48 11 0) L (-1)) (fun Ir5 Lr5 => f_X5_harness_48_l57 fuel 0 Ir5 Lr5) := by
  have sz := hw.sz
  unfold f_X5_harness_48
  rw [lt_eq, ck_nI (by omega) (by omega), lt_eq, ck_nI (by omega) (by omega), lt_eq, lt_eq, c_nI (by omega), uI_cell (show 8 ≠ 48 by omega), hc.c0, hc.rbear hw ca hca, uI_cell (show 9 ≠ 48 by omega), uI_cell (show 9 ≠ 48 by omega), hc.rcost hw ca hca]
theorem harness_eq (hw : WF v) (hc : CH I 0 v) {ca : Nat} (hca : ca < v 2) : ∃ J, f_X5_harness_48 I L (nI ca) = some (J, L) ∧ (∀ k, k ≠ 48 → k ≠ 49 → J k = I k) ∧ J 48 8 = nI (v 0) ∧ J 48 9 = nI (v (91 + ca)) ∧ J 48 10 = nI (v (95 + ca)) ∧ J 48 11 = nI 0 ∧ ∀ a b, a < 8 → b < 8 → J 49 (a * 8 + b) = nI (rd v a b) - 1 := by
  have sz := hw.sz
  rw [harness_a hw hc hca]
  obtain ⟨J0, g1, g2, g3⟩ := fill49_eq (I := uI (uI (uI (uI I 48 8 (nI (v 0))) 48 9 (nI (v (91 + ca)))) 48 10 (nI (v (95 + ca)))) 48 11 0) (L := L)
  rw [g1, bndV_some]
  have em : (-1 : Int32) = nI 0 - 1 := by decide
  have hJ0 : ∀ k, k ≠ 48 → k ≠ 49 → J0 k = I k := fun k h1 h2 => by rw [g2 k h2, uI_cell h1, uI_cell h1, uI_cell h1, uI_cell h1]
  obtain ⟨m', J, ⟨i1, i2⟩, hF⟩ := loop_inv (F := fun f k (J : mI) => f_X5_harness_48_l57 f (nI k) J L) (n := v 1)
    (Inv := fun k J => (∀ c, c ≠ 49 → J c = J0 c) ∧ ∀ a b, a < 8 → b < 8 → J 49 (a * 8 + b) = nI (rdk v a b k) - 1)
    (fun f k J hk hI => by
      have hcJ : CH J 0 v := hc.frame (fun k a b => by rw [hI.1 k (by omega), hJ0 k (by omega) (by omega)])
      have rb := hw.roadb k hk
      refine ⟨uI (uI J 49 (v (46 + k) * 8 + v (61 + k)) (nI (v (76 + k)))) 49 (v (61 + k) * 8 + v (46 + k)) (nI (v (76 + k))), ⟨fun c hc => by rw [uI_cell hc, uI_cell hc]; exact hI.1 c hc, fun a b ha hb => ?_⟩, ?_⟩
      · rw [uI_at, uI_at]
        have e2 : rdk v a b (k + 1) = if (v (46 + k) = a ∧ v (61 + k) = b) ∨ (v (46 + k) = b ∧ v (61 + k) = a) then v (76 + k) + 1 else rdk v a b k := rfl
        rw [e2]
        by_cases q1 : v (46 + k) = a ∧ v (61 + k) = b
        · rw [if_neg (by omega), if_pos (by omega), if_pos (Or.inl q1), nI_pred]
        · by_cases q2 : v (46 + k) = b ∧ v (61 + k) = a
          · rw [if_pos (by omega), if_pos (Or.inr q2), nI_pred]
          · rw [if_neg (by omega), if_neg (by omega), if_neg (by omega)]
            exact hI.2 a b ha hb
      · show f_X5_harness_48_l57 (f + 1) (nI k) J L = _
        rw [f_X5_harness_48_l57, hcJ.c1]
        simp (disch := omega) only [ck_nI, c_nI, le_n, lt_n, eq_n, lt_eq, Option.bind_some, bndI_some, bndV_some, bndL_some, inc_nI, nI_1, n_add, n_mul, orz, addz, q0, q2, q3, q4, q5, q6, q7, q8, q9, q10, q13, q14, q15, q20, q24, q46, q48, q61, q76, q91, q95, q99, q100, q105, q111, q117, q123, q129, eq1, le1, ge1, lt1, gt1, cl1, uI_cell, hcJ.rone hw k hk, hcJ.roth hw k hk, hcJ.rtoll hw k hk, show ¬ v 1 ≤ k by omega, if_false])
    (v 1) 0 J0 fuel (by omega) ⟨fun _ _ => rfl, fun a b ha hb => by rw [g3 _ (by omega)]; exact em⟩ (fuel_gt (by omega))
  have hF' : f_X5_harness_48_l57 fuel 0 J0 L = f_X5_harness_48_l57 (m' + 1) (nI (v 1)) J L := hF
  have hJ : ∀ k, k ≠ 48 → k ≠ 49 → J k = I k := fun k h1 h2 => by rw [i1 k h2, hJ0 k h1 h2]
  have c6 : J 2 6 = nI (v 1) := by rw [hJ 2 (by omega) (by omega)]; exact hc.c1
  refine ⟨J, ?_, hJ, ?_, ?_, ?_, ?_, i2⟩
  · rw [hF', f_X5_harness_48_l57, c6, if_pos (by rw [le_nI (by omega) (by omega)]; omega)]
  · rw [i1 48 (by omega), g2 48 (by omega)]; simp [uI_at]
  · rw [i1 48 (by omega), g2 48 (by omega)]; simp [uI_at]
  · rw [i1 48 (by omega), g2 48 (by omega)]; simp [uI_at]
  · rw [i1 48 (by omega), g2 48 (by omega), uI_same]; rfl
theorem weigh_eq (hw : WF v) (hc : CH I 0 v) {m : Nat} (hm : m ≤ 99) (h8 : I 48 8 = nI (v 0)) : ∃ J, f_X5_weigh_48 I L (nI m) = some (J, L) ∧ (∀ k, k ≠ 51 → J k = I k) ∧ ∀ a, a < v 0 → J 51 a = nI (wV v a m) := by
  have sz := hw.sz
  unfold f_X5_weigh_48
  obtain ⟨m', J, ⟨i1, i2⟩, hF⟩ := loop_inv (F := fun f k (J : mI) => f_X5_weigh_48_l2 f (nI m) (nI k) J L) (n := v 0)
    (Inv := fun k J => (∀ c, c ≠ 51 → J c = I c) ∧ ∀ a, a < k → J 51 a = nI (wV v a m))
    (fun f k J hk hI => by
      have hcJ : CH J 0 v := hc.frame (fun k a b => hI.1 k (by omega))
      have e8 : J 48 8 = nI (v 0) := by rw [hI.1 48 (by omega)]; exact h8
      refine ⟨uI J 51 k (nI (wV v k m)), ⟨fun c hc => by rw [uI_cell hc]; exact hI.1 c hc, fun a ha => ?_⟩, ?_⟩
      · rw [uI_at]
        by_cases e : a = k
        · rw [if_pos ⟨rfl, e⟩, e]
        · rw [if_neg (fun z => e z.2)]; exact hI.2 a (by omega)
      · show f_X5_weigh_48_l2 (f + 1) (nI m) (nI k) J L = _
        rw [f_X5_weigh_48_l2, e8, weightAt_eq hw hcJ hk (by omega)]
        simp (disch := omega) only [ck_nI, c_nI, le_n, lt_n, eq_n, lt_eq, Option.bind_some, bndI_some, bndV_some, bndL_some, inc_nI, nI_1, n_add, n_mul, orz, addz, q0, q2, q3, q4, q5, q6, q7, q8, q9, q10, q13, q14, q15, q20, q24, q46, q48, q61, q76, q91, q95, q99, q100, q105, q111, q117, q123, q129, eq1, le1, ge1, lt1, gt1, cl1, show ¬ v 0 ≤ k by omega, if_false])
    (v 0) 0 I fuel (by omega) ⟨fun _ _ => rfl, fun b hb => absurd hb (by omega)⟩ (fuel_gt (by omega))
  have hF' : f_X5_weigh_48_l2 fuel (nI m) 0 I L = f_X5_weigh_48_l2 (m' + 1) (nI m) (nI (v 0)) J L := hF
  refine ⟨J, ?_, i1, i2⟩
  rw [hF', f_X5_weigh_48_l2, i1 48 (by omega), h8, if_pos (by rw [le_nI (by omega) (by omega)]; omega)]
/-- the reference's ways -/
theorem bears_eq (hw : WF v) (hm : MH I 68 v) {ca m p : Nat} (hca : ca < v 2) (hm9 : m ≤ 99) (hp : p < v 0) : f_X11_bears_67 I L (nI ca) (nI m) (nI p) = some (if wV v p m ≤ v (91 + ca) then 1 else 0) := by
  have sz := hw.sz
  have := wV_le hw hp (m := m)
  have := hw.cartb ca hca
  unfold f_X11_bears_67
  rw [mweight_eq hw hm hp (by omega)]
  simp (disch := omega) only [ck_nI, c_nI, le_n, lt_n, eq_n, lt_eq, Option.bind_some, bndI_some, bndV_some, bndL_some, inc_nI, nI_1, n_add, n_mul, orz, addz, q0, q2, q3, q4, q5, q6, q7, q8, q9, q10, q13, q14, q15, q20, q24, q46, q48, q61, q76, q91, q95, q99, q100, q105, q111, q117, q123, q129, eq1, le1, ge1, lt1, gt1, cl1, hm.n]
  by_cases q : wV v p m ≤ v (91 + ca)
  · rw [if_pos q, if_neg (by omega)]
  · rw [if_neg q, if_pos (by omega)]
theorem costOf_eq (hw : WF v) (hm : MH I 68 v) {ca m lg a b : Nat} (hca : ca < v 2) (hm9 : m ≤ 99) (hlg : lg < 256) (ha : a < v 0) (hb : b < v 0) : f_X11_costOf_67 I L (nI ca) (nI m) (nI lg) (nI a) (nI b) = some (nI (if rd v a b = 0 then 100000000 else wc (v (95 + ca)) lg (rd v) (fun p => wV v p m) a b)) := by
  have sz := hw.sz
  have h1 := wV_le hw ha (m := m)
  have h2 := hw.cartb ca hca
  unfold f_X11_costOf_67
  obtain ⟨x, x1, x2⟩ := roadOf_eq (L := L) hm (by omega) (fun r hr => by have := hw.roadb r hr; omega) (a := a) (b := b) (by omega) (by omega)
  rw [x1, Option.bind_some]
  rcases x2 with ⟨rfl, x3⟩ | ⟨r, x3, x4, x5⟩
  · rw [if_neg (by decide), show rd v a b = 0 from rdk_none _ x3, if_pos rfl]; rfl
  · subst x5
    have h3 := (hw.roadb r x3).2.2
    have er : rd v a b = v (76 + r) + 1 := rdk_of hw x4 (v 1) (Nat.le_refl _) x3
    have h4 : v (76 + r) * wV v a m ≤ 9 * 990 := Nat.mul_le_mul h3 (by omega)
    rw [if_pos (ge0_nI (by omega)), er, if_neg (show ¬ (v (76 + r) + 1 = 0) by omega)]
    have e1 : f_X11_costOf_67_b42 I L (nI ca) (nI m) (nI a) (nI r) = some (nI (v (95 + ca) + v (76 + r) * wV v a m / 10)) := by
      unfold f_X11_costOf_67_b42 f_X11_costOf_67_b43
      rw [mweight_eq hw hm ha (by omega)]
      simp (disch := omega) only [ck_nI, c_nI, le_n, lt_n, eq_n, lt_eq, Option.bind_some, bndI_some, bndV_some, bndL_some, inc_nI, nI_1, n_add, n_mul, orz, addz, q0, q2, q3, q4, q5, q6, q7, q8, q9, q10, q13, q14, q15, q20, q24, q46, q48, q61, q76, q91, q95, q99, q100, q105, q111, q117, q123, q129, eq1, le1, ge1, lt1, gt1, cl1, hm.n, div_nI, if_true]
    have e2 : f_X11_costOf_67_b43 I L (nI ca) (nI m) (nI a) (nI r) 1 = some (nI (v (95 + ca))) := by
      unfold f_X11_costOf_67_b43
      simp (disch := omega) only [ck_nI, c_nI, le_n, lt_n, eq_n, lt_eq, Option.bind_some, bndI_some, bndV_some, bndL_some, inc_nI, nI_1, n_add, n_mul, orz, addz, q0, q2, q3, q4, q5, q6, q7, q8, q9, q10, q13, q14, q15, q20, q24, q46, q48, q61, q76, q91, q95, q99, q100, q105, q111, q117, q123, q129, eq1, le1, ge1, lt1, gt1, cl1, hm.n]
      rw [if_neg (by decide)]
    unfold wc
    rw [er, Nat.add_sub_cancel, e1, e2]
    by_cases q1 : lg.testBit a = true
    · rw [if_pos ((bit1 (by omega) (by omega)).mpr q1)]
      by_cases q2 : lg.testBit b = true
      · rw [if_pos ((bit1 (by omega) (by omega)).mpr q2), if_pos ⟨q1, q2⟩]
      · rw [if_neg (fun z => q2 ((bit1 (by omega) (by omega)).mp z)), if_neg (fun z => q2 z.2)]
    · rw [if_neg (fun z => q1 ((bit1 (by omega) (by omega)).mp z)), if_neg (fun z => q1 z.1)]
/-- one step of Floyd's -/
def fwD (c : Nat) (D : Nat → Nat → Nat) (x y : Nat) : Nat := if D x y ≤ D x c + D c y then D x y else D x c + D c y
theorem fwD_r (c : Nat) (D : Nat → Nat → Nat) (x : Nat) : fwD c D x c = D x c := by unfold fwD; rw [if_pos (by omega)]
theorem fwD_l (c : Nat) (D : Nat → Nat → Nat) (y : Nat) : fwD c D c y = D c y := by unfold fwD; rw [if_pos (by omega)]
theorem lw_b {n c a : Nat} {D : Nat → Nat → Nat} (k117 : Int32 → Int32 → mI → mL → rV) (k127 : Int32 → Int32 → Int32 → mI → mL → rV) (hn : n ≤ 8) (hc : c < n) (ha : a < n) (hb : ∀ x y, x < n → y < n → D x y ≤ 100000000) (h : ∀ x y, x < n → y < n → I 75 (8 * x + y) = nI (if x < a then fwD c D x y else D x y)) : ∃ J, f_X11_layWays_67_l137 k117 k127 fuel (nI n) (nI c) (nI a) 0 I L = k127 (nI n) (nI c) (nI (a + 1)) J L ∧ (∀ k, k ≠ 75 → J k = I k) ∧ ∀ x y, x < n → y < n → J 75 (8 * x + y) = nI (if x < a + 1 then fwD c D x y else D x y) := by
  obtain ⟨m', J, ⟨i1, i2⟩, hF⟩ := loop_inv (F := fun f k (J : mI) => f_X11_layWays_67_l137 k117 k127 f (nI n) (nI c) (nI a) (nI k) J L) (n := n)
    (Inv := fun k J => (∀ c, c ≠ 75 → J c = I c) ∧ ∀ x y, x < n → y < n → J 75 (8 * x + y) = nI (if x < a ∨ (x = a ∧ y < k) then fwD c D x y else D x y))
    (fun f k J hk hI => by
      have e1 : J 75 (8 * a + c) = nI (D a c) := by rw [hI.2 a c ha hc, fwD_r]; split <;> rfl
      have e2 : J 75 (8 * c + k) = nI (D c k) := by rw [hI.2 c k hc hk, fwD_l]; split <;> rfl
      have e3 : J 75 (8 * a + k) = nI (D a k) := by rw [hI.2 a k ha hk, if_neg (by omega)]
      have b1 := hb a c ha hc
      have b2 := hb c k hc hk
      have b3 := hb a k ha hk
      refine ⟨uI J 75 (8 * a + k) (nI (fwD c D a k)), ⟨fun c hc => by rw [uI_cell hc]; exact hI.1 c hc, fun x y hx hy => ?_⟩, ?_⟩
      · rw [uI_at]
        by_cases q : x = a ∧ y = k
        · rw [if_pos ⟨rfl, by omega⟩, if_pos (Or.inr ⟨q.1, by omega⟩), q.1, q.2]
        · rw [if_neg (by omega), hI.2 x y hx hy]
          by_cases z : x < a ∨ (x = a ∧ y < k)
          · rw [if_pos z, if_pos (by omega)]
          · rw [if_neg z, if_neg (by omega)]
      · show f_X11_layWays_67_l137 k117 k127 (f + 1) (nI n) (nI c) (nI a) (nI k) J L = _
        rw [f_X11_layWays_67_l137]
        simp (disch := omega) only [ck_nI, c_nI, le_n, lt_n, eq_n, lt_eq, Option.bind_some, bndI_some, bndV_some, bndL_some, inc_nI, nI_1, n_add, n_mul, orz, addz, q0, q2, q3, q4, q5, q6, q7, q8, q9, q10, q13, q14, q15, q20, q24, q46, q48, q61, q76, q91, q95, q99, q100, q105, q111, q117, q123, q129, eq1, le1, ge1, lt1, gt1, cl1, e1, e2, e3, show ¬ n ≤ k by omega, if_false]
        unfold fwD
        by_cases q : D a k ≤ D a c + D c k
        · rw [if_pos q, if_pos q]
        · rw [if_neg q, if_neg q])
    n 0 I fuel (by omega) ⟨fun _ _ => rfl, fun x y hx hy => by
      rw [h x y hx hy]
      by_cases z : x < a
      · rw [if_pos z, if_pos (Or.inl z)]
      · rw [if_neg z, if_neg (by omega)]⟩ (fuel_gt (by omega))
  have hF' : f_X11_layWays_67_l137 k117 k127 fuel (nI n) (nI c) (nI a) 0 I L = f_X11_layWays_67_l137 k117 k127 (m' + 1) (nI n) (nI c) (nI a) (nI n) J L := hF
  refine ⟨J, ?_, i1, fun x y hx hy => ?_⟩
  · rw [hF', f_X11_layWays_67_l137, if_pos (by rw [le_nI (by omega) (by omega)]; omega), lt_eq, inc_nI]
  · rw [i2 x y hx hy]
    by_cases z : x < a + 1
    · rw [if_pos z, if_pos (by omega)]
    · rw [if_neg z, if_neg (by omega)]
theorem lw_a {n c : Nat} {D : Nat → Nat → Nat} (k117 : Int32 → Int32 → mI → mL → rV) (hn : n ≤ 8) (hc : c < n) (hb : ∀ x y, x < n → y < n → D x y ≤ 100000000) (h : ∀ x y, x < n → y < n → I 75 (8 * x + y) = nI (D x y)) : ∃ J, f_X11_layWays_67_l127 k117 fuel (nI n) (nI c) 0 I L = k117 (nI n) (nI (c + 1)) J L ∧ (∀ k, k ≠ 75 → J k = I k) ∧ ∀ x y, x < n → y < n → J 75 (8 * x + y) = nI (fwD c D x y) := by
  obtain ⟨m', J, ⟨i1, i2⟩, hF⟩ := loop_inv (F := fun f k (J : mI) => f_X11_layWays_67_l127 k117 f (nI n) (nI c) (nI k) J L) (n := n)
    (Inv := fun k J => (∀ c, c ≠ 75 → J c = I c) ∧ ∀ x y, x < n → y < n → J 75 (8 * x + y) = nI (if x < k then fwD c D x y else D x y))
    (fun f k J hk hI => by
      obtain ⟨J2, j1, j2, j3⟩ := lw_b (L := L) k117 (f_X11_layWays_67_l127 k117 f) hn hc hk hb hI.2
      refine ⟨J2, ⟨fun c hc => by rw [j2 c hc]; exact hI.1 c hc, j3⟩, ?_⟩
      show f_X11_layWays_67_l127 k117 (f + 1) (nI n) (nI c) (nI k) J L = _
      rw [f_X11_layWays_67_l127, if_neg (by rw [le_nI (by omega) (by omega)]; omega)]
      exact j1)
    n 0 I fuel (by omega) ⟨fun _ _ => rfl, fun x y hx hy => by rw [if_neg (by omega)]; exact h x y hx hy⟩ (fuel_gt (by omega))
  have hF' : f_X11_layWays_67_l127 k117 fuel (nI n) (nI c) 0 I L = f_X11_layWays_67_l127 k117 (m' + 1) (nI n) (nI c) (nI n) J L := hF
  refine ⟨J, ?_, i1, fun x y hx hy => ?_⟩
  · rw [hF', f_X11_layWays_67_l127, if_pos (by rw [le_nI (by omega) (by omega)]; omega), lt_eq, inc_nI]
  · rw [i2 x y hx hy, if_pos hx]
theorem lw_c {n : Nat} {O : Nat → Prop} {E : Nat → Nat → Prop} {w : Nat → Nat → Nat} {D : Nat → Nat → Nat} (hn : n ≤ 8) (hD : FW n 0 O E w D) (h : ∀ x y, x < n → y < n → I 75 (8 * x + y) = nI (D x y)) : ∃ J D', f_X11_layWays_67_l117 fuel (nI n) 0 I L = some (J, L) ∧ (∀ k, k ≠ 75 → J k = I k) ∧ (∀ x y, x < n → y < n → J 75 (8 * x + y) = nI (D' x y)) ∧ FW n n O E w D' := by
  obtain ⟨m', J, ⟨i1, D', i2, i3⟩, hF⟩ := loop_inv (F := fun f k (J : mI) => f_X11_layWays_67_l117 f (nI n) (nI k) J L) (n := n)
    (Inv := fun k J => (∀ c, c ≠ 75 → J c = I c) ∧ ∃ D, (∀ x y, x < n → y < n → J 75 (8 * x + y) = nI (D x y)) ∧ FW n k O E w D)
    (fun f k J hk hI => by
      obtain ⟨h1, D1, h2, h3⟩ := hI
      have hp : 2 ^ k ≤ 2 ^ 8 := Nat.pow_le_pow_right (by omega) (by omega)
      obtain ⟨J2, j1, j2, j3⟩ := lw_a (L := L) (f_X11_layWays_67_l117 f) hn hk (fun x y hx hy => by have := h3.1 x y hx hy; omega) h2
      refine ⟨J2, ⟨fun c hc => by rw [j2 c hc]; exact h1 c hc, fwD k D1, j3, h3.step hk hn (fun _ _ _ _ => rfl)⟩, ?_⟩
      show f_X11_layWays_67_l117 (f + 1) (nI n) (nI k) J L = _
      rw [f_X11_layWays_67_l117, if_neg (by rw [le_nI (by omega) (by omega)]; omega)]
      exact j1)
    n 0 I fuel (by omega) ⟨fun _ _ => rfl, D, h, hD⟩ (fuel_gt (by omega))
  have hF' : f_X11_layWays_67_l117 fuel (nI n) 0 I L = f_X11_layWays_67_l117 (m' + 1) (nI n) (nI n) J L := hF
  refine ⟨J, D', ?_, i1, i2, i3⟩
  rw [hF', f_X11_layWays_67_l117, if_pos (by rw [le_nI (by omega) (by omega)]; omega)]
/-- the rows at first -/
def D0 (v : mV) (ca m lg a b : Nat) : Nat := if wV v a m ≤ v (91 + ca) ∧ wV v b m ≤ v (91 + ca) then (if a = b then 0 else if rd v a b = 0 then 100000000 else wc (v (95 + ca)) lg (rd v) (fun p => wV v p m) a b) else 100000000
theorem lw_i {ca m lg a : Nat} (k11 : Int32 → Int32 → Int32 → Int32 → Int32 → mI → mL → rV) (hw : WF v) (hm : MH I 68 v) (hca : ca < v 2) (hm9 : m ≤ 99) (hlg : lg < 256) (ha : a < v 0) (h : ∀ x y, x < a → y < v 0 → I 75 (8 * x + y) = nI (D0 v ca m lg x y)) : ∃ J, f_X11_layWays_67_l21 k11 fuel (nI ca) (nI m) (nI lg) (nI (v 0)) (nI a) 0 I L = k11 (nI ca) (nI m) (nI lg) (nI (v 0)) (nI (a + 1)) J L ∧ (∀ k, k ≠ 75 → J k = I k) ∧ ∀ x y, x < a + 1 → y < v 0 → J 75 (8 * x + y) = nI (D0 v ca m lg x y) := by
  have sz := hw.sz
  obtain ⟨m', J, ⟨i1, i2⟩, hF⟩ := loop_inv (F := fun f k (J : mI) => f_X11_layWays_67_l21 k11 f (nI ca) (nI m) (nI lg) (nI (v 0)) (nI a) (nI k) J L) (n := v 0)
    (Inv := fun k J => (∀ c, c ≠ 75 → J c = I c) ∧ ∀ x y, x < a + 1 → y < v 0 → (x < a ∨ y < k) → J 75 (8 * x + y) = nI (D0 v ca m lg x y))
    (fun f k J hk hI => by
      have hmJ : MH J 68 v := hm.frame (hI.1 68 (by omega))
      refine ⟨uI J 75 (8 * a + k) (nI (D0 v ca m lg a k)), ⟨fun c hc => by rw [uI_cell hc]; exact hI.1 c hc, fun x y hx hy hz => ?_⟩, ?_⟩
      · rw [uI_at]
        by_cases q : x = a ∧ y = k
        · rw [if_pos ⟨rfl, by omega⟩, q.1, q.2]
        · rw [if_neg (by omega)]
          exact hI.2 x y hx hy (by omega)
      · show f_X11_layWays_67_l21 k11 (f + 1) (nI ca) (nI m) (nI lg) (nI (v 0)) (nI a) (nI k) J L = _
        rw [f_X11_layWays_67_l21, if_neg (by rw [le_nI (by omega) (by omega)]; omega), bears_eq hw hmJ hca hm9 ha, bears_eq hw hmJ hca hm9 hk, Option.bind_some, Option.bind_some]
        unfold D0
        have eb0 : ∀ s0 : Int32, s0 = 0 → f_X11_layWays_67_b55 J L k11 (f_X11_layWays_67_l21 k11 f) (nI ca) (nI m) (nI lg) (nI (v 0)) (nI a) (nI k) s0 = f_X11_layWays_67_l21 k11 f (nI ca) (nI m) (nI lg) (nI (v 0)) (nI a) (nI (k + 1)) (uI J 75 (8 * a + k) (nI 100000000)) L := by
          intro s0 hs0
          unfold f_X11_layWays_67_b55
          rw [if_pos hs0]
          simp (disch := omega) only [ck_nI, c_nI, le_n, lt_n, eq_n, lt_eq, Option.bind_some, bndI_some, bndV_some, bndL_some, inc_nI, nI_1, n_add, n_mul, orz, addz, q0, q2, q3, q4, q5, q6, q7, q8, q9, q10, q13, q14, q15, q20, q24, q46, q48, q61, q76, q91, q95, q99, q100, q105, q111, q117, q123, q129, eq1, le1, ge1, lt1, gt1, cl1]
          rfl
        by_cases q1 : wV v a m ≤ v (91 + ca)
        · rw [if_pos q1, if_neg (by decide)]
          by_cases q2 : wV v k m ≤ v (91 + ca)
          · rw [if_pos q2, if_neg (by decide), if_pos ⟨q1, q2⟩]
            unfold f_X11_layWays_67_b55
            rw [if_neg (by decide), costOf_eq hw hmJ hca hm9 hlg ha hk]
            simp (disch := omega) only [ck_nI, c_nI, le_n, lt_n, eq_n, lt_eq, Option.bind_some, bndI_some, bndV_some, bndL_some, inc_nI, nI_1, n_add, n_mul, orz, addz, q0, q2, q3, q4, q5, q6, q7, q8, q9, q10, q13, q14, q15, q20, q24, q46, q48, q61, q76, q91, q95, q99, q100, q105, q111, q117, q123, q129, eq1, le1, ge1, lt1, gt1, cl1]
            by_cases q3 : a = k
            · rw [if_pos q3, if_pos q3]
            · rw [if_neg q3, if_neg q3]
          · rw [if_neg q2, if_pos rfl, if_neg (fun z => q2 z.2)]
            unfold f_X11_layWays_67_b54
            exact eb0 0 rfl
        · rw [if_neg q1, if_pos rfl, if_neg (fun z => q1 z.1)]
          unfold f_X11_layWays_67_b54
          exact eb0 0 rfl)
    (v 0) 0 I fuel (by omega) ⟨fun _ _ => rfl, fun x y hx hy hz => h x y (by omega) hy⟩ (fuel_gt (by omega))
  have hF' : f_X11_layWays_67_l21 k11 fuel (nI ca) (nI m) (nI lg) (nI (v 0)) (nI a) 0 I L = f_X11_layWays_67_l21 k11 (m' + 1) (nI ca) (nI m) (nI lg) (nI (v 0)) (nI a) (nI (v 0)) J L := hF
  refine ⟨J, ?_, i1, fun x y hx hy => i2 x y hx hy (Or.inr hy)⟩
  rw [hF', f_X11_layWays_67_l21, if_pos (by rw [le_nI (by omega) (by omega)]; omega), lt_eq, inc_nI]
/-- bounds of what a cart and a mass make -/
theorem WF.rb (hw : WF v) {ca m lg : Nat} (hca : ca < v 2) (hm9 : m ≤ 99) (hlg : lg < 256) : RB (v 0) (v (91 + ca)) (v (95 + ca)) lg (rd v) (fun p => wV v p m) :=
  ⟨hw.1, (hw.cartb ca hca).1, (hw.cartb ca hca).2, hlg, fun a b _ _ => rd_le hw a b, fun a ha => by show wV v a m ≤ 990; have := wV_le hw ha (m := m); omega⟩
/-- least costs by a cart of a mass in a league -/
abbrev FWv (v : mV) (ca m lg : Nat) (D : Nat → Nat → Nat) : Prop := FW (v 0) (v 0) (oO (v (91 + ca)) (fun p => wV v p m)) (eE (rd v)) (wc (v (95 + ca)) lg (rd v) (fun p => wV v p m)) D
theorem layWays_eq {ca m lg : Nat} (hw : WF v) (hm : MH I 68 v) (hca : ca < v 2) (hm9 : m ≤ 99) (hlg : lg < 256) : ∃ J D, f_X11_layWays_67 I L (nI ca) (nI m) (nI lg) = some (J, L) ∧ (∀ k, k ≠ 75 → J k = I k) ∧ (∀ x y, x < v 0 → y < v 0 → J 75 (8 * x + y) = nI (D x y)) ∧ FWv v ca m lg D := by
  have sz := hw.sz
  unfold f_X11_layWays_67
  rw [cl0, hm.n 0 (by omega), lt_eq]
  obtain ⟨m', J, ⟨i1, i2⟩, hF⟩ := loop_inv (F := fun f k (J : mI) => f_X11_layWays_67_l11 f (nI ca) (nI m) (nI lg) (nI (v 0)) (nI k) J L) (n := v 0)
    (Inv := fun k J => (∀ c, c ≠ 75 → J c = I c) ∧ ∀ x y, x < k → y < v 0 → J 75 (8 * x + y) = nI (D0 v ca m lg x y))
    (fun f k J hk hI => by
      obtain ⟨J2, j1, j2, j3⟩ := lw_i (L := L) (f_X11_layWays_67_l11 f) hw (hm.frame (hI.1 68 (by omega))) hca hm9 hlg hk hI.2
      refine ⟨J2, ⟨fun c hc => by rw [j2 c hc]; exact hI.1 c hc, j3⟩, ?_⟩
      show f_X11_layWays_67_l11 (f + 1) (nI ca) (nI m) (nI lg) (nI (v 0)) (nI k) J L = _
      rw [f_X11_layWays_67_l11, if_neg (by rw [le_nI (by omega) (by omega)]; omega)]
      exact j1)
    (v 0) 0 I fuel (by omega) ⟨fun _ _ => rfl, fun x y hx => absurd hx (by omega)⟩ (fuel_gt (by omega))
  have hF' : f_X11_layWays_67_l11 fuel (nI ca) (nI m) (nI lg) (nI (v 0)) 0 I L = f_X11_layWays_67_l11 (m' + 1) (nI ca) (nI m) (nI lg) (nI (v 0)) (nI (v 0)) J L := hF
  have hB := hw.rb hca hm9 hlg
  obtain ⟨J2, D, j1, j2, j3, j4⟩ := lw_c (L := L) (O := oO (v (91 + ca)) (fun p => wV v p m)) (E := eE (rd v)) (w := wc (v (95 + ca)) lg (rd v) (fun p => wV v p m)) hw.1 (FW.start (wc_ok hB) (fun a b ha hb q => by unfold D0; rw [if_neg q]) (fun a ha q => by unfold D0; rw [if_pos ⟨q, q⟩, if_pos rfl]) (fun a b ha hb q1 q2 q3 => by
    by_cases z : rd v a b = 0
    · exact Or.inr ⟨fun y => y z, by unfold D0; rw [if_pos ⟨q1, q2⟩, if_neg q3, if_pos z]⟩
    · exact Or.inl ⟨z, by unfold D0; rw [if_pos ⟨q1, q2⟩, if_neg q3, if_neg z]⟩)) i2
  refine ⟨J2, D, ?_, fun k hk => by rw [j2 k hk, i1 k hk], j3, j4⟩
  rw [hF', f_X11_layWays_67_l11, if_pos (by rw [le_nI (by omega) (by omega)]; omega)]
  exact j1
end Ways
