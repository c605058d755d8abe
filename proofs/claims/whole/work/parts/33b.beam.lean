/-! beam -/
section Beam
variable {I : mI} {L : mL} {v : mV}
/-- a stone is as told -/
def okSt (P F : Int64) : Prop := (1 ≤ P.toInt ∧ P.toInt ≤ 99) ∧ (-6 ≤ F.toInt ∧ F.toInt ≤ 6) ∧ F.toInt ≠ 0
/-- what turns, up to the k-th -/
def tn (v : mV) (L : mL) (q i a b : Nat) : Nat → Int32
  | 0 => nI 0
  | k + 1 => tn v L q i a b k + nI (wV v (if (L (41 + q) (i + 2 * k + 1)).toInt < 0 then a else b) (L (41 + q) (i + 2 * k)).toInt.toNat) * (L (41 + q) (i + 2 * k + 1)).toInt32
theorem i32_t {F : Int64} (h : -2147483648 ≤ F.toInt ∧ F.toInt < 2147483648) : F.toInt32.toInt = F.toInt := by
  rw [Int64.toInt_toInt32]
  exact Int.bmod_eq_of_le (by omega) (by omega)
theorem tn_t (hw : WF v) {q i a b n : Nat} (ha : a < v 0) (hb : b < v 0) (hok : ∀ k, k < n → okSt (L (41 + q) (i + 2 * k)) (L (41 + q) (i + 2 * k + 1))) (hn : n ≤ 8) : ∀ k, k ≤ n → -(6000 * (k : Int)) ≤ (tn v L q i a b k).toInt ∧ (tn v L q i a b k).toInt ≤ 6000 * (k : Int) := by
  intro k
  induction k with
  | zero => intro _; show -(6000 * ((0 : Nat) : Int)) ≤ (nI 0).toInt ∧ (nI 0).toInt ≤ 6000 * ((0 : Nat) : Int); rw [t_nI (by omega)]; omega
  | succ k ih =>
    intro hk
    have i0 := ih (by omega)
    obtain ⟨o1, o2, o3⟩ := hok k (by omega)
    show -(6000 * ((k + 1 : Nat) : Int)) ≤ (tn v L q i a b k + nI (wV v (if (L (41 + q) (i + 2 * k + 1)).toInt < 0 then a else b) (L (41 + q) (i + 2 * k)).toInt.toNat) * (L (41 + q) (i + 2 * k + 1)).toInt32).toInt ∧ (tn v L q i a b k + nI (wV v (if (L (41 + q) (i + 2 * k + 1)).toInt < 0 then a else b) (L (41 + q) (i + 2 * k)).toInt.toNat) * (L (41 + q) (i + 2 * k + 1)).toInt32).toInt ≤ 6000 * ((k + 1 : Nat) : Int)
    have hp : (if (L (41 + q) (i + 2 * k + 1)).toInt < 0 then a else b) < v 0 := by split <;> assumption
    have wl := wV_le hw hp (m := (L (41 + q) (i + 2 * k)).toInt.toNat)
    have fe := i32_t (F := L (41 + q) (i + 2 * k + 1)) (by omega)
    generalize (L (41 + q) (i + 2 * k + 1)).toInt32 = X at *
    generalize (L (41 + q) (i + 2 * k + 1)).toInt = y at *
    generalize wV v (if y < 0 then a else b) (L (41 + q) (i + 2 * k)).toInt.toNat = w at *
    have hw9 : w ≤ 990 := by omega
    have em : (nI w * X).toInt = (w : Int) * y ∧ -5940 ≤ (w : Int) * y ∧ (w : Int) * y ≤ 5940 := by
      have hb : -5940 ≤ (w : Int) * y ∧ (w : Int) * y ≤ 5940 := by
        rcases (show y = -6 ∨ y = -5 ∨ y = -4 ∨ y = -3 ∨ y = -2 ∨ y = -1 ∨ y = 1 ∨ y = 2 ∨ y = 3 ∨ y = 4 ∨ y = 5 ∨ y = 6 by omega) with rfl | rfl | rfl | rfl | rfl | rfl | rfl | rfl | rfl | rfl | rfl | rfl <;> omega
      refine ⟨?_, hb⟩
      rw [Int32.toInt_mul, t_nI (by omega), fe]
      exact Int.bmod_eq_of_le (by omega) (by omega)
    rw [add_t (by rw [em.1]; omega) (by rw [em.1]; omega), em.1]
    omega
theorem l1c : (1 : Int64).toInt = 1 := by decide
theorem l6 : (6 : Int64).toInt = 6 := by decide
theorem lm6 : (-6 : Int64).toInt = -6 := by decide
theorem stones_ok {q i n : Nat} (hq : q < 4) (hn : i + 2 * n ≤ 24) : ((∀ k, k < n → okSt (L (41 + q) (i + 2 * k)) (L (41 + q) (i + 2 * k + 1))) ∧ f_X0_areStones_w I L q (nI i) (nI n) = some 1) ∨ ((¬ ∀ k, k < n → okSt (L (41 + q) (i + 2 * k)) (L (41 + q) (i + 2 * k + 1))) ∧ f_X0_areStones_w I L q (nI i) (nI n) = some 0) := by
  unfold f_X0_areStones_w
  have key : ∀ (d k f : Nat), k + d = n → d < f → (∀ j, j < k → okSt (L (41 + q) (i + 2 * j)) (L (41 + q) (i + 2 * j + 1))) → ((∀ k, k < n → okSt (L (41 + q) (i + 2 * k)) (L (41 + q) (i + 2 * k + 1))) ∧ f_X0_areStones_w_l2 I L f q (nI i) (nI n) (nI (i + 2 * k)) = some 1) ∨ ((¬ ∀ k, k < n → okSt (L (41 + q) (i + 2 * k)) (L (41 + q) (i + 2 * k + 1))) ∧ f_X0_areStones_w_l2 I L f q (nI i) (nI n) (nI (i + 2 * k)) = some 0) := by
    intro d
    induction d with
    | zero =>
      intro k f hk hf ho
      obtain ⟨f, rfl⟩ : ∃ j, f = j + 1 := ⟨f - 1, by omega⟩
      refine Or.inl ⟨fun j hj => ho j (by omega), ?_⟩
      rw [f_X0_areStones_w_l2, show (2 : Int32) * nI n = nI (2 * n) from n_mul 2 n, n_add, if_pos (by rw [le_nI (by omega) (by omega)]; omega)]
    | succ d ih =>
      intro k f hk hf ho
      obtain ⟨f, rfl⟩ : ∃ j, f = j + 1 := ⟨f - 1, by omega⟩
      have eF : f_X0_areStones_w_l2 I L (f + 1) q (nI i) (nI n) (nI (i + 2 * k)) = if (L (41 + q) (i + 2 * k)).toInt < 1 then some 0 else if 99 < (L (41 + q) (i + 2 * k)).toInt then some 0 else if (L (41 + q) (i + 2 * k + 1)).toInt < -6 then some 0 else if 6 < (L (41 + q) (i + 2 * k + 1)).toInt then some 0 else if (L (41 + q) (i + 2 * k + 1)).toInt = 0 then some 0 else f_X0_areStones_w_l2 I L f q (nI i) (nI n) (nI (i + 2 * (k + 1))) := by
        rw [f_X0_areStones_w_l2, show (2 : Int32) * nI n = nI (2 * n) from n_mul 2 n, n_add, if_neg (by rw [le_nI (by omega) (by omega)]; omega), show nI (i + 2 * k) + 1 = nI (i + 2 * k + 1) from n_add _ 1, ck_nI (by omega) (by omega), lt_eq, ck_nI (by omega) (by omega), ck_nI (by omega) (by omega), c_nI (by omega), c_nI (by omega), inc2_nI, lt_eq]
        simp only [lgc_lt, lgc_gt, lgc_eq, l1c, l99, l6, lm6, z64]
        rfl
      rw [eF]
      have bad : ¬ okSt (L (41 + q) (i + 2 * k)) (L (41 + q) (i + 2 * k + 1)) → ∀ X : Option Int32, X = some 0 → ((∀ k, k < n → okSt (L (41 + q) (i + 2 * k)) (L (41 + q) (i + 2 * k + 1))) ∧ X = some 1) ∨ ((¬ ∀ k, k < n → okSt (L (41 + q) (i + 2 * k)) (L (41 + q) (i + 2 * k + 1))) ∧ X = some 0) := fun hb X hX => Or.inr ⟨fun z => hb (z k (by omega)), hX⟩
      unfold okSt at bad
      by_cases c1 : (L (41 + q) (i + 2 * k)).toInt < 1
      · rw [if_pos c1]; exact bad (fun z => by omega) _ rfl
      · rw [if_neg c1]
        by_cases c2 : 99 < (L (41 + q) (i + 2 * k)).toInt
        · rw [if_pos c2]; exact bad (fun z => by omega) _ rfl
        · rw [if_neg c2]
          by_cases c3 : (L (41 + q) (i + 2 * k + 1)).toInt < -6
          · rw [if_pos c3]; exact bad (fun z => by omega) _ rfl
          · rw [if_neg c3]
            by_cases c4 : 6 < (L (41 + q) (i + 2 * k + 1)).toInt
            · rw [if_pos c4]; exact bad (fun z => by omega) _ rfl
            · rw [if_neg c4]
              by_cases c5 : (L (41 + q) (i + 2 * k + 1)).toInt = 0
              · rw [if_pos c5]; exact bad (fun z => by omega) _ rfl
              · rw [if_neg c5]
                refine ih (k + 1) f (by omega) (by omega) (fun j hj => ?_)
                by_cases e : j = k
                · subst e; exact ⟨by omega, by omega, c5⟩
                · exact ho j (by omega)
  exact key n 0 fuel (by omega) (fuel_gt (by omega)) (fun j hj => absurd hj (by omega))
theorem turn_eq (hw : WF v) (hc : CH I 0 v) {q i n a b : Nat} (hq : q < 4) (hn : i + 2 * n ≤ 24) (ha : a < v 0) (hb : b < v 0) (hok : ∀ k, k < n → okSt (L (41 + q) (i + 2 * k)) (L (41 + q) (i + 2 * k + 1))) : f_X0_turning_1_w I L (nI a) (nI b) q (nI i) (nI n) = some (tn v L q i a b n) := by
  have sz := hw.sz
  unfold f_X0_turning_1_w
  have key : ∀ (d k f : Nat), k + d = n → d < f → f_X0_turning_1_w_l7 I L f (nI a) (nI b) q (nI i) (nI n) (tn v L q i a b k) (nI (i + 2 * k)) = some (tn v L q i a b n) := by
    intro d
    induction d with
    | zero =>
      intro k f hk hf
      obtain ⟨f, rfl⟩ : ∃ j, f = j + 1 := ⟨f - 1, by omega⟩
      have : k = n := by omega
      subst this
      rw [f_X0_turning_1_w_l7, show (2 : Int32) * nI k = nI (2 * k) from n_mul 2 k, n_add, if_pos (by rw [le_nI (by omega) (by omega)]; omega)]
    | succ d ih =>
      intro k f hk hf
      obtain ⟨f, rfl⟩ : ∃ j, f = j + 1 := ⟨f - 1, by omega⟩
      obtain ⟨o1, o2, o3⟩ := hok k (by omega)
      have fe := i32_t (F := L (41 + q) (i + 2 * k + 1)) (by omega)
      have eP : (L (41 + q) (i + 2 * k)).toInt32 = nI (L (41 + q) (i + 2 * k)).toInt.toNat := l2i (by omega) (by omega)
      have b41 : ∀ p, p < v 0 → p = (if (L (41 + q) (i + 2 * k + 1)).toInt < 0 then a else b) → f_X0_turning_1_w_b41 I L (f_X0_turning_1_w_l7 I L f) (nI a) (nI b) q (nI i) (nI n) (nI (i + 2 * k)) (L (41 + q) (i + 2 * k + 1)).toInt32 (nI p) (tn v L q i a b k) = some (tn v L q i a b n) := by
        intro p hp e
        unfold f_X0_turning_1_w_b41
        rw [ck_nI (by omega) (by omega), c_nI (by omega), eP, weightAt_eq hw hc hp (by omega), Option.bind_some, lt_eq, lt_eq, inc2_nI, e]
        exact ih (k + 1) f (by omega) (by omega)
      rw [f_X0_turning_1_w_l7, show (2 : Int32) * nI n = nI (2 * n) from n_mul 2 n, n_add, if_neg (by rw [le_nI (by omega) (by omega)]; omega), show nI (i + 2 * k) + 1 = nI (i + 2 * k + 1) from n_add _ 1, ck_nI (by omega) (by omega), lt_eq, c_nI (by omega)]
      have z0 : (0 : Int32).toInt = 0 := by decide
      by_cases c : (L (41 + q) (i + 2 * k + 1)).toInt < 0
      · rw [if_neg (by rw [Int32.le_iff_toInt_le, fe, z0]; omega)]
        exact b41 a ha (by rw [if_pos c])
      · rw [if_pos (by rw [Int32.le_iff_toInt_le, fe, z0]; omega)]
        exact b41 b hb (by rw [if_neg c])
  exact key n 0 fuel (by omega) (fuel_gt (by omega))
theorem mbeam (hw : WF v) (hm : MH I 68 v) {q i n a b : Nat} {w : Int32} (hq : q < 4) (hrow : ∀ j, j < 24 → L (41 + q) j = L 73 (24 * q + j)) (hn : i + 2 * n ≤ 24) (ha : a < v 0) (hb : b < v 0) : ((∀ k, k < n → okSt (L (41 + q) (i + 2 * k)) (L (41 + q) (i + 2 * k + 1))) → f_X11_beam_67_l87 I L fuel (nI a) (nI b) (nI q) (nI i) (nI n) w 0 0 = if w = 0 then some (tn v L q i a b n) else ((f_X11_evens_67 I L (tn v L q i a b n) (nI (wV v a 1)) (nI (wV v b 1))).bind (fun r10 => if r10 = (-4) then (some (-1000004)) else (some r10)))) ∧ ((¬ ∀ k, k < n → okSt (L (41 + q) (i + 2 * k)) (L (41 + q) (i + 2 * k + 1))) → f_X11_beam_67_l87 I L fuel (nI a) (nI b) (nI q) (nI i) (nI n) w 0 0 = some (-1000002)) := by
  have sz := hw.sz
  have step : ∀ k f, k < n → f_X11_beam_67_l87 I L (f + 1) (nI a) (nI b) (nI q) (nI i) (nI n) w (tn v L q i a b k) (nI k) = if 1 ≤ (L (41 + q) (i + 2 * k)).toInt ∧ (L (41 + q) (i + 2 * k)).toInt ≤ 99 then (if -6 ≤ (L (41 + q) (i + 2 * k + 1)).toInt ∧ (L (41 + q) (i + 2 * k + 1)).toInt ≤ 6 then (if (L (41 + q) (i + 2 * k + 1)).toInt = 0 then some (-1000002) else f_X11_beam_67_l87 I L f (nI a) (nI b) (nI q) (nI i) (nI n) w (tn v L q i a b (k + 1)) (nI (k + 1))) else some (-1000002)) else some (-1000002) := by
    intro k f hk
    have r1 : L 73 (24 * q + i + 2 * k) = L (41 + q) (i + 2 * k) := by rw [hrow _ (by omega)]; congr 1; omega
    have r2 : L 73 (24 * q + i + 2 * k + 1) = L (41 + q) (i + 2 * k + 1) := by rw [hrow _ (by omega)]; congr 1; omega
    rw [f_X11_beam_67_l87, if_neg (by rw [le_nI (by omega) (by omega)]; omega), show (24 : Int32) * nI q = nI (24 * q) from n_mul 24 q, n_add, show (2 : Int32) * nI k = nI (2 * k) from n_mul 2 k, n_add, show nI (24 * q + i + 2 * k) + 1 = nI (24 * q + i + 2 * k + 1) from n_add _ 1, ck_nI (by omega) (by omega), lt_eq, ck_nI (by omega) (by omega), lt_eq, c_nI (by omega), c_nI (by omega), r1, r2, in_eq, in_eq, l1c, l99, l6, lm6]
    simp only [Option.bind_some, bit_ite, lgc_eq, lgc_ge, z64]
    by_cases c1 : 1 ≤ (L (41 + q) (i + 2 * k)).toInt ∧ (L (41 + q) (i + 2 * k)).toInt ≤ 99
    · rw [if_pos c1, if_pos c1]
      by_cases c2 : -6 ≤ (L (41 + q) (i + 2 * k + 1)).toInt ∧ (L (41 + q) (i + 2 * k + 1)).toInt ≤ 6
      · rw [if_pos c2, if_pos c2]
        by_cases c3 : (L (41 + q) (i + 2 * k + 1)).toInt = 0
        · rw [if_pos c3, if_pos c3]
        · rw [if_neg c3, if_neg c3]
          have eP : (L (41 + q) (i + 2 * k)).toInt32 = nI (L (41 + q) (i + 2 * k)).toInt.toNat := l2i (by omega) (by omega)
          have b185 : ∀ p, p < v 0 → p = (if (L (41 + q) (i + 2 * k + 1)).toInt < 0 then a else b) → f_X11_beam_67_b185 I L (f_X11_beam_67_l87 I L f) (nI a) (nI b) (nI q) (nI i) (nI n) w (nI k) (L (41 + q) (i + 2 * k)) (L (41 + q) (i + 2 * k + 1)) (nI p) (tn v L q i a b k) = f_X11_beam_67_l87 I L f (nI a) (nI b) (nI q) (nI i) (nI n) w (tn v L q i a b (k + 1)) (nI (k + 1)) := by
            intro p hp e
            unfold f_X11_beam_67_b185
            rw [eP, mweight_eq hw hm hp (by omega), Option.bind_some, lt_eq, lt_eq, inc_nI, e]
            rfl
          by_cases c : (L (41 + q) (i + 2 * k + 1)).toInt < 0
          · rw [if_neg (by omega)]
            exact b185 a ha (by rw [if_pos c])
          · rw [if_pos (by omega)]
            exact b185 b hb (by rw [if_neg c])
      · rw [if_neg c2, if_neg c2]
    · rw [if_neg c1, if_neg c1]
  constructor
  · intro hok
    have key : ∀ (d k f : Nat), k + d = n → d < f → f_X11_beam_67_l87 I L f (nI a) (nI b) (nI q) (nI i) (nI n) w (tn v L q i a b k) (nI k) = if w = 0 then some (tn v L q i a b n) else ((f_X11_evens_67 I L (tn v L q i a b n) (nI (wV v a 1)) (nI (wV v b 1))).bind (fun r10 => if r10 = (-4) then (some (-1000004)) else (some r10))) := by
      intro d
      induction d with
      | zero =>
        intro k f hk hf
        obtain ⟨f, rfl⟩ : ∃ j, f = j + 1 := ⟨f - 1, by omega⟩
        have : k = n := by omega
        subst this
        rw [f_X11_beam_67_l87, if_pos (by rw [le_nI (by omega) (by omega)]; omega), show (1 : Int32) = nI 1 from rfl, mweight_eq hw hm ha (by omega), mweight_eq hw hm hb (by omega), Option.bind_some, Option.bind_some]
      | succ d ih =>
        intro k f hk hf
        obtain ⟨f, rfl⟩ : ∃ j, f = j + 1 := ⟨f - 1, by omega⟩
        obtain ⟨o1, o2, o3⟩ := hok k (by omega)
        rw [step k f (by omega), if_pos o1, if_pos o2, if_neg o3]
        exact ih (k + 1) f (by omega) (by omega)
    exact key n 0 fuel (by omega) (fuel_gt (by omega))
  · intro hno
    have key : ∀ (d k f : Nat), k + d = n → d < f → (∀ j, j < k → okSt (L (41 + q) (i + 2 * j)) (L (41 + q) (i + 2 * j + 1))) → f_X11_beam_67_l87 I L f (nI a) (nI b) (nI q) (nI i) (nI n) w (tn v L q i a b k) (nI k) = some (-1000002) := by
      intro d
      induction d with
      | zero => intro k f hk hf ho; exact absurd (fun j hj => ho j (by omega)) hno
      | succ d ih =>
        intro k f hk hf ho
        obtain ⟨f, rfl⟩ : ∃ j, f = j + 1 := ⟨f - 1, by omega⟩
        rw [step k f (by omega)]
        by_cases c1 : 1 ≤ (L (41 + q) (i + 2 * k)).toInt ∧ (L (41 + q) (i + 2 * k)).toInt ≤ 99
        · rw [if_pos c1]
          by_cases c2 : -6 ≤ (L (41 + q) (i + 2 * k + 1)).toInt ∧ (L (41 + q) (i + 2 * k + 1)).toInt ≤ 6
          · rw [if_pos c2]
            by_cases c3 : (L (41 + q) (i + 2 * k + 1)).toInt = 0
            · rw [if_pos c3]
            · rw [if_neg c3]
              refine ih (k + 1) f (by omega) (by omega) (fun j hj => ?_)
              by_cases e : j = k
              · subst e; exact ⟨c1, c2, c3⟩
              · exact ho j (by omega)
          · rw [if_neg c2]
        · rw [if_neg c1]
    exact key n 0 fuel (by omega) (fuel_gt (by omega)) (fun j hj => absurd hj (by omega))
theorem low_eq (r : Int32) : (-1000000 : Int32) + r = r - 1000000 := by
  rw [Int32.sub_eq_add_neg, Int32.add_comm]
theorem st_beam {a1 a2 a3 a4 a5 a6 a7 : Int32} (h : Rel I L) : St_beam Rel I L a1 a2 a3 a4 a5 a6 a7 := by
  obtain ⟨⟨v, hw, hm, hc⟩, hr2⟩ := id h
  have sz := hw.sz
  have hs := h.2.2.2
  unfold St_beam f_X10_beam_0 f_X11_beam_67
  rw [hasParish_n hc.c0 (by omega), hasParish_n hc.c0 (by omega), isLaneC_n, within_l 0 8 (by decide) (by decide), within_l 0 1 (by decide) (by decide), isParish_n (hm 0 (by omega)) (by omega), isParish_n (hm 0 (by omega)) (by omega), isSheetM_n, isLaneM_n, in_l 0 8 (by decide) (by decide), isTwo_n]
  simp only [Option.bind_some, bit_ite]
  by_cases p1 : 0 ≤ a1.toInt ∧ a1.toInt < (v 0 : Int)
  · rw [if_pos p1, if_pos p1]
    by_cases p2 : 0 ≤ a2.toInt ∧ a2.toInt < (v 0 : Int)
    · rw [if_pos p2, if_pos p2]
      by_cases h1 : 0 ≤ a3.toInt ∧ a3.toInt ≤ 3
      · by_cases h2 : 0 ≤ a4.toInt ∧ a4.toInt ≤ 2
        · rw [if_pos ⟨h1, h2⟩, if_pos h1, if_pos h2]
          by_cases h3 : 0 ≤ a6.toInt ∧ a6.toInt ≤ 8
          · rw [if_pos h3, if_pos h3]
            by_cases h4 : 0 ≤ a7.toInt ∧ a7.toInt ≤ 1
            · rw [if_pos h4, if_pos h4]
              obtain ⟨a, ha, rfl, -⟩ := ofI p1.1 p1.2
              obtain ⟨b, hb, rfl, -⟩ := ofI p2.1 p2.2
              obtain ⟨q, hq, rfl, -⟩ := ofI (a := a3) (n := 4) h1.1 (by omega)
              obtain ⟨n, hn9, rfl, gn⟩ := ofI (a := a6) (n := 9) (by omega) (by omega)
              obtain ⟨r, e1, e2, hr⟩ := fault_eq hq (hs q hq) a4 a5 (2 * nI n)
              rw [e1, e2, Option.bind_some, Option.bind_some]
              rcases hr with hr | ⟨rfl, k7, i, m, n', rfl, em, him, hn, -, -, ⟨c, hc3, rfl, k4, k5⟩, k6⟩
              · rw [if_neg hr, if_neg hr]
                exact ⟨_, rfl, by rw [low_eq], h⟩
              · rw [q2, n_mul, eq_n (by omega) (by omega)] at em
                subst em
                rw [if_pos (by decide), if_pos (by decide), ck_nI hq (by omega), c_nI (by omega)]
                obtain ⟨g1, g2⟩ := mbeam (I := I) (L := L) (w := a7) hw hm hq k6 (show i + 2 * n ≤ 24 by omega) ha hb
                rcases stones_ok (I := I) (L := L) hq (show i + 2 * n ≤ 24 by omega) with ⟨ok, es⟩ | ⟨ok, es⟩
                · rw [es, g1 ok, Option.bind_some, if_neg (by decide), turn_eq hw hc hq (by omega) ha hb ok, Option.bind_some]
                  by_cases z : a7 = 0
                  · rw [if_pos z, if_pos z]; exact ⟨_, rfl, rfl, h⟩
                  · rw [if_neg z, if_neg z, show (1 : Int32) = nI 1 from rfl, weightAt_eq hw hc ha (by omega), weightAt_eq hw hc hb (by omega), Option.bind_some, Option.bind_some]
                    have tt := tn_t (L := L) hw ha hb ok (by omega) n (Nat.le_refl _)
                    have w1 := wV_le hw ha (m := 1)
                    have w2 := wV_le hw hb (m := 1)
                    obtain ⟨x, y, u, u1, u2, u3, u4⟩ := even_same (I := I) (L := L) (T := tn v L q i a b n) rfl (by omega) (show wV v a 1 ≤ 10 by omega) (show wV v b 1 ≤ 10 by omega)
                    rw [u1, u2, Option.bind_some, Option.bind_some]
                    exact ⟨u, u3, u4, h⟩
                · rw [es, g2 ok, Option.bind_some, if_pos rfl]
                  exact ⟨_, rfl, rfl, h⟩
            · rw [if_neg h4, if_neg h4]; exact ⟨_, rfl, rfl, h⟩
          · rw [if_neg h3, if_neg h3]; exact ⟨_, rfl, rfl, h⟩
        · rw [if_neg (fun z => h2 z.2), if_pos h1, if_neg h2]; exact ⟨_, rfl, rfl, h⟩
      · rw [if_neg (fun z => h1 z.1), if_neg h1]; exact ⟨_, rfl, rfl, h⟩
    · rw [if_neg p2, if_neg p2]; exact ⟨_, rfl, rfl, h⟩
  · rw [if_neg p1, if_neg p1]; exact ⟨_, rfl, rfl, h⟩
end Beam
