/-! road -/
/-- road r joins a and b -/
def En (v : mV) (r a b : Nat) : Prop := (v (46 + r) = a ∧ v (61 + r) = b) ∨ (v (46 + r) = b ∧ v (61 + r) = a)
theorem roadOf_eq {I : mI} {L : mL} {v : mV} (hm : MH I 68 v) (h1 : v 1 ≤ 15) (hb : ∀ r, r < v 1 → v (46 + r) < 8 ∧ v (61 + r) < 8) {a b : Nat} (ha : a < 2147483648) (hbb : b < 2147483648) : ∃ x, f_X11_roadOf_67 I L (nI a) (nI b) = some x ∧ ((x = -1 ∧ ∀ r, r < v 1 → ¬ En v r a b) ∨ (∃ r, r < v 1 ∧ En v r a b ∧ x = nI r)) := by
  have hl := loop_inv (F := fun m k x => f_X11_roadOf_67_l5 I L m (nI a) (nI b) x (nI k)) (n := v 1) (Inv := fun k x => (x = -1 ∧ ∀ r, r < k → ¬ En v r a b) ∨ (∃ r, r < k ∧ En v r a b ∧ x = nI r)) (fun m k x hk hI => ?_) (v 1) 0 (-1) fuel (by omega) (Or.inl ⟨rfl, fun r hr => absurd hr (by omega)⟩) (fuel_gt (by omega))
  · obtain ⟨m', x, hI, e⟩ := hl
    refine ⟨x, ?_, hI⟩
    unfold f_X11_roadOf_67
    rw [show (0 : Int32) = nI 0 from rfl]
    refine e.trans ?_
    rw [f_X11_roadOf_67_l5]
    simp (disch := omega) only [ck_nI, c_nI, le_n, lt_n, eq_n, lt_eq, Option.bind_some, bndI_some, bndV_some, bndL_some, inc_nI, nI_1, n_add, n_mul, orz, addz, q0, q2, q3, q4, q5, q6, q7, q8, q9, q10, q13, q14, q15, q20, q24, q46, q48, q61, q76, q91, q95, q99, q100, q105, q111, q117, q123, q129, eq1, le1, ge1, lt1, gt1, cl1, hm.n, Nat.le_refl, if_true]
  · have hr := hb k hk
    by_cases q : En v k a b
    · refine ⟨nI k, Or.inr ⟨k, by omega, q, rfl⟩, ?_⟩
      show f_X11_roadOf_67_l5 I L (m + 1) (nI a) (nI b) x (nI k) = f_X11_roadOf_67_l5 I L m (nI a) (nI b) (nI k) (nI (k + 1))
      rw [f_X11_roadOf_67_l5]
      unfold f_X11_roadOf_67_b44 f_X11_roadOf_67_b72 f_X11_roadOf_67_b76 f_X11_roadOf_67_b77
      simp (disch := omega) only [ck_nI, c_nI, le_n, lt_n, eq_n, lt_eq, Option.bind_some, bndI_some, bndV_some, bndL_some, inc_nI, nI_1, n_add, n_mul, orz, addz, q0, q2, q3, q4, q5, q6, q7, q8, q9, q10, q13, q14, q15, q20, q24, q46, q48, q61, q76, q91, q95, q99, q100, q105, q111, q117, q123, q129, eq1, le1, ge1, lt1, gt1, cl1, hm.n, show ¬ v 1 ≤ k by omega, if_false, show ¬ (1 : Int32) = nI 0 by decide]
      unfold En at q
      by_cases q1 : v (46 + k) = a
      · by_cases q2 : v (61 + k) = b
        · simp only [q1, q2, if_true]
        · have q3 : v (46 + k) = b := by omega
          have q4 : v (61 + k) = a := by omega
          simp only [q1, q2, q3, q4, if_true, if_false]
          simp only [show a = b by omega, if_true]
      · have q3 : v (46 + k) = b := by omega
        have q4 : v (61 + k) = a := by omega
        simp only [q1, q3, q4, if_true, if_false]
        simp only [show ¬ b = a by omega, if_false]
    · refine ⟨x, ?_, ?_⟩
      · rcases hI with ⟨e, h2⟩ | ⟨r, h2, h3, h4⟩
        · exact Or.inl ⟨e, fun r hr => by
            by_cases e2 : r = k
            · subst e2; exact q
            · exact h2 r (by omega)⟩
        · exact Or.inr ⟨r, by omega, h3, h4⟩
      · show f_X11_roadOf_67_l5 I L (m + 1) (nI a) (nI b) x (nI k) = f_X11_roadOf_67_l5 I L m (nI a) (nI b) x (nI (k + 1))
        rw [f_X11_roadOf_67_l5]
        unfold f_X11_roadOf_67_b44 f_X11_roadOf_67_b72 f_X11_roadOf_67_b76 f_X11_roadOf_67_b77
        simp (disch := omega) only [ck_nI, c_nI, le_n, lt_n, eq_n, lt_eq, Option.bind_some, bndI_some, bndV_some, bndL_some, inc_nI, nI_1, n_add, n_mul, orz, addz, q0, q2, q3, q4, q5, q6, q7, q8, q9, q10, q13, q14, q15, q20, q24, q46, q48, q61, q76, q91, q95, q99, q100, q105, q111, q117, q123, q129, eq1, le1, ge1, lt1, gt1, cl1, hm.n, show ¬ v 1 ≤ k by omega, if_false, if_true]
        unfold En at q
        by_cases q1 : v (46 + k) = a
        · have q2 : ¬ v (61 + k) = b := by omega
          simp only [q1, q2, if_true, if_false]
          by_cases q3 : a = b
          · simp only [q3, if_true, show ¬ v (61 + k) = b by omega, if_false]
          · simp only [q3, if_false]
        · simp only [q1, if_false]
          by_cases q3 : v (46 + k) = b
          · simp only [q3, if_true, show ¬ v (61 + k) = a by omega, if_false]
          · simp only [q3, if_false]
theorem min_nI {a b : Nat} (ha : a < 2147483648) (hb : b < 2147483648) : (if nI b < nI a then nI b else nI a) = nI (min a b) := by
  simp only [lt_n hb ha]
  by_cases h : b < a
  · rw [if_pos h, Nat.min_eq_right (by omega)]
  · rw [if_neg h, Nat.min_eq_left (by omega)]
theorem max_nI {a b : Nat} (ha : a < 2147483648) (hb : b < 2147483648) : (if nI a < nI b then nI b else nI a) = nI (max a b) := by
  simp only [lt_n ha hb]
  by_cases h : a < b
  · rw [if_pos h, Nat.max_eq_right (by omega)]
  · rw [if_neg h, Nat.max_eq_left (by omega)]
theorem En_mm {v : mV} {r a b : Nat} (h : v (46 + r) < v (61 + r)) : En v r a b ↔ v (46 + r) = min a b ∧ v (61 + r) = max a b := by
  unfold En
  rcases Nat.lt_or_ge a b with q | q
  · rw [Nat.min_eq_left (by omega), Nat.max_eq_right (by omega)]; omega
  · rw [Nat.min_eq_right (by omega), Nat.max_eq_left (by omega)]; omega
theorem joins_eq {I : mI} {L : mL} {v : mV} (hw : WF v) (hc : CH I 0 v) {a b : Nat} (ha : a < 8) (hb : b < 8) : ((∃ r, r < v 1 ∧ En v r a b) ∧ f_X3_joins_2 I L (nI a) (nI b) = some 1) ∨ ((∀ r, r < v 1 → ¬ En v r a b) ∧ f_X3_joins_2 I L (nI a) (nI b) = some 0) := by
  have sz := hw.sz
  have key : ∀ d k m : Nat, k + d = v 1 → d < m → (∀ r, r < k → ¬ En v r a b) → ((∃ r, r < v 1 ∧ En v r a b) ∧ f_X3_joins_2_l2 I L m (nI a) (nI b) (nI k) = some 1) ∨ ((∀ r, r < v 1 → ¬ En v r a b) ∧ f_X3_joins_2_l2 I L m (nI a) (nI b) (nI k) = some 0) := by
    intro d
    induction d with
    | zero =>
      intro k m hk hm hn
      obtain ⟨m, rfl⟩ : ∃ j, m = j + 1 := ⟨m - 1, by omega⟩
      refine Or.inr ⟨fun r hr => hn r (by omega), ?_⟩
      rw [f_X3_joins_2_l2]
      simp (disch := omega) only [ck_nI, c_nI, le_n, lt_n, eq_n, lt_eq, Option.bind_some, bndI_some, bndV_some, bndL_some, inc_nI, nI_1, n_add, n_mul, orz, addz, q0, q2, q3, q4, q5, q6, q7, q8, q9, q10, q13, q14, q15, q20, q24, q46, q48, q61, q76, q91, q95, q99, q100, q105, q111, q117, q123, q129, eq1, le1, ge1, lt1, gt1, cl1, hc.c1, show v 1 ≤ k by omega, if_true]
    | succ d ih =>
      intro k m hk hm hn
      obtain ⟨m, rfl⟩ : ∃ j, m = j + 1 := ⟨m - 1, by omega⟩
      have hr := hw.roadb k (by omega)
      have mn : min a b < 2147483648 := by omega
      have mx : max a b < 2147483648 := by omega
      by_cases q : En v k a b
      · refine Or.inl ⟨⟨k, by omega, q⟩, ?_⟩
        rw [En_mm hr.1] at q
        rw [f_X3_joins_2_l2, min_nI (by omega) (by omega), max_nI (by omega) (by omega)]
        simp (disch := omega) only [ck_nI, c_nI, le_n, lt_n, eq_n, lt_eq, Option.bind_some, bndI_some, bndV_some, bndL_some, inc_nI, nI_1, n_add, n_mul, orz, addz, q0, q2, q3, q4, q5, q6, q7, q8, q9, q10, q13, q14, q15, q20, q24, q46, q48, q61, q76, q91, q95, q99, q100, q105, q111, q117, q123, q129, eq1, le1, ge1, lt1, gt1, cl1, hc.c1, hc.rone hw, hc.roth hw, show ¬ v 1 ≤ k by omega, if_false, q.1, q.2, if_true]
      · have hn' : ∀ r, r < k + 1 → ¬ En v r a b := fun r hr => by
          by_cases e2 : r = k
          · subst e2; exact q
          · exact hn r (by omega)
        have e : f_X3_joins_2_l2 I L (m + 1) (nI a) (nI b) (nI k) = f_X3_joins_2_l2 I L m (nI a) (nI b) (nI (k + 1)) := by
          rw [En_mm hr.1] at q
          rw [f_X3_joins_2_l2, min_nI (by omega) (by omega), max_nI (by omega) (by omega)]
          simp (disch := omega) only [ck_nI, c_nI, le_n, lt_n, eq_n, lt_eq, Option.bind_some, bndI_some, bndV_some, bndL_some, inc_nI, nI_1, n_add, n_mul, orz, addz, q0, q2, q3, q4, q5, q6, q7, q8, q9, q10, q13, q14, q15, q20, q24, q46, q48, q61, q76, q91, q95, q99, q100, q105, q111, q117, q123, q129, eq1, le1, ge1, lt1, gt1, cl1, hc.c1, hc.rone hw, hc.roth hw, show ¬ v 1 ≤ k by omega, if_false]
          by_cases q1 : v (46 + k) = min a b
          · simp only [q1, if_true, show ¬ v (61 + k) = max a b from fun z => q ⟨q1, z⟩, if_false]
          · simp only [q1, if_false]
        rw [e]
        exact ih (k + 1) m (by omega) (by omega) hn'
  exact key (v 1) 0 fuel (by omega) (fuel_gt (by omega)) (fun r hr => absurd hr (by omega))
theorem addRoad_eq {I : mI} {L : mL} {c : Int32} {n a b : Nat} (h : I 2 6 = nI n) (hn : n < 15) (ha : a < 8) (hb : b < 8) : f_X3_addRoad_2 I L (nI a) (nI b) c = some (nI n, uI (uI (uI (uI I 5 n (nI (min a b))) 6 n (nI (max a b))) 7 n c) 2 6 (nI (n + 1)), L) := by
  unfold f_X3_addRoad_2
  rw [min_nI (by omega) (by omega), max_nI (by omega) (by omega)]
  simp (disch := omega) only [ck_nI, c_nI, le_n, lt_n, eq_n, lt_eq, Option.bind_some, bndI_some, bndV_some, bndL_some, inc_nI, nI_1, n_add, n_mul, orz, addz, q0, q2, q3, q4, q5, q6, q7, q8, q9, q10, q13, q14, q15, q20, q24, q46, q48, q61, q76, q91, q95, q99, q100, q105, q111, q117, q123, q129, eq1, le1, ge1, lt1, gt1, cl1, h]
  rw [uI_cell (by omega), uI_cell (by omega), uI_cell (by omega), h, nI_1]
theorem WF.road {v : mV} (h : WF v) {a b c : Nat} (hn : v 1 < 15) (hab : a < b) (hb : b < v 0) (hc : c ≤ 9) (hne : ∀ r, r < v 1 → ¬ (v (46 + r) = a ∧ v (61 + r) = b)) : WF (vus v [(46 + v 1, a), (61 + v 1, b), (76 + v 1, c), (1, v 1 + 1)]) := by
  obtain ⟨h0, h1, h2, h3, h4, h5, h6, h7, h8, h9, h10, h11, h12⟩ := h
  generalize hv' : vus v [(46 + v 1, a), (61 + v 1, b), (76 + v 1, c), (1, v 1 + 1)] = w
  have e : ∀ j, j ≠ 1 → j ≠ 46 + v 1 → j ≠ 61 + v 1 → j ≠ 76 + v 1 → w j = v j := fun j a1 a2 a3 a4 => by rw [← hv']; simp [vus, vu, a1, a2, a3, a4]
  have e1 : w 1 = v 1 + 1 := by rw [← hv']; simp [vus, vu]
  have ea : w (46 + v 1) = a := by
    rw [← hv']; simp only [vus]
    rw [vu_n (by omega), vu_n (by omega), vu_n (by omega), vu_s]
  have eb : w (61 + v 1) = b := by
    rw [← hv']; simp only [vus]
    rw [vu_n (by omega), vu_n (by omega), vu_s]
  have ec : w (76 + v 1) = c := by
    rw [← hv']; simp only [vus]
    rw [vu_n (by omega), vu_s]
  unfold WF
  rw [e 0 (by omega) (by omega) (by omega) (by omega), e1, e 2 (by omega) (by omega) (by omega) (by omega), e 3 (by omega) (by omega) (by omega) (by omega), e 4 (by omega) (by omega) (by omega) (by omega), e 5 (by omega) (by omega) (by omega) (by omega)]
  refine ⟨h0, by omega, h2, h3, h4, h5, fun j hj => ?_, fun j hj => ?_, fun j hj => ?_, fun i j hi hj => ?_, fun j hj => ?_, fun j hj => ?_, fun j hj => ?_⟩
  · rw [e _ (by omega) (by omega) (by omega) (by omega)]; exact h6 j hj
  · rw [e _ (by omega) (by omega) (by omega) (by omega)]; exact h7 j hj
  · by_cases q : j = v 1
    · subst q; rw [ea, eb, ec]; exact ⟨hab, hb, hc⟩
    · rw [e _ (by omega) (by omega) (by omega) (by omega), e _ (by omega) (by omega) (by omega) (by omega), e _ (by omega) (by omega) (by omega) (by omega)]; exact h8 j (by omega)
  · by_cases qi : i = v 1
    · by_cases qj : j = v 1
      · intro _ _; omega
      · subst qi
        rw [ea, eb, e _ (by omega) (by omega) (by omega) (by omega), e _ (by omega) (by omega) (by omega) (by omega)]
        intro x y; exact absurd ⟨x.symm, y.symm⟩ (hne j (by omega))
    · by_cases qj : j = v 1
      · subst qj
        rw [ea, eb, e _ (by omega) (by omega) (by omega) (by omega), e _ (by omega) (by omega) (by omega) (by omega)]
        intro x y; exact absurd ⟨x, y⟩ (hne i (by omega))
      · rw [e (46 + i) (by omega) (by omega) (by omega) (by omega), e (46 + j) (by omega) (by omega) (by omega) (by omega), e (61 + i) (by omega) (by omega) (by omega) (by omega), e (61 + j) (by omega) (by omega) (by omega) (by omega)]; exact h9 i j (by omega) (by omega)
  · rw [e _ (by omega) (by omega) (by omega) (by omega), e _ (by omega) (by omega) (by omega) (by omega)]; exact h10 j hj
  · rw [e _ (by omega) (by omega) (by omega) (by omega), e _ (by omega) (by omega) (by omega) (by omega), e _ (by omega) (by omega) (by omega) (by omega), e _ (by omega) (by omega) (by omega) (by omega)]; exact h11 j hj
  · rw [e _ (by omega) (by omega) (by omega) (by omega), e _ (by omega) (by omega) (by omega) (by omega)]; exact h12 j hj
theorem in4 {p : Nat × Nat → Prop} {a b c d : Nat × Nat} (ha : p a) (hb : p b) (hc : p c) (hd : p d) : ∀ q ∈ [a, b, c, d], p q := by
  intro q hq
  simp only [List.mem_cons, List.not_mem_nil, or_false] at hq
  rcases hq with rfl | rfl | rfl | rfl <;> assumption
theorem mroad_add {J : mI} {L : mL} {n a b : Nat} {c : Int32} (h : J 68 1 = nI n) (hn : n < 15) (ha : a < 8) (hb : b < 8) : (if nI b ≤ nI a then (f_X11_road_67_b88 J L (nI a) (nI b) c (nI n) (nI b) (46 + nI n)) else (f_X11_road_67_b88 J L (nI a) (nI b) c (nI n) (nI a) (46 + nI n))) = some (nI n, uI (uI (uI (uI J 68 (46 + n) (nI (min a b))) 68 (61 + n) (nI (max a b))) 68 (76 + n) c) 68 1 (nI (n + 1)), L) := by
  unfold f_X11_road_67_b88 f_X11_road_67_b108
  simp (disch := omega) only [ck_nI, c_nI, le_n, lt_n, eq_n, lt_eq, Option.bind_some, bndI_some, bndV_some, bndL_some, inc_nI, nI_1, n_add, n_mul, orz, addz, q0, q2, q3, q4, q5, q6, q7, q8, q9, q10, q13, q14, q15, q20, q24, q46, q48, q61, q76, q91, q95, q99, q100, q105, q111, q117, q123, q129, eq1, le1, ge1, lt1, gt1, cl1]
  by_cases q : b ≤ a
  · simp only [if_pos q, Nat.min_eq_right q, Nat.max_eq_left q]
    rw [mrd (by omega) (mrd (by omega) (mrd (by omega) h)), nI_1]
  · simp only [if_neg q, Nat.min_eq_left (show a ≤ b by omega), Nat.max_eq_right (show a ≤ b by omega)]
    rw [mrd (by omega) (mrd (by omega) (mrd (by omega) h)), nI_1]
theorem st_road {I : mI} {L : mL} {a1 a2 a3 : Int32} (h : Rel I L) : St_road Rel I L a1 a2 a3 := by
  obtain ⟨⟨v, hw, hm, hc⟩, hr2⟩ := id h
  have sz := hw.sz
  unfold St_road f_X10_road_0
  have hM : ∀ J : mI, MH J 68 v → f_X11_road_67 J L a1 a2 a3 = if 0 ≤ a1.toInt ∧ a1.toInt < (v 0 : Int) then (if 0 ≤ a2.toInt ∧ a2.toInt < (v 0 : Int) then (if a1 = a2 then some (-1, J, L) else if 0 ≤ a3.toInt ∧ a3.toInt ≤ 9 then ((f_X11_roadOf_67 J L a1 a2).bind (fun r4 => if r4 < 0 then (if (J 68 (1 : Int32).toNatClampNeg) = 15 then (some ((-3), J, L)) else (lt (J 68 (1 : Int32).toNatClampNeg) (fun v5 => if a2 ≤ a1 then (f_X11_road_67_b88 J L a1 a2 a3 v5 a2 (46 + v5)) else (f_X11_road_67_b88 J L a1 a2 a3 v5 a1 (46 + v5))))) else (some ((-2), J, L)))) else some (-1, J, L)) else some (-1, J, L)) else some (-1, J, L) := by
    intro J hJ
    unfold f_X11_road_67
    rw [isParish_n (hJ 0 (by omega)) (by omega), isParish_n (hJ 0 (by omega)) (by omega), in_l 0 9 (by decide) (by decide)]
    simp only [Option.bind_some, bit_ite]
  rw [hasParish_n hc.c0 (by omega), hasParish_n hc.c0 (by omega), within_l 0 9 (by decide) (by decide)]
  simp only [Option.bind_some, bit_ite]
  by_cases h1 : 0 ≤ a1.toInt ∧ a1.toInt < (v 0 : Int)
  · by_cases h2 : 0 ≤ a2.toInt ∧ a2.toInt < (v 0 : Int)
    · by_cases h3 : a1 = a2
      · rw [if_pos h1, if_pos h2, if_pos h3]
        exact ⟨_, _, _, _, _, rfl, by rw [hM I hm, if_pos h1, if_pos h2, if_pos h3], h⟩
      · by_cases h4 : 0 ≤ a3.toInt ∧ a3.toInt ≤ 9
        · rw [if_pos h1, if_pos h2, if_neg h3, if_pos h4]
          have hM' : ∀ J : mI, MH J 68 v → _ := fun J hJ => by have := hM J hJ; rw [if_pos h1, if_pos h2, if_neg h3, if_pos h4] at this; exact this
          obtain ⟨a, ha, rfl, -⟩ := ofI h1.1 h1.2
          obtain ⟨b, hb, rfl, -⟩ := ofI h2.1 h2.2
          obtain ⟨c, hcc, rfl, gc⟩ := ofI (a := a3) (n := 10) h4.1 (by omega)
          have hne : a ≠ b := fun e => h3 (by rw [e])
          have hrb : ∀ r, r < v 1 → v (46 + r) < 8 ∧ v (61 + r) < 8 := fun r hr => by have := hw.roadb r hr; omega
          rcases joins_eq (I := I) (L := L) hw hc (a := a) (b := b) (by omega) (by omega) with ⟨⟨r, hr, hE⟩, e⟩ | ⟨hN, e⟩
          · rw [e, Option.bind_some, if_neg (by decide)]
            refine ⟨_, _, _, _, _, rfl, ?_, h⟩
            obtain ⟨x, e2, hx⟩ := roadOf_eq (I := I) (L := L) hm (by omega) hrb (a := a) (b := b) (by omega) (by omega)
            rw [hM' I hm, e2, Option.bind_some]
            rcases hx with ⟨-, hx⟩ | ⟨r2, hr2, -, rfl⟩
            · exact absurd hE (hx r hr)
            · rw [if_neg (by rw [q0, lt_n (by omega) (by omega)]; omega)]
          · rw [e, Option.bind_some, if_pos rfl]
            have rO : ∀ J : mI, MH J 68 v → f_X11_roadOf_67 J L (nI a) (nI b) = some (-1) := fun J hJ => by
              obtain ⟨x, e2, hx⟩ := roadOf_eq (I := J) (L := L) hJ (by omega) hrb (a := a) (b := b) (by omega) (by omega)
              rcases hx with ⟨rfl, -⟩ | ⟨r2, hr2, hE, -⟩
              · exact e2
              · exact absurd hE (hN r2 hr2)
            have hM2 : ∀ J : mI, MH J 68 v → f_X11_road_67 J L (nI a) (nI b) (nI c) = if v 1 = 15 then some (-3, J, L) else some (nI (v 1), uI (uI (uI (uI J 68 (46 + v 1) (nI (min a b))) 68 (61 + v 1) (nI (max a b))) 68 (76 + v 1) (nI c)) 68 1 (nI (v 1 + 1)), L) := fun J hJ => by
              rw [hM' J hJ, rO J hJ, Option.bind_some, if_pos (by decide), lt_eq, cl1, hJ 1 (by omega), q15]
              simp only [eq_n (show v 1 < 2147483648 by omega) (show 15 < 2147483648 by omega)]
              by_cases q : v 1 = 15
              · rw [if_pos q, if_pos q]
              · rw [if_neg q, if_neg q, mroad_add (by exact hJ 1 (by omega)) (by omega) (by omega) (by omega)]
            rw [hc.c1, q15]
            simp only [lt_n (show v 1 < 2147483648 by omega) (show 15 < 2147483648 by omega)]
            by_cases hf : v 1 < 15
            · rw [if_pos hf, addRoad_eq hc.c1 hf (by omega) (by omega), bndI_some]
              have hR := rel_many hm hc hr2 (us := [(46 + v 1, min a b), (61 + v 1, max a b), (76 + v 1, c), (1, v 1 + 1)]) (in4 (p := fun q => q.1 < 135) (by dsimp only; omega) (by dsimp only; omega) (by dsimp only; omega) (by dsimp only; omega)) (hw.road hf (by omega) (by omega) (by omega) (fun r hr z => hN r hr ((En_mm (hw.roadb r hr).1).mpr z))) (by
                intro j hj hl
                have zz : ∀ i, i = 0 ∨ (2 ≤ i ∧ i ≤ 4) → vus v [(46 + v 1, min a b), (61 + v 1, max a b), (76 + v 1, c), (1, v 1 + 1)] i = v i := fun i hi => by simp only [vus]; rw [vu_n (by omega), vu_n (by omega), vu_n (by omega), vu_n (by omega)]
                have z1 : vus v [(46 + v 1, min a b), (61 + v 1, max a b), (76 + v 1, c), (1, v 1 + 1)] 1 = v 1 + 1 := by simp only [vus]; rw [vu_s]
                unfold live at hl
                rw [z1, zz 0 (by omega), zz 2 (by omega), zz 3 (by omega), zz 4 (by omega)] at hl
                simp only [List.map_cons, List.map_nil, List.mem_cons, List.not_mem_nil, or_false]
                unfold live
                omega)
              simp only [cIs, mIs] at hR
              rw [loc_one (by omega), loc_oth (by omega), loc_toll (by omega), loc1] at hR
              refine ⟨_, _, _, _, _, rfl, ?_, hR⟩
              rw [hM2 _ (hm.frame (by rw [uI_cell (by omega), uI_cell (by omega), uI_cell (by omega), uI_cell (by omega)])), if_neg (by omega)]
            · rw [if_neg hf]
              exact ⟨_, _, _, _, _, rfl, by rw [hM2 I hm, if_pos (by omega)], h⟩
        · rw [if_pos h1, if_pos h2, if_neg h3, if_neg h4]
          exact ⟨_, _, _, _, _, rfl, by rw [hM I hm, if_pos h1, if_pos h2, if_neg h3, if_neg h4], h⟩
    · rw [if_pos h1, if_neg h2]
      exact ⟨_, _, _, _, _, rfl, by rw [hM I hm, if_pos h1, if_neg h2], h⟩
  · rw [if_neg h1]
    exact ⟨_, _, _, _, _, rfl, by rw [hM I hm, if_neg h1], h⟩
