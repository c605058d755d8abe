/-! weeks: a week passes -/
theorem WF.home {v : mV} (h : WF v) {k x : Nat} (hk : k < v 4) (hx : x < v 0) : WF (vu v (129 + k) x) := by
  obtain ⟨h0, h1, h2, h3, h4, h5, h6, h7, h8, h9, h10, h11, h12⟩ := h
  have e : ∀ j, j < 129 → vu v (129 + k) x j = v j := fun j hj => vu_n (by omega)
  unfold WF
  rw [e 0 (by omega), e 1 (by omega), e 2 (by omega), e 3 (by omega), e 4 (by omega), e 5 (by omega)]
  refine ⟨h0, h1, h2, h3, h4, h5, fun j hj => ?_, fun j hj => ?_, fun j hj => ?_, fun i j hi hj => ?_, fun j hj => ?_, fun j hj => ?_, fun j hj => ?_⟩
  · rw [e _ (by omega)]; exact h6 j hj
  · rw [e _ (by omega)]; exact h7 j hj
  · rw [e _ (by omega), e _ (by omega), e _ (by omega)]; exact h8 j hj
  · rw [e _ (by omega), e _ (by omega), e _ (by omega), e _ (by omega)]; exact h9 i j hi hj
  · rw [e _ (by omega), e _ (by omega)]; exact h10 j hj
  · rw [e _ (by omega), e _ (by omega), e _ (by omega), e _ (by omega)]; exact h11 j hj
  · rw [e _ (by omega)]
    have := h12 j hj
    by_cases q : j = k
    · subst q; rw [vu_s]; exact ⟨this.1, hx⟩
    · rw [vu_n (by omega)]; exact this
theorem WF.week {v : mV} (h : WF v) {x : Nat} (hx : x ≤ 9999) : WF (vu v 5 x) := by
  obtain ⟨h0, h1, h2, h3, h4, h5, h6, h7, h8, h9, h10, h11, h12⟩ := h
  have e : ∀ j, j ≠ 5 → vu v 5 x j = v j := fun j hj => vu_n hj
  unfold WF
  rw [e 0 (by omega), e 1 (by omega), e 2 (by omega), e 3 (by omega), e 4 (by omega), vu_s]
  refine ⟨h0, h1, h2, h3, h4, hx, fun j hj => ?_, fun j hj => ?_, fun j hj => ?_, fun i j hi hj => ?_, fun j hj => ?_, fun j hj => ?_, fun j hj => ?_⟩
  · rw [e _ (by omega)]; exact h6 j hj
  · rw [e _ (by omega)]; exact h7 j hj
  · rw [e _ (by omega), e _ (by omega), e _ (by omega)]; exact h8 j hj
  · rw [e _ (by omega), e _ (by omega), e _ (by omega), e _ (by omega)]; exact h9 i j hi hj
  · rw [e _ (by omega), e _ (by omega)]; exact h10 j hj
  · rw [e _ (by omega), e _ (by omega), e _ (by omega), e _ (by omega)]; exact h11 j hj
  · rw [e _ (by omega), e _ (by omega)]; exact h12 j hj
theorem CH.set {I : mI} {v : mV} (h : CH I 0 v) {i c k x : Nat} (hi : i < 135) (h6 : 5 ≤ i) (e : loc i = (c, k)) (hl : live v i) : CH (uI I c k (nI x)) 0 (vu v i x) := by
  refine CHs.sub (CHs.set h hi e (x := x)) (fun j hj hlj => Or.inl ?_)
  unfold live at hlj ⊢
  rw [vu_n (by omega), vu_n (by omega), vu_n (by omega), vu_n (by omega), vu_n (by omega)] at hlj
  exact hlj
theorem vu_id (v : mV) (i : Nat) : vu v i (v i) = v := by
  funext j
  unfold vu
  by_cases e : j = i
  · rw [if_pos e, e]
  · rw [if_neg e]
def fP (k : Nat) (s : mV × Nat) : mV × Nat := (vu s.1 (129 + k) (gl s.1 (s.1 (129 + k)) (s.1 (123 + k))), s.2 + (if gl s.1 (s.1 (129 + k)) (s.1 (123 + k)) = s.1 (129 + k) then 0 else 1))
def fG (k : Nat) (s : mV × Nat) : mV × Nat := if 0 < s.1 (117 + k) ∧ s.1 (117 + k) < wV s.1 (s.1 (111 + k)) (s.1 (99 + k)) then (vu s.1 (117 + k) 0, s.2 + 1) else s
def pP (v : mV) (k : Nat) : mV × Nat := fold fP k 0 (vu v 5 (v 5 + 1), 0)
def pG (v : mV) (k : Nat) : mV × Nat := fold fG k 0 (v, 0)
theorem pP_s (v : mV) (k : Nat) : pP v (k + 1) = fP k (pP v k) := by unfold pP; rw [fold_succ, Nat.zero_add]
theorem pG_s (v : mV) (k : Nat) : pG v (k + 1) = fG k (pG v k) := by unfold pG; rw [fold_succ, Nat.zero_add]
theorem pP_ok {v : mV} (hw : WF v) (h5 : v 5 + 1 ≤ 9999) : ∀ k, k ≤ v 4 → WF (pP v k).1 ∧ (∀ j, j < 5 → (pP v k).1 j = v j) ∧ (pP v k).1 5 = v 5 + 1 ∧ (pP v k).2 ≤ k := by
  have sz := hw.sz
  intro k
  induction k with
  | zero => intro _; exact ⟨hw.week h5, fun j hj => vu_n (by omega), vu_s v 5 (v 5 + 1), Nat.le_refl 0⟩
  | succ k ih =>
    intro hk
    obtain ⟨h1, h2, h3, h4⟩ := ih (by omega)
    have e4 := h2 4 (by omega)
    rw [pP_s]
    refine ⟨h1.home (by omega) (gl_lt (h1.personb k (by omega)).2), fun j hj => ?_, ?_, ?_⟩
    · show vu (pP v k).1 (129 + k) _ j = v j
      rw [vu_n (by omega)]; exact h2 j hj
    · show vu (pP v k).1 (129 + k) _ 5 = v 5 + 1
      rw [vu_n (by omega)]; exact h3
    · show (pP v k).2 + _ ≤ k + 1
      split <;> omega
theorem pG_ok {v : mV} (hw : WF v) : ∀ k, k ≤ v 3 → WF (pG v k).1 ∧ (∀ j, j < 6 → (pG v k).1 j = v j) ∧ (pG v k).2 ≤ k := by
  have sz := hw.sz
  intro k
  induction k with
  | zero => intro _; exact ⟨hw, fun j hj => rfl, Nat.le_refl 0⟩
  | succ k ih =>
    intro hk
    obtain ⟨h1, h2, h3⟩ := ih (by omega)
    have e3 := h2 3 (by omega)
    rw [pG_s]
    unfold fG
    split
    · refine ⟨h1.rope (by omega) (by omega), fun j hj => ?_, by show (pG v k).2 + 1 ≤ k + 1; omega⟩
      show vu (pG v k).1 (117 + k) 0 j = v j
      rw [vu_n (by omega)]; exact h2 j hj
    · exact ⟨h1, h2, by omega⟩
/-- a week: what holds then; how many fall; how many go -/
def wkv (v : mV) : mV := (pG (pP v (v 4)).1 (v 3)).1
def wkf (v : mV) : Nat := (pG (pP v (v 4)).1 (v 3)).2
def wkg (v : mV) : Nat := (pP v (v 4)).2
theorem wk_ok {v : mV} (hw : WF v) (h5 : v 5 + 1 ≤ 9999) : WF (wkv v) ∧ (∀ j, j < 5 → wkv v j = v j) ∧ wkv v 5 = v 5 + 1 ∧ wkf v ≤ 6 ∧ wkg v ≤ 6 := by
  have sz := hw.sz
  obtain ⟨h1, h2, h3, h4⟩ := pP_ok hw h5 (v 4) (Nat.le_refl _)
  have e3 := h2 3 (by omega)
  obtain ⟨g1, g2, g3⟩ := pG_ok h1 (v 3) (by omega)
  refine ⟨g1, fun j hj => ?_, ?_, ?_, ?_⟩
  · show (pG (pP v (v 4)).1 (v 3)).1 j = v j
    rw [g2 j (by omega), h2 j hj]
  · show (pG (pP v (v 4)).1 (v 3)).1 5 = v 5 + 1
    rw [g2 5 (by omega), h3]
  · show (pG (pP v (v 4)).1 (v 3)).2 ≤ 6; omega
  · show (pP v (v 4)).2 ≤ 6; omega
section Pass
variable {I J : mI} {L : mL} {v : mV}
theorem cfalls (hw : WF v) (hc : CH I 0 v) {x : Nat} : ∃ J, f_X7_passWeek_1_l56 fuel (nI x) 0 I L = some (nI (x + (pG v (v 3)).2), J, L) ∧ CH J 0 (pG v (v 3)).1 ∧ ∀ k, k = 0 ∨ 16 ≤ k → J k = I k := by
  have sz := hw.sz
  obtain ⟨m', J, ⟨i1, i2⟩, hF⟩ := loop_inv (F := fun f k (J : mI) => f_X7_passWeek_1_l56 f (nI (x + (pG v k).2)) (nI k) J L) (n := v 3)
    (Inv := fun k J => CH J 0 (pG v k).1 ∧ ∀ k, k = 0 ∨ 16 ≤ k → J k = I k)
    (fun f k J hk hI => by
      obtain ⟨i1, i2⟩ := hI
      obtain ⟨o1, o2, o3⟩ := pG_ok hw k (by omega)
      have e3 := o2 3 (by omega)
      have sz' := o1.sz
      have hk' : k < (pG v k).1 3 := by omega
      have gb := o1.goodb k hk'
      have wl := wV_le o1 gb.2.2.1 (m := (pG v k).1 (99 + k))
      show ∃ J', _ ∧ f_X7_passWeek_1_l56 (f + 1) (nI (x + (pG v k).2)) (nI k) J L = f_X7_passWeek_1_l56 f (nI (x + (pG v (k + 1)).2)) (nI (k + 1)) J' L
      rw [f_X7_passWeek_1_l56, i1.c3, if_neg (by rw [le_nI (by omega) (by omega)]; omega), ck_nI (by omega) (by omega), c_nI (by omega), i1.rrope o1 k hk', weightOfGood_eq o1 i1 hk', Option.bind_some, ck_nI (by omega) (by omega), ck_nI (by omega) (by omega)]
      simp only [lt_eq, inc_nI]
      have keep : ¬ (0 < (pG v k).1 (117 + k) ∧ (pG v k).1 (117 + k) < wV (pG v k).1 ((pG v k).1 (111 + k)) ((pG v k).1 (99 + k))) → pG v (k + 1) = pG v k := fun z => by rw [pG_s]; unfold fG; rw [if_neg z]
      by_cases q1 : 0 < (pG v k).1 (117 + k)
      · rw [if_neg (by rw [show (0 : Int32) = nI 0 from rfl, le_nI (by omega) (by omega)]; omega)]
        by_cases q2 : (pG v k).1 (117 + k) < wV (pG v k).1 ((pG v k).1 (111 + k)) ((pG v k).1 (99 + k))
        · rw [if_neg (by rw [le_nI (by omega) (by omega)]; omega)]
          have e1 : pG v (k + 1) = (vu (pG v k).1 (117 + k) 0, (pG v k).2 + 1) := by rw [pG_s]; unfold fG; rw [if_pos ⟨q1, q2⟩]
          have cs := i1.set (x := 0) (show 117 + k < 135 by omega) (by omega) (loc_rope (k := k) (by omega)) (by unfold live; omega)
          exact ⟨uI J 13 k (nI 0), ⟨by rw [e1]; exact cs, fun c hc => by rw [uI_cell (by omega)]; exact i2 c hc⟩, by rw [e1]; rfl⟩
        · rw [if_pos (by rw [le_nI (by omega) (by omega)]; omega)]
          have e1 := keep (fun z => q2 z.2)
          exact ⟨J, ⟨by rw [e1]; exact i1, i2⟩, by rw [e1]⟩
      · rw [if_pos (by rw [show (0 : Int32) = nI 0 from rfl, le_nI (by omega) (by omega)]; omega)]
        have e1 := keep (fun z => q1 z.1)
        exact ⟨J, ⟨by rw [e1]; exact i1, i2⟩, by rw [e1]⟩)
    (v 3) 0 I fuel (by omega) ⟨hc, fun _ _ => rfl⟩ (fuel_gt (by omega))
  have hF' : f_X7_passWeek_1_l56 fuel (nI x) 0 I L = f_X7_passWeek_1_l56 (m' + 1) (nI (x + (pG v (v 3)).2)) (nI (v 3)) J L := hF
  refine ⟨J, ?_, i1, i2⟩
  have e3 := (pG_ok hw (v 3) (Nat.le_refl _)).2.1 3 (by omega)
  rw [hF', f_X7_passWeek_1_l56, i1.c3, e3, if_pos (by rw [le_nI (by omega) (by omega)]; omega)]
theorem cpass (hw : WF v) (hc : CH I 0 v) (h5 : v 5 + 1 ≤ 9999) : ∃ J, f_X7_passWeek_1 I L = some (nI (100 * wkg v + wkf v), J, L) ∧ CH J 0 (wkv v) ∧ ∀ k, k = 0 ∨ 16 ≤ k → J k = I k := by
  have sz := hw.sz
  unfold f_X7_passWeek_1
  rw [lt_eq, hc.c5, show nI (v 5) + 1 = nI (v 5 + 1) from n_add (v 5) 1]
  have hc0 : CH (uI I 1 12 (nI (v 5 + 1))) 0 (vu v 5 (v 5 + 1)) := hc.set (by omega) (by omega) loc5 (by unfold live; omega)
  obtain ⟨m', J, ⟨i1, i2⟩, hF⟩ := loop_inv (F := fun f k (J : mI) => f_X7_passWeek_1_l14 f (nI (100 * (pP v k).2)) (nI k) J L) (n := v 4)
    (Inv := fun k J => CH J 0 (pP v k).1 ∧ ∀ k, k = 0 ∨ 16 ≤ k → J k = I k)
    (fun f k J hk hI => by
      obtain ⟨i1, i2⟩ := hI
      obtain ⟨o1, o2, o3, o4⟩ := pP_ok hw h5 k (by omega)
      have e4 := o2 4 (by omega)
      have sz' := o1.sz
      have hk' : k < (pP v k).1 4 := by omega
      have pb := o1.personb k hk'
      have gll : gl (pP v k).1 ((pP v k).1 (129 + k)) ((pP v k).1 (123 + k)) < (pP v k).1 0 := gl_lt pb.2
      have e0 := o2 0 (by omega)
      show ∃ J', _ ∧ f_X7_passWeek_1_l14 (f + 1) (nI (100 * (pP v k).2)) (nI k) J L = f_X7_passWeek_1_l14 f (nI (100 * (pP v (k + 1)).2)) (nI (k + 1)) J' L
      rw [f_X7_passWeek_1_l14, i1.c4, if_neg (by rw [le_nI (by omega) (by omega)]; omega), lighter_eq o1 i1 hk', Option.bind_some, ck_nI (by omega) (by omega), ck_nI (by omega) (by omega), c_nI (by omega), i1.rat_ o1 k hk', pP_s]
      simp only [lt_eq, inc_nI]
      by_cases q : gl (pP v k).1 ((pP v k).1 (129 + k)) ((pP v k).1 (123 + k)) = (pP v k).1 (129 + k)
      · rw [if_pos (by rw [q])]
        have e1 : fP k (pP v k) = pP v k := by
          unfold fP
          rw [if_pos q, q, vu_id]; rfl
        rw [e1]
        exact ⟨J, ⟨i1, i2⟩, rfl⟩
      · rw [if_neg (fun z => q ((eq_nI (by omega) (by omega)).mp z))]
        have e1 : (fP k (pP v k)).2 = (pP v k).2 + 1 := by unfold fP; show (pP v k).2 + (if _ then 0 else 1) = _; rw [if_neg q]
        refine ⟨uI J 15 k (nI (gl (pP v k).1 ((pP v k).1 (129 + k)) ((pP v k).1 (123 + k)))), ⟨i1.set (by omega) (by omega) (loc_at (by omega)) (by unfold live; omega), fun c hc => by rw [uI_cell (by omega)]; exact i2 c hc⟩, ?_⟩
        rw [e1, show nI (100 * (pP v k).2) + Int32.ofInt 100 = nI (100 * (pP v k).2 + 100) from n_add _ 100]
        rfl)
    (v 4) 0 (uI I 1 12 (nI (v 5 + 1))) fuel (by omega) ⟨hc0, fun k hk => by rw [uI_cell (by omega)]⟩ (fuel_gt (by omega))
  have hF' : f_X7_passWeek_1_l14 fuel 0 0 (uI I 1 12 (nI (v 5 + 1))) L = f_X7_passWeek_1_l14 (m' + 1) (nI (100 * (pP v (v 4)).2)) (nI (v 4)) J L := hF
  obtain ⟨o1, o2, o3, o4⟩ := pP_ok hw h5 (v 4) (Nat.le_refl _)
  obtain ⟨J2, g1, g2, g3⟩ := cfalls (L := L) (x := 100 * (pP v (v 4)).2) o1 i1
  rw [o2 3 (by omega)] at g1 g2
  refine ⟨J2, ?_, g2, fun k hk => by rw [g3 k hk, i2 k hk]⟩
  rw [hF', f_X7_passWeek_1_l14, i1.c4, o2 4 (by omega), if_pos (by rw [le_nI (by omega) (by omega)]; omega)]
  exact g1
/-- the reference's week -/
theorem mfalls (hw : WF v) (hm : MH I 68 v) (k38 : Int32 → Int32 → Int32 → Int32 → mI → mL → rI) {x z w : Nat} {n : Int32} : ∃ J, f_X11_weeks_67_l86 k38 fuel n (nI x) (nI z) (nI w) 0 I L = k38 n (nI (x + (pG v (v 3)).2)) (nI z) (nI (w + 1)) J L ∧ MH J 68 (pG v (v 3)).1 ∧ ∀ k, k ≠ 68 → J k = I k := by
  have sz := hw.sz
  obtain ⟨m', J, ⟨i1, i2⟩, hF⟩ := loop_inv (F := fun f k (J : mI) => f_X11_weeks_67_l86 k38 f n (nI (x + (pG v k).2)) (nI z) (nI w) (nI k) J L) (n := v 3)
    (Inv := fun k J => MH J 68 (pG v k).1 ∧ ∀ k, k ≠ 68 → J k = I k)
    (fun f k J hk hI => by
      obtain ⟨i1, i2⟩ := hI
      obtain ⟨o1, o2, o3⟩ := pG_ok hw k (by omega)
      have e3 := o2 3 (by omega)
      have sz' := o1.sz
      have hk' : k < (pG v k).1 3 := by omega
      have gb := o1.goodb k hk'
      have wl := wV_le o1 gb.2.2.1 (m := (pG v k).1 (99 + k))
      have i117 : (117 : Int32) + nI k = nI (117 + k) := n_add 117 k
      have b152 : ∀ s0 : Int32, f_X11_weeks_67_b152 J L k38 (f_X11_weeks_67_l86 k38 f) n (nI (x + (pG v k).2)) (nI z) (nI w) (nI k) s0 = if s0 = 0 then f_X11_weeks_67_l86 k38 f n (nI (x + (pG v k).2)) (nI z) (nI w) (nI (k + 1)) (uI J 68 (117 + k) (nI ((pG v k).1 (117 + k)))) L else f_X11_weeks_67_l86 k38 f n (nI (x + (pG v k).2 + 1)) (nI z) (nI w) (nI (k + 1)) (uI J 68 (117 + k) (nI 0)) L := by
        intro s0
        unfold f_X11_weeks_67_b152 f_X11_weeks_67_b165
        by_cases q : s0 = 0
        · rw [if_pos q, if_pos q, lt_eq, if_pos q, i117, ck_nI (by omega) (by omega), ck_nI (by omega) (by omega), c_nI (by omega), i1.n _ (by omega), lt_eq, lt_eq, inc_nI, show (0 : Int32) = nI 0 from rfl, addz]
        · rw [if_neg q, if_neg q, lt_eq, if_neg q, i117, ck_nI (by omega) (by omega), c_nI (by omega), lt_eq, lt_eq, inc_nI, show (1 : Int32) = nI 1 from rfl, n_add]
          rfl
      have b151 : f_X11_weeks_67_b151 J L k38 (f_X11_weeks_67_l86 k38 f) n (nI (x + (pG v k).2)) (nI z) (nI w) (nI k) = f_X11_weeks_67_l86 k38 f n (nI (x + (pG v k).2)) (nI z) (nI w) (nI (k + 1)) (uI J 68 (117 + k) (nI ((pG v k).1 (117 + k)))) L := by
        unfold f_X11_weeks_67_b151
        rw [b152, if_pos rfl]
      have same : MH (uI J 68 (117 + k) (nI ((pG v k).1 (117 + k)))) 68 (pG v k).1 := by
        have := i1.set (117 + k) ((pG v k).1 (117 + k))
        rw [vu_id] at this; exact this
      show ∃ J', _ ∧ f_X11_weeks_67_l86 k38 (f + 1) n (nI (x + (pG v k).2)) (nI z) (nI w) (nI k) J L = f_X11_weeks_67_l86 k38 f n (nI (x + (pG v (k + 1)).2)) (nI z) (nI w) (nI (k + 1)) J' L
      rw [f_X11_weeks_67_l86, cl3, i1.n 3 (by omega), if_neg (by rw [le_nI (by omega) (by omega)]; omega), i117, show (111 : Int32) + nI k = nI (111 + k) from n_add 111 k, show (99 : Int32) + nI k = nI (99 + k) from n_add 99 k, ck_nI (by omega) (by omega), ck_nI (by omega) (by omega), ck_nI (by omega) (by omega), c_nI (by omega), c_nI (by omega), c_nI (by omega), i1.n _ (by omega), i1.n _ (by omega), i1.n _ (by omega), mweight_eq o1 i1 gb.2.2.1 (by omega), Option.bind_some, ck_nI (by omega) (by omega), b151, b152, if_neg (show ¬ (1 : Int32) = 0 by decide)]
      have keep : ¬ (0 < (pG v k).1 (117 + k) ∧ (pG v k).1 (117 + k) < wV (pG v k).1 ((pG v k).1 (111 + k)) ((pG v k).1 (99 + k))) → pG v (k + 1) = pG v k := fun z => by rw [pG_s]; unfold fG; rw [if_neg z]
      by_cases q1 : 0 < (pG v k).1 (117 + k)
      · rw [if_neg (by rw [show (0 : Int32) = nI 0 from rfl, le_nI (by omega) (by omega)]; omega)]
        by_cases q2 : (pG v k).1 (117 + k) < wV (pG v k).1 ((pG v k).1 (111 + k)) ((pG v k).1 (99 + k))
        · rw [if_neg (by rw [le_nI (by omega) (by omega)]; omega)]
          have e1 : pG v (k + 1) = (vu (pG v k).1 (117 + k) 0, (pG v k).2 + 1) := by rw [pG_s]; unfold fG; rw [if_pos ⟨q1, q2⟩]
          exact ⟨uI J 68 (117 + k) (nI 0), ⟨by rw [e1]; exact i1.set (117 + k) 0, fun c hc => by rw [uI_cell hc]; exact i2 c hc⟩, by rw [e1]; rfl⟩
        · rw [if_pos (by rw [le_nI (by omega) (by omega)]; omega)]
          have e1 := keep (fun z => q2 z.2)
          exact ⟨uI J 68 (117 + k) (nI ((pG v k).1 (117 + k))), ⟨by rw [e1]; exact same, fun c hc => by rw [uI_cell hc]; exact i2 c hc⟩, by rw [e1]⟩
      · rw [if_pos (by rw [show (0 : Int32) = nI 0 from rfl, le_nI (by omega) (by omega)]; omega)]
        have e1 := keep (fun z => q1 z.1)
        exact ⟨uI J 68 (117 + k) (nI ((pG v k).1 (117 + k))), ⟨by rw [e1]; exact same, fun c hc => by rw [uI_cell hc]; exact i2 c hc⟩, by rw [e1]⟩)
    (v 3) 0 I fuel (by omega) ⟨hm, fun _ _ => rfl⟩ (fuel_gt (by omega))
  have hF' : f_X11_weeks_67_l86 k38 fuel n (nI x) (nI z) (nI w) 0 I L = f_X11_weeks_67_l86 k38 (m' + 1) n (nI (x + (pG v (v 3)).2)) (nI z) (nI w) (nI (v 3)) J L := hF
  refine ⟨J, ?_, i1, i2⟩
  have e3 := (pG_ok hw (v 3) (Nat.le_refl _)).2.1 3 (by omega)
  rw [hF', f_X11_weeks_67_l86, cl3, i1.n 3 (by omega), e3, if_pos (by rw [le_nI (by omega) (by omega)]; omega), lt_eq, inc_nI]
theorem mpass (hw : WF v) (hm : MH I 68 v) (h5 : v 5 + 1 ≤ 9999) (k38 : Int32 → Int32 → Int32 → Int32 → mI → mL → rI) {x z w : Nat} {n : Int32} : ∃ J, f_X11_weeks_67_l57 k38 fuel n (nI x) (nI z) (nI w) 0 (uI I 68 5 (nI (v 5 + 1))) L = k38 n (nI (x + wkf v)) (nI (z + wkg v)) (nI (w + 1)) J L ∧ MH J 68 (wkv v) ∧ ∀ k, k ≠ 68 → J k = I k := by
  have sz := hw.sz
  obtain ⟨m', J, ⟨i1, i2⟩, hF⟩ := loop_inv (F := fun f k (J : mI) => f_X11_weeks_67_l57 k38 f n (nI x) (nI (z + (pP v k).2)) (nI w) (nI k) J L) (n := v 4)
    (Inv := fun k J => MH J 68 (pP v k).1 ∧ ∀ k, k ≠ 68 → J k = I k)
    (fun f k J hk hI => by
      obtain ⟨i1, i2⟩ := hI
      obtain ⟨o1, o2, o3, o4⟩ := pP_ok hw h5 k (by omega)
      have e4 := o2 4 (by omega)
      have sz' := o1.sz
      have hk' : k < (pP v k).1 4 := by omega
      refine ⟨uI J 68 (129 + k) (nI (gl (pP v k).1 ((pP v k).1 (129 + k)) ((pP v k).1 (123 + k)))), ⟨by rw [pP_s]; exact i1.set _ _, fun c hc => by rw [uI_cell hc]; exact i2 c hc⟩, ?_⟩
      show f_X11_weeks_67_l57 k38 (f + 1) n (nI x) (nI (z + (pP v k).2)) (nI w) (nI k) J L = f_X11_weeks_67_l57 k38 f n (nI x) (nI (z + (pP v (k + 1)).2)) (nI w) (nI (k + 1)) _ L
      rw [f_X11_weeks_67_l57, cl4, i1.n 4 (by omega), if_neg (by rw [le_nI (by omega) (by omega)]; omega), goes_eq o1 i1 hk', bndI_some, lt_eq, lt_eq, inc_nI, n_add, pP_s, Nat.add_assoc]
      rfl)
    (v 4) 0 (uI I 68 5 (nI (v 5 + 1))) fuel (by omega) ⟨hm.set 5 (v 5 + 1), fun k hk => by rw [uI_cell hk]⟩ (fuel_gt (by omega))
  have hF' : f_X11_weeks_67_l57 k38 fuel n (nI x) (nI z) (nI w) 0 (uI I 68 5 (nI (v 5 + 1))) L = f_X11_weeks_67_l57 k38 (m' + 1) n (nI x) (nI (z + (pP v (v 4)).2)) (nI w) (nI (v 4)) J L := hF
  obtain ⟨o1, o2, o3, o4⟩ := pP_ok hw h5 (v 4) (Nat.le_refl _)
  obtain ⟨J2, g1, g2, g3⟩ := mfalls (L := L) (x := x) (z := z + (pP v (v 4)).2) (w := w) (n := n) o1 i1 k38
  rw [o2 3 (by omega)] at g1 g2
  refine ⟨J2, ?_, g2, fun k hk => by rw [g3 k hk, i2 k hk]⟩
  rw [hF', f_X11_weeks_67_l57, cl4, i1.n 4 (by omega), o2 4 (by omega), if_pos (by rw [le_nI (by omega) (by omega)]; omega)]
  exact g1
/-- n weeks -/
def nwk (v : mV) : Nat → mV × Nat × Nat
  | 0 => (v, 0, 0)
  | k + 1 => (wkv (nwk v k).1, (nwk v k).2.1 + wkf (nwk v k).1, (nwk v k).2.2 + wkg (nwk v k).1)
theorem nwk_ok (hw : WF v) {n : Nat} (h5 : v 5 + n ≤ 9999) : ∀ k, k ≤ n → WF (nwk v k).1 ∧ (nwk v k).1 5 = v 5 + k ∧ (nwk v k).2.1 ≤ 6 * k ∧ (nwk v k).2.2 ≤ 6 * k := by
  intro k
  induction k with
  | zero => intro _; exact ⟨hw, rfl, Nat.le_refl 0, Nat.le_refl 0⟩
  | succ k ih =>
    intro hk
    obtain ⟨h1, h2, h3, h4⟩ := ih (by omega)
    obtain ⟨g1, g2, g3, g4, g5⟩ := wk_ok h1 (by omega)
    refine ⟨g1, ?_, ?_, ?_⟩
    · show wkv (nwk v k).1 5 = _; rw [g3, h2]; omega
    · show (nwk v k).2.1 + wkf (nwk v k).1 ≤ _; omega
    · show (nwk v k).2.2 + wkg (nwk v k).1 ≤ _; omega
theorem st_weeks {a1 : Int32} (h : Rel I L) : St_weeks Rel I L a1 := by
  obtain ⟨⟨v, hw, hm, hc⟩, hr2⟩ := id h
  have sz := hw.sz
  unfold St_weeks f_X10_weeks_0
  rw [within_l 1 52 (by decide) (by decide), hc.c5]
  have hM : ∀ J : mI, MH J 68 v → f_X11_weeks_67 J L a1 = if 1 ≤ a1.toInt ∧ a1.toInt ≤ 52 then (if nI (v 5) + a1 ≤ 9999 then (f_X11_weeks_67_l38 fuel a1 0 0 0 J L) else (some ((-3), J, L))) else some (-1, J, L) := by
    intro J hJ
    unfold f_X11_weeks_67
    rw [in_l 1 52 (by decide) (by decide), cl5, hJ.n 5 (by omega)]
    simp only [Option.bind_some, bit_ite]
  simp only [Option.bind_some, bit_ite]
  by_cases q1 : 1 ≤ a1.toInt ∧ a1.toInt ≤ 52
  · rw [if_pos q1]
    obtain ⟨n, hn, rfl, hnn⟩ := ofI (n := 53) (a := a1) (by omega) (by omega)
    have el : (nI (v 5) + nI n ≤ 9999) ↔ v 5 + n ≤ 9999 := by rw [n_add, show (9999 : Int32) = nI 9999 from rfl, le_nI (by omega) (by omega)]
    by_cases q2 : v 5 + n ≤ 9999
    · rw [if_pos (el.mpr q2)]
      obtain ⟨m1, J1, ⟨i1, i2⟩, hF⟩ := loop_inv (F := fun f k (J : mI) => f_X10_weeks_0_l34 f (nI n) (nI (100 * (nwk v k).2.2 + (nwk v k).2.1)) (nI k) J L) (n := n)
        (Inv := fun k J => CH J 0 (nwk v k).1 ∧ ∀ k, k = 0 ∨ 16 ≤ k → J k = I k)
        (fun f k J hk hI => by
          obtain ⟨i1, i2⟩ := hI
          obtain ⟨o1, o2, o3, o4⟩ := nwk_ok hw q2 k (by omega)
          obtain ⟨J2, g1, g2, g3⟩ := cpass (L := L) o1 i1 (by omega)
          refine ⟨J2, ⟨g2, fun c hc => by rw [g3 c hc, i2 c hc]⟩, ?_⟩
          show f_X10_weeks_0_l34 (f + 1) (nI n) (nI (100 * (nwk v k).2.2 + (nwk v k).2.1)) (nI k) J L = f_X10_weeks_0_l34 f (nI n) (nI (100 * ((nwk v k).2.2 + wkg (nwk v k).1) + ((nwk v k).2.1 + wkf (nwk v k).1))) (nI (k + 1)) J2 L
          rw [f_X10_weeks_0_l34, if_neg (by rw [le_nI (by omega) (by omega)]; omega), g1, bndI_some, lt_eq, lt_eq, inc_nI, n_add]
          congr 2; omega)
        n 0 I fuel (by omega) ⟨hc, fun _ _ => rfl⟩ (fuel_gt (by omega))
      have hF' : f_X10_weeks_0_l34 fuel (nI n) 0 0 I L = f_X10_weeks_0_l34 (m1 + 1) (nI n) (nI (100 * (nwk v n).2.2 + (nwk v n).2.1)) (nI n) J1 L := hF
      have hm1 : MH J1 68 v := hm.frame (i2 68 (by omega))
      obtain ⟨m2, J2, ⟨j1, j2⟩, hG⟩ := loop_inv (F := fun f k (J : mI) => f_X11_weeks_67_l38 f (nI n) (nI (nwk v k).2.1) (nI (nwk v k).2.2) (nI k) J L) (n := n)
        (Inv := fun k J => MH J 68 (nwk v k).1 ∧ ∀ k, k ≠ 68 → J k = J1 k)
        (fun f k J hk hI => by
          obtain ⟨j1, j2⟩ := hI
          obtain ⟨o1, o2, o3, o4⟩ := nwk_ok hw q2 k (by omega)
          obtain ⟨J2, g1, g2, g3⟩ := mpass (L := L) (x := (nwk v k).2.1) (z := (nwk v k).2.2) (w := k) (n := nI n) o1 j1 (by omega) (f_X11_weeks_67_l38 f)
          refine ⟨J2, ⟨g2, fun c hc => by rw [g3 c hc, j2 c hc]⟩, ?_⟩
          show f_X11_weeks_67_l38 (f + 1) (nI n) (nI (nwk v k).2.1) (nI (nwk v k).2.2) (nI k) J L = _
          rw [f_X11_weeks_67_l38, if_neg (by rw [le_nI (by omega) (by omega)]; omega), lt_eq, cl5, j1.n 5 (by omega), show nI ((nwk v k).1 5) + 1 = nI ((nwk v k).1 5 + 1) from n_add _ 1]
          exact g1)
        n 0 J1 fuel (by omega) ⟨hm1, fun _ _ => rfl⟩ (fuel_gt (by omega))
      have hG' : f_X11_weeks_67_l38 fuel (nI n) 0 0 0 J1 L = f_X11_weeks_67_l38 (m2 + 1) (nI n) (nI (nwk v n).2.1) (nI (nwk v n).2.2) (nI n) J2 L := hG
      obtain ⟨o1, o2, o3, o4⟩ := nwk_ok hw q2 n (Nat.le_refl _)
      refine ⟨nI (100 * (nwk v n).2.2 + (nwk v n).2.1), J1, L, J2, L, ?_, ?_, ?_⟩
      · rw [hF', f_X10_weeks_0_l34, if_pos (by rw [le_nI (by omega) (by omega)]; omega)]
      · rw [hM J1 hm1, if_pos q1, if_pos (el.mpr q2), hG', f_X11_weeks_67_l38, if_pos (by rw [le_nI (by omega) (by omega)]; omega), show (100 : Int32) = nI 100 from rfl, n_mul, n_add]
        congr 3; omega
      · exact ⟨⟨(nwk v n).1, o1, j1, i1.frame (fun k a b => j2 k (by omega))⟩, hr2.frame (fun k hk => by rw [j2 k (by omega), i2 k (by omega)])⟩
    · rw [if_neg (fun z => q2 (el.mp z))]
      exact ⟨-3, I, L, I, L, rfl, by rw [hM I hm, if_pos q1, if_neg (fun z => q2 (el.mp z))], h⟩
  · rw [if_neg q1]
    exact ⟨-1, I, L, I, L, rfl, by rw [hM I hm, if_neg q1], h⟩
end Pass
