/-! change -/
section Change
variable {I J : mI} {L : mL} {v : mV}
def fFall (v : mV) (p x k : Nat) (a : Int32) : Int32 := if v (111 + k) = p ∧ 0 < v (117 + k) ∧ v (117 + k) < wt (v (6 + p)) x (v (99 + k)) then a ||| nI (2 ^ k) else a
def fLig (v : mV) (p x k : Nat) (a : Int32) : Int32 := if v (129 + k) = p ∧ wt (v (6 + p)) x (v (123 + k)) < wV v p (v (123 + k)) then a ||| nI (2 ^ k) else a
theorem cfall (hw : WF v) (hc : CH I 0 v) {p x : Nat} (hp : p < v 0) (hx : x ≤ 9) : f_X7_wouldFall_1 I L (nI p) (nI x) = some (fold (fFall v p x) (v 3) 0 (nI 0)) := by
  have sz := hw.sz
  have kb := hw.kindb p hp
  unfold f_X7_wouldFall_1
  refine loop_to' (F := fun m k a => f_X7_wouldFall_1_l5 I L m (nI p) (nI x) a (nI k)) (fFall v p x) (fun a => some a) (v 3) (fun m k a hk => ?_) (fun m a => ?_) (nI 0) (fuel_gt (by omega))
  · have gb := hw.goodb k hk
    have wl := wt_le (k := v (6 + p)) (m := v (99 + k)) hx
    show f_X7_wouldFall_1_l5 I L (m + 1) (nI p) (nI x) a (nI k) = _
    rw [f_X7_wouldFall_1_l5, hc.c3, if_neg (by rw [le_nI (by omega) (by omega)]; omega), ck_nI (by omega) (by omega), ck_nI (by omega) (by omega), ck_nI (by omega) (by omega), ck_nI (by omega) (by omega), c_nI (by omega), c_nI (by omega), hc.rwhere hw k hk, hc.rrope hw k hk, hc.kind hw p hp, hc.rmass hw k hk, weight_eq kb hx (by omega), Option.bind_some, ck_nI (by omega) (by omega), shl_nI (by omega)]
    simp only [lt_eq, inc_nI]
    unfold fFall
    by_cases q1 : v (111 + k) = p
    · rw [if_pos (by rw [q1])]
      by_cases q2 : 0 < v (117 + k)
      · rw [if_neg (by rw [show (0 : Int32) = nI 0 from rfl, le_nI (by omega) (by omega)]; omega)]
        by_cases q3 : v (117 + k) < wt (v (6 + p)) x (v (99 + k))
        · rw [if_neg (by rw [le_nI (by omega) (by omega)]; omega), if_pos ⟨q1, q2, q3⟩]
        · rw [if_pos (by rw [le_nI (by omega) (by omega)]; omega), if_neg (fun z => q3 z.2.2)]
      · rw [if_pos (by rw [show (0 : Int32) = nI 0 from rfl, le_nI (by omega) (by omega)]; omega), if_neg (fun z => q2 z.2.1)]
    · rw [if_neg (fun z => q1 ((eq_nI (by omega) (by omega)).mp z)), if_neg (fun z => q1 z.1)]
  · show f_X7_wouldFall_1_l5 I L (m + 1) (nI p) (nI x) a (nI (v 3)) = _
    rw [f_X7_wouldFall_1_l5, hc.c3, if_pos (by rw [le_nI (by omega) (by omega)]; omega)]
theorem clig (hw : WF v) (hc : CH I 0 v) {p x : Nat} (hp : p < v 0) (hx : x ≤ 9) : f_X7_wouldBeLighter_1 I L (nI p) (nI x) = some (fold (fLig v p x) (v 4) 0 (nI 0)) := by
  have sz := hw.sz
  have kb := hw.kindb p hp
  unfold f_X7_wouldBeLighter_1
  refine loop_to' (F := fun m k a => f_X7_wouldBeLighter_1_l5 I L m (nI p) (nI x) a (nI k)) (fLig v p x) (fun a => some a) (v 4) (fun m k a hk => ?_) (fun m a => ?_) (nI 0) (fuel_gt (by omega))
  · have pb := hw.personb k hk
    have wl := wt_le (k := v (6 + p)) (m := v (123 + k)) hx
    have wl2 := wV_le hw hp (m := v (123 + k))
    show f_X7_wouldBeLighter_1_l5 I L (m + 1) (nI p) (nI x) a (nI k) = _
    rw [f_X7_wouldBeLighter_1_l5, hc.c4, if_neg (by rw [le_nI (by omega) (by omega)]; omega), ck_nI (by omega) (by omega), lt_eq, ck_nI (by omega) (by omega), ck_nI (by omega) (by omega), c_nI (by omega), c_nI (by omega), hc.rheavy hw k hk, hc.rat_ hw k hk, hc.kind hw p hp, weight_eq kb hx (by omega), Option.bind_some, weightAt_eq hw hc hp (by omega), Option.bind_some, shl_nI (by omega)]
    simp only [lt_eq, inc_nI]
    unfold fLig
    by_cases q1 : v (129 + k) = p
    · rw [if_pos (by rw [q1])]
      by_cases q3 : wt (v (6 + p)) x (v (123 + k)) < wV v p (v (123 + k))
      · rw [if_neg (by rw [le_nI (by omega) (by omega)]; omega), if_pos ⟨q1, q3⟩]
      · rw [if_pos (by rw [le_nI (by omega) (by omega)]; omega), if_neg (fun z => q3 z.2)]
    · rw [if_neg (fun z => q1 ((eq_nI (by omega) (by omega)).mp z)), if_neg (fun z => q1 z.1)]
  · show f_X7_wouldBeLighter_1_l5 I L (m + 1) (nI p) (nI x) a (nI (v 4)) = _
    rw [f_X7_wouldBeLighter_1_l5, hc.c4, if_pos (by rw [le_nI (by omega) (by omega)]; omega)]
theorem mlig0 (hw : WF v) (hm : MH I 68 v) {p x : Nat} {k a : Int32} : f_X11_change_67_l151 I L fuel (nI p) (nI x) 0 k a 0 = some a := by
  rw [fuel_eq, f_X11_change_67_l151, if_neg (show ¬ (0 : Int32) = 1 by decide)]
  split <;> rfl
theorem mlig1 (hw : WF v) (hm : MH I 68 v) {p x : Nat} (hp : p < v 0) (hx : x ≤ 9) : f_X11_change_67_l151 I L fuel (nI p) (nI x) 1 (nI (v (6 + p))) (nI 0) 0 = some (fold (fLig v p x) (v 4) 0 (nI 0)) := by
  have sz := hw.sz
  have kb := hw.kindb p hp
  refine loop_to' (F := fun m k a => f_X11_change_67_l151 I L m (nI p) (nI x) 1 (nI (v (6 + p))) a (nI k)) (fLig v p x) (fun a => some a) (v 4) (fun m k a hk => ?_) (fun m a => ?_) (nI 0) (fuel_gt (by omega))
  · have pb := hw.personb k hk
    have wl := wt_le (k := v (6 + p)) (m := v (123 + k)) hx
    have wl2 := wV_le hw hp (m := v (123 + k))
    have b206 : ∀ s0 : Int32, f_X11_change_67_b206 I L (f_X11_change_67_l151 I L m) (nI p) (nI x) 1 (nI (v (6 + p))) a (nI k) s0 = f_X11_change_67_l151 I L m (nI p) (nI x) 1 (nI (v (6 + p))) (if v (129 + k) = p ∧ ¬ s0 = 0 then a ||| nI (2 ^ k) else a) (nI (k + 1)) := by
      intro s0
      unfold f_X11_change_67_b206
      rw [show (129 : Int32) + nI k = nI (129 + k) from n_add 129 k, ck_nI (by omega) (by omega), c_nI (by omega), hm.n _ (by omega), shl_nI (by omega), show (0 : Int32) = nI 0 from rfl, orz]
      simp only [lt_eq, inc_nI]
      by_cases q1 : v (129 + k) = p
      · rw [if_pos (by rw [q1])]
        by_cases q2 : s0 = nI 0
        · rw [if_pos q2, if_neg (fun z => z.2 q2)]
        · rw [if_neg q2, if_pos ⟨q1, q2⟩]
      · rw [if_neg (fun z => q1 ((eq_nI (by omega) (by omega)).mp z)), if_neg (fun z => q1 z.1)]
    show f_X11_change_67_l151 I L (m + 1) (nI p) (nI x) 1 (nI (v (6 + p))) a (nI k) = _
    rw [f_X11_change_67_l151, cl4, hm.n 4 (by omega), if_neg (by rw [le_nI (by omega) (by omega)]; omega), if_pos rfl, show (123 : Int32) + nI k = nI (123 + k) from n_add 123 k, ck_nI (by omega) (by omega), c_nI (by omega), hm.n _ (by omega), weightBy_eq kb hx (by omega), Option.bind_some, ck_nI (by omega) (by omega), mweight_eq hw hm hp (by omega), Option.bind_some, b206, b206]
    unfold fLig
    by_cases q3 : wt (v (6 + p)) x (v (123 + k)) < wV v p (v (123 + k))
    · rw [if_neg (by rw [le_nI (by omega) (by omega)]; omega)]
      by_cases q1 : v (129 + k) = p
      · rw [if_pos ⟨q1, by decide⟩, if_pos ⟨q1, q3⟩]
      · rw [if_neg (fun z => q1 z.1), if_neg (fun z => q1 z.1)]
    · rw [if_pos (by rw [le_nI (by omega) (by omega)]; omega), if_neg (fun z => z.2 rfl), if_neg (fun z => q3 z.2)]
  · show f_X11_change_67_l151 I L (m + 1) (nI p) (nI x) 1 (nI (v (6 + p))) a (nI (v 4)) = _
    rw [f_X11_change_67_l151, cl4, hm.n 4 (by omega), if_pos (by rw [le_nI (by omega) (by omega)]; omega)]
theorem mfall (hw : WF v) (hm : MH I 68 v) {p x : Nat} (hp : p < v 0) (hx : x ≤ 9) : f_X11_change_67_l46 I L fuel (nI p) (nI x) 0 (nI (v (6 + p))) (nI 0) 0 = some (fold (fFall v p x) (v 3) 0 (nI 0)) := by
  have sz := hw.sz
  have kb := hw.kindb p hp
  refine loop_to' (F := fun m k a => f_X11_change_67_l46 I L m (nI p) (nI x) 0 (nI (v (6 + p))) a (nI k)) (fFall v p x) (fun a => some a) (v 3) (fun m k a hk => ?_) (fun m a => ?_) (nI 0) (fuel_gt (by omega))
  · have gb := hw.goodb k hk
    have wl := wt_le (k := v (6 + p)) (m := v (99 + k)) hx
    have b93 : ∀ s0 : Int32, f_X11_change_67_b93 I L (f_X11_change_67_l46 I L m) (nI p) (nI x) 0 (nI (v (6 + p))) a (nI k) s0 = f_X11_change_67_l46 I L m (nI p) (nI x) 0 (nI (v (6 + p))) (if ¬ s0 = 0 ∧ v (117 + k) < wt (v (6 + p)) x (v (99 + k)) then a ||| nI (2 ^ k) else a) (nI (k + 1)) := by
      intro s0
      unfold f_X11_change_67_b93
      rw [show (99 : Int32) + nI k = nI (99 + k) from n_add 99 k, show (117 : Int32) + nI k = nI (117 + k) from n_add 117 k, ck_nI (by omega) (by omega), c_nI (by omega), c_nI (by omega), hm.n _ (by omega), hm.n _ (by omega), weightBy_eq kb hx (by omega), Option.bind_some, ck_nI (by omega) (by omega), shl_nI (by omega)]
      simp only [lt_eq, inc_nI]
      by_cases q2 : s0 = 0
      · rw [if_pos q2, if_neg (fun z => z.1 q2), show (0 : Int32) = nI 0 from rfl, orz]
      · rw [if_neg q2]
        by_cases q3 : v (117 + k) < wt (v (6 + p)) x (v (99 + k))
        · rw [if_neg (by rw [le_nI (by omega) (by omega)]; omega), if_pos ⟨q2, q3⟩]
        · rw [if_pos (by rw [le_nI (by omega) (by omega)]; omega), if_neg (fun z => q3 z.2), show (0 : Int32) = nI 0 from rfl, orz]
    have b92 : f_X11_change_67_b92 I L (f_X11_change_67_l46 I L m) (nI p) (nI x) 0 (nI (v (6 + p))) a (nI k) = f_X11_change_67_l46 I L m (nI p) (nI x) 0 (nI (v (6 + p))) a (nI (k + 1)) := by
      unfold f_X11_change_67_b92
      rw [b93, if_neg (fun z => z.1 rfl)]
    show f_X11_change_67_l46 I L (m + 1) (nI p) (nI x) 0 (nI (v (6 + p))) a (nI k) = _
    rw [f_X11_change_67_l46, cl3, hm.n 3 (by omega), if_neg (by rw [le_nI (by omega) (by omega)]; omega), if_pos rfl, show (111 : Int32) + nI k = nI (111 + k) from n_add 111 k, show (117 : Int32) + nI k = nI (117 + k) from n_add 117 k, ck_nI (by omega) (by omega), ck_nI (by omega) (by omega), c_nI (by omega), c_nI (by omega), hm.n _ (by omega), hm.n _ (by omega), b92, b93]
    unfold fFall
    by_cases q1 : v (111 + k) = p
    · rw [if_pos (by rw [q1])]
      by_cases q2 : 0 < v (117 + k)
      · rw [if_neg (by rw [show (0 : Int32) = nI 0 from rfl, le_nI (by omega) (by omega)]; omega)]
        by_cases q3 : v (117 + k) < wt (v (6 + p)) x (v (99 + k))
        · rw [if_pos ⟨by decide, q3⟩, if_pos ⟨q1, q2, q3⟩]
        · rw [if_neg (fun z => q3 z.2), if_neg (fun z => q3 z.2.2)]
      · rw [if_pos (by rw [show (0 : Int32) = nI 0 from rfl, le_nI (by omega) (by omega)]; omega), if_neg (fun z => q2 z.2.1)]
    · rw [if_neg (fun z => q1 ((eq_nI (by omega) (by omega)).mp z)), if_neg (fun z => q1 z.1)]
  · show f_X11_change_67_l46 I L (m + 1) (nI p) (nI x) 0 (nI (v (6 + p))) a (nI (v 3)) = _
    rw [f_X11_change_67_l46, cl3, hm.n 3 (by omega), if_pos (by rw [le_nI (by omega) (by omega)]; omega)]
    exact mlig0 hw hm
theorem mchange1 (hw : WF v) (hm : MH I 68 v) {p x : Nat} (hp : p < v 0) (hx : x ≤ 9) : f_X11_change_67_l46 I L fuel (nI p) (nI x) 1 (nI (v (6 + p))) (nI 0) 0 = some (fold (fLig v p x) (v 4) 0 (nI 0)) := by
  rw [fuel_eq, f_X11_change_67_l46, if_neg (show ¬ (1 : Int32) = 0 by decide)]
  split <;> exact mlig1 hw hm hp hx
theorem st_change {a1 a2 a3 : Int32} (h : Rel I L) : St_change Rel I L a1 a2 a3 := by
  obtain ⟨⟨v, hw, hm, hc⟩, hr2⟩ := id h
  have sz := hw.sz
  unfold St_change f_X10_change_0 f_X11_change_67
  rw [hasParish_n hc.c0 (by omega), within_l 1 9 (by decide) (by decide), within_l 0 1 (by decide) (by decide), isParish_n (hm 0 (by omega)) (by omega), in_l 1 9 (by decide) (by decide), isTwo_n]
  simp only [Option.bind_some, bit_ite]
  by_cases q1 : 0 ≤ a1.toInt ∧ a1.toInt < (v 0 : Int)
  · rw [if_pos q1, if_pos q1]
    by_cases q2 : 1 ≤ a2.toInt ∧ a2.toInt ≤ 9
    · rw [if_pos q2, if_pos q2]
      by_cases q3 : 0 ≤ a3.toInt ∧ a3.toInt ≤ 1
      · rw [if_pos q3, if_pos q3]
        obtain ⟨p, hp, rfl, -⟩ := ofI q1.1 q1.2
        obtain ⟨x, hx, rfl, -⟩ := ofI (n := 10) (a := a2) (by omega) (by omega)
        obtain ⟨y, hy, rfl, -⟩ := ofI (n := 2) (a := a3) (by omega) (by omega)
        rw [show (6 : Int32) + nI p = nI (6 + p) from n_add 6 p, ck_nI (by omega) (by omega), c_nI (by omega), hm.n _ (by omega), lt_eq, cfall hw hc hp (by omega), clig hw hc hp (by omega)]
        by_cases e : y = 0
        · subst e
          refine ⟨fold (fFall v p x) (v 3) 0 (nI 0), by rw [if_pos (show nI 0 = (0 : Int32) from rfl)]; rfl, mfall hw hm hp (by omega), h⟩
        · have : y = 1 := by omega
          subst this
          refine ⟨fold (fLig v p x) (v 4) 0 (nI 0), by rw [if_neg (show ¬ nI 1 = (0 : Int32) by decide)]; rfl, mchange1 hw hm hp (by omega), h⟩
      · rw [if_neg q3, if_neg q3]; exact ⟨-1, rfl, rfl, h⟩
    · rw [if_neg q2, if_neg q2]; exact ⟨-1, rfl, rfl, h⟩
  · rw [if_neg q1, if_neg q1]; exact ⟨-1, rfl, rfl, h⟩
end Change
