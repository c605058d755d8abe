/-! councils: rests -/
noncomputable abbrev Rst (v : mV) (ca a b x y : Nat) : Prop := ∀ i, i < 9 → (cA v ca a b a (i + 1) y ≤ cA v ca a b a x y ∧ cA v ca a b b x (i + 1) ≤ cA v ca a b b x y)
noncomputable def stp (v : mV) (ca a b k : Nat) (s : Nat × Nat) : Nat × Nat := if 0 < k % 10 ∧ Rst v ca a b (k / 10) (k % 10) then (s.1 + 1, if s.1 = 0 then k else s.2) else s
noncomputable def rsq (v : mV) (ca a b n : Nat) : Nat × Nat := fold (fun i s => stp v ca a b (11 + i) s) n 0 (0, 0)
noncomputable def csq (v : mV) (ca a b n : Nat) : Nat × Nat := fold (fun i s => stp v ca a b (10 * (i / 9 + 1) + (i % 9 + 1)) s) n 0 (0, 0)
theorem rsq_s (v : mV) (ca a b n : Nat) : rsq v ca a b (n + 1) = stp v ca a b (11 + n) (rsq v ca a b n) := by unfold rsq; rw [fold_succ, Nat.zero_add]
theorem csq_s (v : mV) (ca a b n : Nat) : csq v ca a b (n + 1) = stp v ca a b (10 * (n / 9 + 1) + (n % 9 + 1)) (csq v ca a b n) := by unfold csq; rw [fold_succ, Nat.zero_add]
theorem stp_0 {v : mV} {ca a b k : Nat} {s : Nat × Nat} (h : k % 10 = 0) : stp v ca a b k s = s := by unfold stp; rw [if_neg (by omega)]
theorem csq_rsq (v : mV) (ca a b : Nat) : ∀ n, csq v ca a b n = rsq v ca a b (n / 9 * 10 + n % 9) := by
  intro n
  induction n with
  | zero => rfl
  | succ n ih =>
    rw [csq_s, ih, show 10 * (n / 9 + 1) + (n % 9 + 1) = 11 + (n / 9 * 10 + n % 9) by omega, ← rsq_s]
    by_cases q : n % 9 = 8
    · rw [show (n + 1) / 9 * 10 + (n + 1) % 9 = (n / 9 * 10 + n % 9 + 1) + 1 by omega, rsq_s v ca a b (n / 9 * 10 + n % 9 + 1), stp_0 (by omega)]
    · rw [show (n + 1) / 9 * 10 + (n + 1) % 9 = n / 9 * 10 + n % 9 + 1 by omega]
theorem csq_end (v : mV) (ca a b : Nat) : csq v ca a b 81 = rsq v ca a b 89 := by
  rw [csq_rsq, show 81 / 9 * 10 + 81 % 9 = 89 + 1 by omega, rsq_s, stp_0 (by omega)]
theorem rsq_ok (v : mV) (ca a b : Nat) : ∀ n, (rsq v ca a b n).1 ≤ n ∧ ((rsq v ca a b n).1 ≠ 0 → (rsq v ca a b n).2 < 11 + n) ∧ ((rsq v ca a b n).1 = 0 → (rsq v ca a b n).2 = 0) := by
  intro n
  induction n with
  | zero => exact ⟨Nat.le_refl 0, fun h => absurd rfl h, fun _ => rfl⟩
  | succ n ih =>
    rw [rsq_s]
    unfold stp
    by_cases q : 0 < (11 + n) % 10 ∧ Rst v ca a b ((11 + n) / 10) ((11 + n) % 10)
    · rw [if_pos q]
      refine ⟨by show (rsq v ca a b n).1 + 1 ≤ n + 1; omega, fun _ => ?_, fun h => absurd h (by show ¬ (rsq v ca a b n).1 + 1 = 0; omega)⟩
      show (if (rsq v ca a b n).1 = 0 then 11 + n else (rsq v ca a b n).2) < 11 + (n + 1)
      split
      · omega
      · have := ih.2.1 (by assumption); omega
    · rw [if_neg q]
      exact ⟨by omega, fun h => by have := ih.2.1 h; omega, ih.2.2⟩
section Rests
variable {I J : mI} {L : mL} {v : mV}
theorem most61_eq {T : Nat → Nat} (hT : ∀ j, j < 81 → I 61 j = nI (T j)) (hT6 : ∀ j, T j ≤ 6) {fi st : Nat} (hfs : ∀ i, i < 9 → fi + i * st < 81) (hst : st ≤ 9) : ∃ M, f_X2_most_61 I L (nI fi) (nI st) = some (nI M) ∧ M ≤ 6 ∧ ∀ x, M ≤ x ↔ ∀ i, i < 9 → T (fi + i * st) ≤ x := by
  unfold f_X2_most_61
  obtain ⟨m', M, ⟨i1, i2⟩, hF⟩ := loop_inv (F := fun f k (M : Nat) => f_X2_most_61_l5 I L f (nI fi) (nI st) (nI M) (nI k)) (n := 9)
    (Inv := fun k M => M ≤ 6 ∧ ∀ x, M ≤ x ↔ ∀ i, i < k → T (fi + i * st) ≤ x)
    (fun f k M hk hI => by
      obtain ⟨i1, i2⟩ := hI
      have h1 := hfs k hk
      have h6 := hT6 (fi + k * st)
      refine ⟨if M < T (fi + k * st) then T (fi + k * st) else M, ⟨by split <;> omega, fun x => ?_⟩, ?_⟩
      · have e : (if M < T (fi + k * st) then T (fi + k * st) else M) ≤ x ↔ M ≤ x ∧ T (fi + k * st) ≤ x := by split <;> omega
        rw [e, i2 x]
        constructor
        · intro h i hi
          by_cases z : i = k
          · subst z; exact h.2
          · exact h.1 i (by omega)
        · intro h; exact ⟨fun i hi => h i (by omega), h k (by omega)⟩
      · show f_X2_most_61_l5 I L (f + 1) (nI fi) (nI st) (nI M) (nI k) = _
        rw [f_X2_most_61_l5, show (9 : Int32) = nI 9 from rfl, if_neg (by rw [le_nI (by omega) (by omega)]; omega), n_mul, n_add, ck_nI h1 (by omega), c_nI (by omega), hT _ h1, lt_eq, lt_eq, inc_nI]
        congr 1
        by_cases z : M < T (fi + k * st)
        · rw [if_pos z, if_pos (by rw [lt_nI (by omega) (by omega)]; exact z)]
        · rw [if_neg z, if_neg (by rw [lt_nI (by omega) (by omega)]; exact z)])
    9 0 0 fuel (by omega) ⟨by omega, fun x => ⟨fun _ i hi => absurd hi (by omega), fun _ => by omega⟩⟩ (fuel_gt (by omega))
  have hF' : f_X2_most_61_l5 I L fuel (nI fi) (nI st) 0 0 = f_X2_most_61_l5 I L (m' + 1) (nI fi) (nI st) (nI M) (nI 9) := hF
  refine ⟨M, ?_, i1, i2⟩
  rw [hF', f_X2_most_61_l5, if_pos (by decide)]
theorem most62_eq {T : Nat → Nat} (hT : ∀ j, j < 81 → I 62 j = nI (T j)) (hT6 : ∀ j, T j ≤ 6) {fi st : Nat} (hfs : ∀ i, i < 9 → fi + i * st < 81) (hst : st ≤ 9) : ∃ M, f_X2_most_62 I L (nI fi) (nI st) = some (nI M) ∧ M ≤ 6 ∧ ∀ x, M ≤ x ↔ ∀ i, i < 9 → T (fi + i * st) ≤ x := by
  unfold f_X2_most_62
  obtain ⟨m', M, ⟨i1, i2⟩, hF⟩ := loop_inv (F := fun f k (M : Nat) => f_X2_most_62_l5 I L f (nI fi) (nI st) (nI M) (nI k)) (n := 9)
    (Inv := fun k M => M ≤ 6 ∧ ∀ x, M ≤ x ↔ ∀ i, i < k → T (fi + i * st) ≤ x)
    (fun f k M hk hI => by
      obtain ⟨i1, i2⟩ := hI
      have h1 := hfs k hk
      have h6 := hT6 (fi + k * st)
      refine ⟨if M < T (fi + k * st) then T (fi + k * st) else M, ⟨by split <;> omega, fun x => ?_⟩, ?_⟩
      · have e : (if M < T (fi + k * st) then T (fi + k * st) else M) ≤ x ↔ M ≤ x ∧ T (fi + k * st) ≤ x := by split <;> omega
        rw [e, i2 x]
        constructor
        · intro h i hi
          by_cases z : i = k
          · subst z; exact h.2
          · exact h.1 i (by omega)
        · intro h; exact ⟨fun i hi => h i (by omega), h k (by omega)⟩
      · show f_X2_most_62_l5 I L (f + 1) (nI fi) (nI st) (nI M) (nI k) = _
        rw [f_X2_most_62_l5, show (9 : Int32) = nI 9 from rfl, if_neg (by rw [le_nI (by omega) (by omega)]; omega), n_mul, n_add, ck_nI h1 (by omega), c_nI (by omega), hT _ h1, lt_eq, lt_eq, inc_nI]
        congr 1
        by_cases z : M < T (fi + k * st)
        · rw [if_pos z, if_pos (by rw [lt_nI (by omega) (by omega)]; exact z)]
        · rw [if_neg z, if_neg (by rw [lt_nI (by omega) (by omega)]; exact z)])
    9 0 0 fuel (by omega) ⟨by omega, fun x => ⟨fun _ i hi => absurd hi (by omega), fun _ => by omega⟩⟩ (fuel_gt (by omega))
  have hF' : f_X2_most_62_l5 I L fuel (nI fi) (nI st) 0 0 = f_X2_most_62_l5 I L (m' + 1) (nI fi) (nI st) (nI M) (nI 9) := hF
  refine ⟨M, ?_, i1, i2⟩
  rw [hF', f_X2_most_62_l5, if_pos (by decide)]
theorem cA_le (hw : WF v) (ca a b p x y : Nat) : cA v ca a b p x y ≤ 6 := Nat.le_trans (tkv_le _ _ _ _) hw.sz.2.2.2.1
/-- the class's scan -/
theorem crests (hw : WF v) {ca a b : Nat} (h1 : ∀ j, j < 81 → I 61 j = nI (cA v ca a b a (j / 9 + 1) (j % 9 + 1))) (h2 : ∀ j, j < 81 → I 62 j = nI (cA v ca a b b (j / 9 + 1) (j % 9 + 1))) (h3 : I 60 4 = nI 0) (h4 : I 60 5 = nI 0) : ∃ J, f_X2_findRests_60_l66 fuel 0 I L = some (J, L) ∧ (∀ k, k ≠ 60 → J k = I k) ∧ J 60 4 = nI (csq v ca a b 81).1 ∧ J 60 5 = nI (csq v ca a b 81).2 := by
  obtain ⟨m', J, ⟨i1, i2, i3⟩, hF⟩ := loop_inv (F := fun f k (J : mI) => f_X2_findRests_60_l66 f (nI k) J L) (n := 81)
    (Inv := fun k J => (∀ k, k ≠ 60 → J k = I k) ∧ J 60 4 = nI (csq v ca a b k).1 ∧ J 60 5 = nI (csq v ca a b k).2)
    (fun f k J hk hI => by
      obtain ⟨i1, i2, i3⟩ := hI
      have rk := rsq_ok v ca a b (k / 9 * 10 + k % 9)
      rw [← csq_rsq] at rk
      obtain ⟨M1, a1, a2, a3⟩ := most61_eq (I := J) (L := L) (T := fun j => cA v ca a b a (j / 9 + 1) (j % 9 + 1)) (fun j hj => by rw [i1 61 (by omega)]; exact h1 j hj) (fun j => cA_le hw ..) (fi := k % 9) (st := 9) (fun i hi => by omega) (by omega)
      obtain ⟨M2, b1, b2, b3⟩ := most62_eq (I := J) (L := L) (T := fun j => cA v ca a b b (j / 9 + 1) (j % 9 + 1)) (fun j hj => by rw [i1 62 (by omega)]; exact h2 j hj) (fun j => cA_le hw ..) (fi := k - k % 9) (st := 1) (fun i hi => by omega) (by omega)
      have l1 := cA_le hw ca a b a (k / 9 + 1) (k % 9 + 1)
      have l2 := cA_le hw ca a b b (k / 9 + 1) (k % 9 + 1)
      have m1 := a3 (cA v ca a b a (k / 9 + 1) (k % 9 + 1))
      have m2 := b3 (cA v ca a b b (k / 9 + 1) (k % 9 + 1))
      have eR : (M1 ≤ cA v ca a b a (k / 9 + 1) (k % 9 + 1) ∧ M2 ≤ cA v ca a b b (k / 9 + 1) (k % 9 + 1)) ↔ Rst v ca a b (k / 9 + 1) (k % 9 + 1) := by
        rw [m1, m2]
        constructor
        · intro h i hi
          have x1 := h.1 i hi
          have x2 := h.2 i hi
          simp only [show (k % 9 + i * 9) / 9 = i by omega, show (k % 9 + i * 9) % 9 = k % 9 by omega] at x1
          simp only [show (k - k % 9 + i * 1) / 9 = k / 9 by omega, show (k - k % 9 + i * 1) % 9 = i by omega] at x2
          exact ⟨x1, x2⟩
        · intro h
          refine ⟨fun i hi => ?_, fun i hi => ?_⟩
          · have x1 := (h i hi).1
            simp only [show (k % 9 + i * 9) / 9 = i by omega, show (k % 9 + i * 9) % 9 = k % 9 by omega]
            exact x1
          · have x2 := (h i hi).2
            simp only [show (k - k % 9 + i * 1) / 9 = k / 9 by omega, show (k - k % 9 + i * 1) % 9 = i by omega]
            exact x2
      have eS : csq v ca a b (k + 1) = if Rst v ca a b (k / 9 + 1) (k % 9 + 1) then ((csq v ca a b k).1 + 1, if (csq v ca a b k).1 = 0 then 10 * (k / 9 + 1) + (k % 9 + 1) else (csq v ca a b k).2) else csq v ca a b k := by
        rw [csq_s]
        unfold stp
        simp only [show (10 * (k / 9 + 1) + (k % 9 + 1)) / 10 = k / 9 + 1 by omega, show (10 * (k / 9 + 1) + (k % 9 + 1)) % 10 = k % 9 + 1 by omega]
        by_cases q : Rst v ca a b (k / 9 + 1) (k % 9 + 1)
        · rw [if_pos q, if_pos ⟨by omega, q⟩]
        · rw [if_neg q, if_neg (fun z => q z.2)]
      have b156 : ∀ s0 : Nat, f_X2_findRests_60_b156 J L (f_X2_findRests_60_l66 f) (nI k) (nI s0) = f_X2_findRests_60_l66 f (nI (k + 1)) (uI (uI J 60 5 (nI s0)) 60 4 (nI ((csq v ca a b k).1 + 1))) L := by
        intro s0
        unfold f_X2_findRests_60_b156
        rw [lt_eq, lt_eq, lt_eq, inc_nI, uI_at, if_neg (by omega), i2, show (1 : Int32) = nI 1 from rfl, n_add]
      have e1 : ∀ x : Nat, nI x + 1 = nI (x + 1) := fun x => n_add x 1
      show ∃ J', _ ∧ f_X2_findRests_60_l66 (f + 1) (nI k) J L = _
      rw [f_X2_findRests_60_l66, show (81 : Int32) = nI 81 from rfl, if_neg (by rw [le_nI (by omega) (by omega)]; omega), ck_nI (by omega) (by omega), show (9 : Int32) = nI 9 from rfl, rem_nI (by omega) (by omega) (by omega), a1, Option.bind_some, c_nI (by omega), i1 61 (by omega), h1 k hk]
      by_cases q1 : M1 ≤ cA v ca a b a (k / 9 + 1) (k % 9 + 1)
      · have es : nI k - nI (k % 9) = nI (k - k % 9) := by
          apply Int32.toInt_inj.mp
          rw [sub_t (by omega) (by omega), t_nI (by omega)]
          omega
        rw [if_neg (by rw [lt_nI (by omega) (by omega)]; omega), ck_nI (by omega) (by omega), es, show (1 : Int32) = nI 1 from rfl, b1, Option.bind_some, i1 62 (by omega), h2 k hk]
        by_cases q2 : M2 ≤ cA v ca a b b (k / 9 + 1) (k % 9 + 1)
        · have hR := eR.mp ⟨q1, q2⟩
          rw [if_pos hR] at eS
          have ev : (10 : Int32) * (nI k / nI 9 + nI 1) + nI (k % 9) + nI 1 = nI (10 * (k / 9 + 1) + (k % 9 + 1)) := by
            rw [div_nI (by omega) (by omega) (by omega), n_add, show (10 : Int32) = nI 10 from rfl, n_mul, n_add, n_add]; congr 1
          rw [if_neg (by rw [lt_nI (by omega) (by omega)]; omega), ev, i2, i3, b156, b156]
          refine ⟨uI (uI J 60 5 (nI (csq v ca a b (k + 1)).2)) 60 4 (nI (csq v ca a b (k + 1)).1), ⟨fun c hc => by rw [uI_cell hc, uI_cell hc]; exact i1 c hc, uI_same _ _ _ _, by rw [uI_at, if_neg (by omega), uI_same]⟩, ?_⟩
          rw [eS]
          show _ = f_X2_findRests_60_l66 f (nI (k + 1)) (uI (uI J 60 5 (nI (if (csq v ca a b k).1 = 0 then 10 * (k / 9 + 1) + (k % 9 + 1) else (csq v ca a b k).2))) 60 4 (nI ((csq v ca a b k).1 + 1))) L
          by_cases z : (csq v ca a b k).1 = 0
          · rw [if_pos z, if_pos (show nI (csq v ca a b k).1 ≤ 0 by rw [z]; decide)]
          · rw [if_neg z, if_neg (show ¬ nI (csq v ca a b k).1 ≤ 0 by rw [show (0 : Int32) = nI 0 from rfl, le_nI (by omega) (by omega)]; omega)]
        · rw [if_neg (fun z => q2 (eR.mpr z).2)] at eS
          rw [if_pos (by rw [lt_nI (by omega) (by omega)]; omega), lt_eq, inc_nI]
          exact ⟨J, ⟨i1, by rw [eS]; exact i2, by rw [eS]; exact i3⟩, rfl⟩
      · rw [if_neg (fun z => q1 (eR.mpr z).1)] at eS
        rw [if_pos (by rw [lt_nI (by omega) (by omega)]; omega), lt_eq, inc_nI]
        exact ⟨J, ⟨i1, by rw [eS]; exact i2, by rw [eS]; exact i3⟩, rfl⟩)
    81 0 I fuel (by omega) ⟨fun _ _ => rfl, h3, h4⟩ (fuel_gt (by omega))
  have hF' : f_X2_findRests_60_l66 fuel 0 I L = f_X2_findRests_60_l66 (m' + 1) (nI 81) J L := hF
  refine ⟨J, ?_, i1, i2, i3⟩
  rw [hF', f_X2_findRests_60_l66, if_pos (by decide)]
theorem ccoun (hw : WF v) (hc : CH I 0 v) {ca a b : Nat} (hca : ca < v 2) (ha : a < v 0) (hb : b < v 0) (hab : a ≠ b) : ∃ J, f_X2_findRests_60 I L (nI a) (nI b) (nI ca) = some (J, L) ∧ (∀ k, k < 48 ∨ 66 < k → J k = I k) ∧ J 60 4 = nI (csq v ca a b 81).1 ∧ J 60 5 = nI (csq v ca a b 81).2 := by
  have sz := hw.sz
  obtain ⟨J1, a1, a2, a3⟩ := fill61_eq (I := I) (L := L)
  obtain ⟨J2, b1, b2, b3⟩ := fill62_eq (I := J1) (L := L)
  have hc2 : CH J2 0 v := hc.frame (fun k p q => by rw [b2 k (by omega), a2 k (by omega)])
  obtain ⟨J3, c1, c2, c3⟩ := harness_hr (L := L) hw hc2 hca
  unfold f_X2_findRests_60
  rw [a1, bndV_some, b1, bndV_some, c1, bndV_some]
  obtain ⟨m', J, ⟨i1, i2, i3, i4⟩, hF⟩ := loop_inv (F := fun f k (J : mI) => f_X2_findRests_60_l27 f (nI a) (nI b) (nI k) J L) (n := v 3)
    (Inv := fun k J => (∀ k, k < 48 ∨ 66 < k → J k = I k) ∧ HR J v ca 0 ∧ (∀ j, j < 81 → J 61 j = nI (tkv (cvv v a b j) ca a k)) ∧ ∀ j, j < 81 → J 62 j = nI (tkv (cvv v a b j) ca b k))
    (fun f k J hk hI => by
      obtain ⟨i1, i2, i3, i4⟩ := hI
      have hcJ : CH J 0 v := hc.frame (fun k p q => i1 k (by omega))
      obtain ⟨J', t1, t2, t3, t4, t5⟩ := addTakes_eq (L := L) hw hcJ hca ha hb hab hk i2 i3 i4
      refine ⟨J', ⟨fun c hc => by rw [t2 c hc, i1 c hc], t3, t4, t5⟩, ?_⟩
      show f_X2_findRests_60_l27 (f + 1) (nI a) (nI b) (nI k) J L = _
      rw [f_X2_findRests_60_l27, hcJ.c3, if_neg (by rw [le_nI (by omega) (by omega)]; omega), t1, bndV_some, lt_eq, inc_nI])
    (v 3) 0 J3 fuel (by omega) ⟨fun k hk => by rw [c2 k (by omega) (by omega), b2 k (by omega), a2 k (by omega)], c3, fun j hj => by rw [c2 61 (by omega) (by omega), b2 61 (by omega)]; exact a3 j hj, fun j hj => by rw [c2 62 (by omega) (by omega)]; exact b3 j hj⟩ (fuel_gt (by omega))
  have hF' : f_X2_findRests_60_l27 fuel (nI a) (nI b) 0 J3 L = f_X2_findRests_60_l27 (m' + 1) (nI a) (nI b) (nI (v 3)) J L := hF
  have c3' : J 1 10 = nI (v 3) := by rw [i1 1 (by omega)]; exact hc.c3
  obtain ⟨J', r1, r2, r3, r4⟩ := crests (I := uI (uI J 60 4 0) 60 5 0) (L := L) (v := v) (ca := ca) (a := a) (b := b) hw (fun j hj => by rw [uI_cell (by omega), uI_cell (by omega)]; exact i3 j hj) (fun j hj => by rw [uI_cell (by omega), uI_cell (by omega)]; exact i4 j hj) (by rw [uI_at, if_neg (by omega), uI_same]; rfl) (by rw [uI_same]; rfl)
  refine ⟨J', ?_, fun k hk => by rw [r2 k (by omega), uI_cell (by omega), uI_cell (by omega), i1 k hk], r3, r4⟩
  rw [hF', f_X2_findRests_60_l27, c3', if_pos (by rw [le_nI (by omega) (by omega)]; omega), lt_eq, lt_eq]
  exact r1
end Rests
