/-! checks of numbers, as both sides make them -/
theorem bit_congr {p q : Prop} [Decidable p] [Decidable q] (h : p ↔ q) : bit p = bit q := by
  unfold bit
  by_cases hp : p
  · rw [if_pos hp, if_pos (h.mp hp)]
  · rw [if_neg hp, if_neg (fun x => hp (h.mpr x))]
theorem within_l {I : mI} {L : mL} {a b c : Int32} (lo hi : Int) (hb : b.toInt = lo) (hc : c.toInt = hi) : f_X10_within I L a b c = some (bit (lo ≤ a.toInt ∧ a.toInt ≤ hi)) := by
  rw [within_eq]; subst hb; subst hc; rfl
theorem in_l {I : mI} {L : mL} {a : Int32} {b c : Int64} (lo hi : Int) (hb : b.toInt = lo) (hc : c.toInt = hi) : f_X11_in I L a.toInt64 b c = some (bit (lo ≤ a.toInt ∧ a.toInt ≤ hi)) := by
  rw [in_eq]
  have e : a.toInt64.toInt = a.toInt := Int32.toInt_toInt64 a
  exact congrArg some (bit_congr (by rw [e, hb, hc]))
theorem pred_l {n : Nat} (h : n < 2147483648) : ((nI n - 1).toInt64).toInt = (n : Int) - 1 := by
  rw [Int32.toInt_toInt64]
  by_cases h0 : n = 0
  · subst h0; decide
  · obtain ⟨k, rfl⟩ : ∃ k, n = k + 1 := ⟨n - 1, by omega⟩
    rw [nI_pred, t_nI (by omega)]
    omega
theorem in_p {I : mI} {L : mL} {a : Int32} {n : Nat} (hn : n < 2147483648) : f_X11_in I L a.toInt64 0 ((nI n - 1).toInt64) = some (bit (0 ≤ a.toInt ∧ a.toInt < n)) := by
  rw [in_l (0) ((n : Int) - 1) (by decide) (pred_l hn)]
  exact congrArg some (bit_congr (by omega))
theorem has_n {n : Nat} {x a : Int32} (h : x = nI n) (hn : n < 2147483648) : bit (0 ≤ a.toInt ∧ a.toInt < x.toInt) = bit (0 ≤ a.toInt ∧ a.toInt < n) := bit_congr (by rw [h, t_nI hn])
section Checks
variable {I : mI} {L : mL} {a : Int32} {n : Nat}
theorem hasParish_n (h : I 2 5 = nI n) (hn : n < 2147483648) : f_X3_hasParish_2 I L a = some (bit (0 ≤ a.toInt ∧ a.toInt < n)) := by rw [hasParish_eq, has_n h hn]
theorem hasRoad_n (h : I 2 6 = nI n) (hn : n < 2147483648) : f_X3_hasRoad_2 I L a = some (bit (0 ≤ a.toInt ∧ a.toInt < n)) := by rw [hasRoad_eq, has_n h hn]
theorem hasCart_n (h : I 1 9 = nI n) (hn : n < 2147483648) : f_X7_hasCart_1 I L a = some (bit (0 ≤ a.toInt ∧ a.toInt < n)) := by rw [hasCart_eq, has_n h hn]
theorem hasGood_n (h : I 1 10 = nI n) (hn : n < 2147483648) : f_X7_hasGood_1 I L a = some (bit (0 ≤ a.toInt ∧ a.toInt < n)) := by rw [hasGood_eq, has_n h hn]
theorem cl0 : (0 : Int32).toNatClampNeg = 0 := by decide
theorem cl1 : (1 : Int32).toNatClampNeg = 1 := by decide
theorem cl2 : (2 : Int32).toNatClampNeg = 2 := by decide
theorem cl3 : (3 : Int32).toNatClampNeg = 3 := by decide
theorem cl4 : (4 : Int32).toNatClampNeg = 4 := by decide
theorem cl5 : (5 : Int32).toNatClampNeg = 5 := by decide
theorem isParish_n (h : I 68 0 = nI n) (hn : n < 2147483648) : f_X11_isParish_67 I L a = some (bit (0 ≤ a.toInt ∧ a.toInt < n)) := by
  unfold f_X11_isParish_67; rw [cl0, h, in_p hn, Option.bind_some, ck_t bit_isb]
theorem isRoad_n (h : I 68 1 = nI n) (hn : n < 2147483648) : f_X11_isRoad_67 I L a = some (bit (0 ≤ a.toInt ∧ a.toInt < n)) := by
  unfold f_X11_isRoad_67; rw [cl1, h, in_p hn, Option.bind_some, ck_t bit_isb]
theorem isCart_n (h : I 68 2 = nI n) (hn : n < 2147483648) : f_X11_isCart_67 I L a = some (bit (0 ≤ a.toInt ∧ a.toInt < n)) := by
  unfold f_X11_isCart_67; rw [cl2, h, in_p hn, Option.bind_some, ck_t bit_isb]
theorem isGood_n (h : I 68 3 = nI n) (hn : n < 2147483648) : f_X11_isGood_67 I L a = some (bit (0 ≤ a.toInt ∧ a.toInt < n)) := by
  unfold f_X11_isGood_67; rw [cl3, h, in_p hn, Option.bind_some, ck_t bit_isb]
theorem isPerson_n (h : I 68 4 = nI n) (hn : n < 2147483648) : f_X11_isPerson_67 I L a = some (bit (0 ≤ a.toInt ∧ a.toInt < n)) := by
  unfold f_X11_isPerson_67; rw [cl4, h, in_p hn, Option.bind_some, ck_t bit_isb]
theorem isTwo_n : f_X11_isTwo I L a = some (bit (0 ≤ a.toInt ∧ a.toInt ≤ 1)) := by
  unfold f_X11_isTwo; rw [in_l 0 1 (by decide) (by decide), Option.bind_some, ck_t bit_isb]
end Checks
/-- numbers as sums and products -/
theorem n_add (a b : Nat) : nI a + nI b = nI (a + b) := nI_add a b
theorem n_mul (a b : Nat) : nI a * nI b = nI (a * b) := pk_mul a b
/-- what v says of the class's cells -/
theorem CH.at {I : mI} {v : mV} (h : CH I 0 v) {i c k : Nat} (e : loc i = (c, k)) (hi : i < 135) (hl : live v i) : I c k = nI (v i) := by
  have := h i hi hl
  rw [e] at this
  exact this
theorem loc0 : loc 0 = (2, 5) := by decide
theorem loc1 : loc 1 = (2, 6) := by decide
theorem loc2 : loc 2 = (1, 9) := by decide
theorem loc3 : loc 3 = (1, 10) := by decide
theorem loc4 : loc 4 = (1, 11) := by decide
theorem loc5 : loc 5 = (1, 12) := by decide
theorem CH.c0 {I : mI} {v : mV} (h : CH I 0 v) : I 2 5 = nI (v 0) := h.at loc0 (by omega) (Or.inl (by omega))
theorem CH.c1 {I : mI} {v : mV} (h : CH I 0 v) : I 2 6 = nI (v 1) := h.at loc1 (by omega) (Or.inl (by omega))
theorem CH.c2 {I : mI} {v : mV} (h : CH I 0 v) : I 1 9 = nI (v 2) := h.at loc2 (by omega) (Or.inl (by omega))
theorem CH.c3 {I : mI} {v : mV} (h : CH I 0 v) : I 1 10 = nI (v 3) := h.at loc3 (by omega) (Or.inl (by omega))
theorem CH.c4 {I : mI} {v : mV} (h : CH I 0 v) : I 1 11 = nI (v 4) := h.at loc4 (by omega) (Or.inl (by omega))
theorem CH.c5 {I : mI} {v : mV} (h : CH I 0 v) : I 1 12 = nI (v 5) := h.at loc5 (by omega) (Or.inl (by omega))
/-! pull -/
theorem WF.pull {v : mV} (h : WF v) {k x : Nat} (hk : k < 4 * v 0) (hx : 1 ≤ x) (hx9 : x ≤ 9) : WF (vu v (14 + k) x) := by
  obtain ⟨h0, h1, h2, h3, h4, h5, h6, h7, h8, h9, h10, h11, h12⟩ := h
  have e : ∀ j, j < 14 ∨ 46 ≤ j → vu v (14 + k) x j = v j := fun j hj => vu_n (by omega)
  unfold WF
  rw [e 0 (by omega), e 1 (by omega), e 2 (by omega), e 3 (by omega), e 4 (by omega), e 5 (by omega)]
  refine ⟨h0, h1, h2, h3, h4, h5, fun j hj => ?_, fun j hj => ?_, fun j hj => ?_, fun i j hi hj => ?_, fun j hj => ?_, fun j hj => ?_, fun j hj => ?_⟩
  · rw [e _ (by omega)]; exact h6 j hj
  · by_cases q : j = k
    · subst q; rw [vu_s]; exact ⟨hx, hx9⟩
    · rw [vu_n (by omega)]; exact h7 j hj
  · rw [e _ (by omega), e _ (by omega), e _ (by omega)]; exact h8 j hj
  · rw [e _ (by omega), e _ (by omega), e _ (by omega), e _ (by omega)]; exact h9 i j hi hj
  · rw [e _ (by omega), e _ (by omega)]; exact h10 j hj
  · rw [e _ (by omega), e _ (by omega), e _ (by omega), e _ (by omega)]; exact h11 j hj
  · rw [e _ (by omega), e _ (by omega)]; exact h12 j hj
theorem live_vu {v : mV} {k x i : Nat} (hk : 6 ≤ k) : live (vu v k x) i ↔ live v i := by
  unfold live
  rw [vu_n (by omega), vu_n (by omega), vu_n (by omega), vu_n (by omega), vu_n (by omega)]
/-- one number that counts becomes another one, on both sides -/
theorem rel_set {I : mI} {L : mL} {v : mV} (hm : MH I 68 v) (hc : CH I 0 v) (h2 : Re2 I L) {i c k x : Nat} (hi : i < 135) (hi6 : 6 ≤ i) (e : loc i = (c, k)) (hw : WF (vu v i x)) (hl : live v i) : Rel (uI (uI I c k (nI x)) 68 i (nI x)) L := by
  have hcc := loc_cell hi
  rw [e] at hcc
  refine ⟨⟨vu v i x, hw, ?_, ?_⟩, h2.frame (fun q hq => ?_)⟩
  · exact (hm.frame (uI_cell (by omega))).set i x
  · refine CHs.sub ((hc.set hi e (x := x)).frame (fun q _ _ => uI_cell (by omega))) (fun j hj hlj => Or.inl ((live_vu hi6).mp hlj))
  · rw [uI_cell (by omega), uI_cell (by omega)]
theorem st_pull {I : mI} {L : mL} {a1 a2 a3 : Int32} (h : Rel I L) : St_pull Rel I L a1 a2 a3 := by
  obtain ⟨⟨v, hw, hm, hc⟩, hr2⟩ := id h
  have e0 := hm 0 (by omega)
  have c0 := hc.c0
  have w0 := hw.1
  unfold St_pull f_X10_pull_0
  rw [hasParish_n c0 (by omega), within_l 0 3 (by decide) (by decide), within_l 1 9 (by decide) (by decide)]
  have hM : ∀ I' : mI, I' 68 0 = nI (v 0) → f_X11_pull_67 I' L a1 a2 a3 = if 0 ≤ a1.toInt ∧ a1.toInt < (v 0 : Int) then (if 0 ≤ a2.toInt ∧ a2.toInt ≤ 3 then (if 1 ≤ a3.toInt ∧ a3.toInt ≤ 9 then (ck (inb ((14 + (4 * a1)) + a2) 135) (ck (inb ((14 + (4 * a1)) + a2) 135) (some (I' 68 ((14 + (4 * a1)) + a2).toNatClampNeg, uI I' 68 ((14 + (4 * a1)) + a2).toNatClampNeg a3, L)))) else some (-1, I', L)) else some (-1, I', L)) else some (-1, I', L) := by
    intro I' h0
    unfold f_X11_pull_67
    rw [isParish_n h0 (by omega), in_l 0 3 (by decide) (by decide), in_l 1 9 (by decide) (by decide)]
    simp only [Option.bind_some, bit_ite, lt_eq]
  simp only [Option.bind_some, bit_ite, lt_eq]
  by_cases h1 : 0 ≤ a1.toInt ∧ a1.toInt < (v 0 : Int)
  · by_cases h2 : 0 ≤ a2.toInt ∧ a2.toInt ≤ 3
    · by_cases h3 : 1 ≤ a3.toInt ∧ a3.toInt ≤ 9
      · rw [if_pos h1, if_pos h2, if_pos h3]
        obtain ⟨p, hp, rfl, -⟩ := ofI h1.1 h1.2
        obtain ⟨s, hs4, rfl, -⟩ := ofI (n := 4) h2.1 (by omega)
        obtain ⟨x, hx, rfl, hxx⟩ := ofI (n := 10) (a := a3) (by omega) (by omega)
        have i1 : nI p * 4 + nI s = nI (p * 4 + s) := by rw [show (4 : Int32) = nI 4 from rfl, n_mul, n_add]
        have i2 : 14 + 4 * nI p + nI s = nI (14 + (p * 4 + s)) := by rw [show (4 : Int32) = nI 4 from rfl, show (14 : Int32) = nI 14 from rfl, n_mul, n_add, n_add]; congr 1; omega
        have hk : p * 4 + s < 4 * v 0 := by omega
        have hlv : live v (14 + (p * 4 + s)) := by unfold live; omega
        refine ⟨nI (v (14 + (p * 4 + s))), uI I 4 (p * 4 + s) (nI x), L, uI (uI I 4 (p * 4 + s) (nI x)) 68 (14 + (p * 4 + s)) (nI x), L, ?_, ?_, ?_⟩
        · rw [i1, ck_t (inb_nI (by omega) (by omega)), ck_t (inb_nI (by omega) (by omega)), c_nI (by omega), hc.at (loc_pull (by omega)) (by omega) hlv]
        · rw [hM _ (by rw [uI_cell (by omega)]; exact e0), if_pos h1, if_pos h2, if_pos h3, i2, ck_t (inb_nI (by omega) (by omega)), ck_t (inb_nI (by omega) (by omega)), c_nI (by omega), uI_cell (by omega), hm _ (by omega)]
        · exact rel_set hm hc hr2 (by omega) (by omega) (loc_pull (by omega)) (hw.pull hk (by omega) (by omega)) hlv
      · rw [if_pos h1, if_pos h2, if_neg h3]
        exact ⟨-1, I, L, I, L, rfl, by rw [hM I e0, if_pos h1, if_pos h2, if_neg h3], h⟩
    · rw [if_pos h1, if_neg h2]
      exact ⟨-1, I, L, I, L, rfl, by rw [hM I e0, if_pos h1, if_neg h2], h⟩
  · rw [if_neg h1]
    exact ⟨-1, I, L, I, L, rfl, by rw [hM I e0, if_neg h1], h⟩
