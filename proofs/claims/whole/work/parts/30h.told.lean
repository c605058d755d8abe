/-! told -/
theorem bit_t {p : Prop} [Decidable p] (h : p) : bit p = 1 := by unfold bit; rw [if_pos h]
theorem bit_f {p : Prop} [Decidable p] (h : ¬ p) : bit p = 0 := by unfold bit; rw [if_neg h]
theorem hasPerson_n {I : mI} {L : mL} {a b : Int32} {n : Nat} (h : I 1 11 = nI n) (hn : n < 2147483648) : f_X10_toldOfPerson_0 I L a b = if 0 ≤ a.toInt ∧ a.toInt < (n : Int) then (if b = 9 then (ck (inb a 6) (some (I 14 a.toNatClampNeg))) else (ck (inb a 6) (some (I 15 a.toNatClampNeg)))) else some (-1) := by
  unfold f_X10_toldOfPerson_0
  rw [h]
  have h0 : (0 : Int32).toInt = 0 := by decide
  by_cases q : 0 ≤ a.toInt ∧ a.toInt < (n : Int)
  · rw [if_pos q, if_neg (by rw [Int32.lt_iff_toInt_lt]; omega), if_pos (by rw [Int32.lt_iff_toInt_lt, t_nI hn]; omega)]
  · rw [if_neg q]
    by_cases q2 : a < 0
    · rw [if_pos q2]
    · rw [if_neg q2, if_neg (by rw [Int32.lt_iff_toInt_lt] at q2; rw [Int32.lt_iff_toInt_lt, t_nI hn]; omega)]
theorem st_told {I : mI} {L : mL} {a1 a2 : Int32} (h : Rel I L) : St_told Rel I L a1 a2 := by
  obtain ⟨⟨v, hw, hm, hc⟩, hr2⟩ := id h
  have w1 : v 1 ≤ 15 := hw.2.1
  have w2 : v 2 ≤ 4 := hw.2.2.1
  have w3 : v 3 ≤ 6 := hw.2.2.2.1
  have w4 : v 4 ≤ 6 := hw.2.2.2.2.1
  unfold St_told
  by_cases hr : 0 ≤ a2.toInt ∧ a2.toInt ≤ 10
  · obtain ⟨k, hk, rfl, -⟩ := ofI (a := a2) (n := 11) hr.1 (by omega)
    rcases (show k = 0 ∨ k = 1 ∨ k = 2 ∨ k = 3 ∨ k = 4 ∨ k = 5 ∨ k = 6 ∨ k = 7 ∨ k = 8 ∨ k = 9 ∨ k = 10 by omega) with rfl | rfl | rfl | rfl | rfl | rfl | rfl | rfl | rfl | rfl | rfl
    · have u0 : f_X10_within I L (nI 0) 0 2 = some 1 := rfl
      have m0 : f_X11_in I L (nI 0).toInt64 0 2 = some 1 := rfl
      by_cases h1 : 0 ≤ a1.toInt ∧ a1.toInt < (v 1 : Int)
      · obtain ⟨p, hp, rfl, -⟩ := ofI h1.1 h1.2
        refine ⟨nI (v (46 + p)), ?_, ?_, h⟩
        · unfold f_X10_told_0; rw [u0, Option.bind_some, if_neg (by decide : ¬ (1 : Int32) = 0)]; unfold f_X10_toldOfRoad_0; rw [hasRoad_n hc.c1 (by omega), Option.bind_some, bit_t h1, if_neg (by decide : ¬ (1 : Int32) = 0), if_pos (show nI 0 = 0 from rfl), ck_t (inb_nI (by omega) (by omega)), c_nI (by omega), hc.at (loc_one (by omega)) (by omega) (by unfold live; omega)]; rfl
        · unfold f_X11_told_67; rw [m0, Option.bind_some, if_neg (by decide : ¬ (1 : Int32) = 0), isRoad_n (hm 1 (by omega)) (by omega), Option.bind_some, bit_t h1]; unfold f_X11_told_67_b91; rw [if_neg (by decide : ¬ (1 : Int32) = 0), if_neg (by decide : ¬ (3 : Int32) ≤ nI 0)]; unfold f_X11_told_67_b157; rw [show 46 + 15 * nI 0 = nI 46 from by decide, n_add, ck_t (inb_nI (by omega) (by omega)), c_nI (by omega), hm _ (by omega)]
      · refine ⟨-1, ?_, ?_, h⟩
        · unfold f_X10_told_0; rw [u0, Option.bind_some, if_neg (by decide : ¬ (1 : Int32) = 0)]; unfold f_X10_toldOfRoad_0; rw [hasRoad_n hc.c1 (by omega), Option.bind_some, bit_f h1, if_pos rfl]; rfl
        · unfold f_X11_told_67; rw [m0, Option.bind_some, if_neg (by decide : ¬ (1 : Int32) = 0), isRoad_n (hm 1 (by omega)) (by omega), Option.bind_some, bit_f h1]; unfold f_X11_told_67_b91; rw [if_pos (rfl : (0 : Int32) = 0)]
    · have u0 : f_X10_within I L (nI 1) 0 2 = some 1 := rfl
      have m0 : f_X11_in I L (nI 1).toInt64 0 2 = some 1 := rfl
      by_cases h1 : 0 ≤ a1.toInt ∧ a1.toInt < (v 1 : Int)
      · obtain ⟨p, hp, rfl, -⟩ := ofI h1.1 h1.2
        refine ⟨nI (v (61 + p)), ?_, ?_, h⟩
        · unfold f_X10_told_0; rw [u0, Option.bind_some, if_neg (by decide : ¬ (1 : Int32) = 0)]; unfold f_X10_toldOfRoad_0; rw [hasRoad_n hc.c1 (by omega), Option.bind_some, bit_t h1, if_neg (by decide : ¬ (1 : Int32) = 0), if_neg (by decide : ¬ nI 1 = 0), if_pos (show nI 1 = 1 from rfl), ck_t (inb_nI (by omega) (by omega)), c_nI (by omega), hc.at (loc_oth (by omega)) (by omega) (by unfold live; omega)]; rfl
        · unfold f_X11_told_67; rw [m0, Option.bind_some, if_neg (by decide : ¬ (1 : Int32) = 0), isRoad_n (hm 1 (by omega)) (by omega), Option.bind_some, bit_t h1]; unfold f_X11_told_67_b91; rw [if_neg (by decide : ¬ (1 : Int32) = 0), if_neg (by decide : ¬ (3 : Int32) ≤ nI 1)]; unfold f_X11_told_67_b157; rw [show 46 + 15 * nI 1 = nI 61 from by decide, n_add, ck_t (inb_nI (by omega) (by omega)), c_nI (by omega), hm _ (by omega)]
      · refine ⟨-1, ?_, ?_, h⟩
        · unfold f_X10_told_0; rw [u0, Option.bind_some, if_neg (by decide : ¬ (1 : Int32) = 0)]; unfold f_X10_toldOfRoad_0; rw [hasRoad_n hc.c1 (by omega), Option.bind_some, bit_f h1, if_pos rfl]; rfl
        · unfold f_X11_told_67; rw [m0, Option.bind_some, if_neg (by decide : ¬ (1 : Int32) = 0), isRoad_n (hm 1 (by omega)) (by omega), Option.bind_some, bit_f h1]; unfold f_X11_told_67_b91; rw [if_pos (rfl : (0 : Int32) = 0)]
    · have u0 : f_X10_within I L (nI 2) 0 2 = some 1 := rfl
      have m0 : f_X11_in I L (nI 2).toInt64 0 2 = some 1 := rfl
      by_cases h1 : 0 ≤ a1.toInt ∧ a1.toInt < (v 1 : Int)
      · obtain ⟨p, hp, rfl, -⟩ := ofI h1.1 h1.2
        refine ⟨nI (v (76 + p)), ?_, ?_, h⟩
        · unfold f_X10_told_0; rw [u0, Option.bind_some, if_neg (by decide : ¬ (1 : Int32) = 0)]; unfold f_X10_toldOfRoad_0; rw [hasRoad_n hc.c1 (by omega), Option.bind_some, bit_t h1, if_neg (by decide : ¬ (1 : Int32) = 0), if_neg (by decide : ¬ nI 2 = 0), if_neg (by decide : ¬ nI 2 = 1), ck_t (inb_nI (by omega) (by omega)), c_nI (by omega), hc.at (loc_toll (by omega)) (by omega) (by unfold live; omega)]; rfl
        · unfold f_X11_told_67; rw [m0, Option.bind_some, if_neg (by decide : ¬ (1 : Int32) = 0), isRoad_n (hm 1 (by omega)) (by omega), Option.bind_some, bit_t h1]; unfold f_X11_told_67_b91; rw [if_neg (by decide : ¬ (1 : Int32) = 0), if_neg (by decide : ¬ (3 : Int32) ≤ nI 2)]; unfold f_X11_told_67_b157; rw [show 46 + 15 * nI 2 = nI 76 from by decide, n_add, ck_t (inb_nI (by omega) (by omega)), c_nI (by omega), hm _ (by omega)]
      · refine ⟨-1, ?_, ?_, h⟩
        · unfold f_X10_told_0; rw [u0, Option.bind_some, if_neg (by decide : ¬ (1 : Int32) = 0)]; unfold f_X10_toldOfRoad_0; rw [hasRoad_n hc.c1 (by omega), Option.bind_some, bit_f h1, if_pos rfl]; rfl
        · unfold f_X11_told_67; rw [m0, Option.bind_some, if_neg (by decide : ¬ (1 : Int32) = 0), isRoad_n (hm 1 (by omega)) (by omega), Option.bind_some, bit_f h1]; unfold f_X11_told_67_b91; rw [if_pos (rfl : (0 : Int32) = 0)]
    · have u0 : f_X10_within I L (nI 3) 0 2 = some 0 := rfl
      have m0 : f_X11_in I L (nI 3).toInt64 0 2 = some 0 := rfl
      have u1 : f_X10_within I L (nI 3) 3 4 = some 1 := rfl
      have m1 : f_X11_in I L (nI 3).toInt64 3 4 = some 1 := rfl
      by_cases h1 : 0 ≤ a1.toInt ∧ a1.toInt < (v 2 : Int)
      · obtain ⟨p, hp, rfl, -⟩ := ofI h1.1 h1.2
        refine ⟨nI (v (91 + p)), ?_, ?_, h⟩
        · unfold f_X10_told_0; rw [u0, Option.bind_some, if_pos (rfl : (0 : Int32) = 0), u1, Option.bind_some, if_neg (by decide : ¬ (1 : Int32) = 0)]; unfold f_X10_toldOfCart_0; rw [hasCart_n hc.c2 (by omega), Option.bind_some, bit_t h1, if_neg (by decide : ¬ (1 : Int32) = 0), if_pos (show nI 3 = 3 from rfl), ck_t (inb_nI (by omega) (by omega)), c_nI (by omega), hc.at (loc_bear (by omega)) (by omega) (by unfold live; omega)]; rfl
        · unfold f_X11_told_67; rw [m0, Option.bind_some, if_pos (rfl : (0 : Int32) = 0), m1, Option.bind_some, if_neg (by decide : ¬ (1 : Int32) = 0), isCart_n (hm 2 (by omega)) (by omega), Option.bind_some, bit_t h1]; unfold f_X11_told_67_b91; rw [if_neg (by decide : ¬ (1 : Int32) = 0), if_pos (by decide : (3 : Int32) ≤ nI 3), if_neg (by decide : ¬ (5 : Int32) ≤ nI 3)]; unfold f_X11_told_67_b157; rw [show 91 + 4 * (nI 3 - 3) = nI 91 from by decide, n_add, ck_t (inb_nI (by omega) (by omega)), c_nI (by omega), hm _ (by omega)]
      · refine ⟨-1, ?_, ?_, h⟩
        · unfold f_X10_told_0; rw [u0, Option.bind_some, if_pos (rfl : (0 : Int32) = 0), u1, Option.bind_some, if_neg (by decide : ¬ (1 : Int32) = 0)]; unfold f_X10_toldOfCart_0; rw [hasCart_n hc.c2 (by omega), Option.bind_some, bit_f h1, if_pos rfl]; rfl
        · unfold f_X11_told_67; rw [m0, Option.bind_some, if_pos (rfl : (0 : Int32) = 0), m1, Option.bind_some, if_neg (by decide : ¬ (1 : Int32) = 0), isCart_n (hm 2 (by omega)) (by omega), Option.bind_some, bit_f h1]; unfold f_X11_told_67_b91; rw [if_pos (rfl : (0 : Int32) = 0)]
    · have u0 : f_X10_within I L (nI 4) 0 2 = some 0 := rfl
      have m0 : f_X11_in I L (nI 4).toInt64 0 2 = some 0 := rfl
      have u1 : f_X10_within I L (nI 4) 3 4 = some 1 := rfl
      have m1 : f_X11_in I L (nI 4).toInt64 3 4 = some 1 := rfl
      by_cases h1 : 0 ≤ a1.toInt ∧ a1.toInt < (v 2 : Int)
      · obtain ⟨p, hp, rfl, -⟩ := ofI h1.1 h1.2
        refine ⟨nI (v (95 + p)), ?_, ?_, h⟩
        · unfold f_X10_told_0; rw [u0, Option.bind_some, if_pos (rfl : (0 : Int32) = 0), u1, Option.bind_some, if_neg (by decide : ¬ (1 : Int32) = 0)]; unfold f_X10_toldOfCart_0; rw [hasCart_n hc.c2 (by omega), Option.bind_some, bit_t h1, if_neg (by decide : ¬ (1 : Int32) = 0), if_neg (by decide : ¬ nI 4 = 3), ck_t (inb_nI (by omega) (by omega)), c_nI (by omega), hc.at (loc_cost (by omega)) (by omega) (by unfold live; omega)]; rfl
        · unfold f_X11_told_67; rw [m0, Option.bind_some, if_pos (rfl : (0 : Int32) = 0), m1, Option.bind_some, if_neg (by decide : ¬ (1 : Int32) = 0), isCart_n (hm 2 (by omega)) (by omega), Option.bind_some, bit_t h1]; unfold f_X11_told_67_b91; rw [if_neg (by decide : ¬ (1 : Int32) = 0), if_pos (by decide : (3 : Int32) ≤ nI 4), if_neg (by decide : ¬ (5 : Int32) ≤ nI 4)]; unfold f_X11_told_67_b157; rw [show 91 + 4 * (nI 4 - 3) = nI 95 from by decide, n_add, ck_t (inb_nI (by omega) (by omega)), c_nI (by omega), hm _ (by omega)]
      · refine ⟨-1, ?_, ?_, h⟩
        · unfold f_X10_told_0; rw [u0, Option.bind_some, if_pos (rfl : (0 : Int32) = 0), u1, Option.bind_some, if_neg (by decide : ¬ (1 : Int32) = 0)]; unfold f_X10_toldOfCart_0; rw [hasCart_n hc.c2 (by omega), Option.bind_some, bit_f h1, if_pos rfl]; rfl
        · unfold f_X11_told_67; rw [m0, Option.bind_some, if_pos (rfl : (0 : Int32) = 0), m1, Option.bind_some, if_neg (by decide : ¬ (1 : Int32) = 0), isCart_n (hm 2 (by omega)) (by omega), Option.bind_some, bit_f h1]; unfold f_X11_told_67_b91; rw [if_pos (rfl : (0 : Int32) = 0)]
    · have u0 : f_X10_within I L (nI 5) 0 2 = some 0 := rfl
      have m0 : f_X11_in I L (nI 5).toInt64 0 2 = some 0 := rfl
      have u1 : f_X10_within I L (nI 5) 3 4 = some 0 := rfl
      have m1 : f_X11_in I L (nI 5).toInt64 3 4 = some 0 := rfl
      have u2 : f_X10_within I L (nI 5) 5 8 = some 1 := rfl
      have m2 : f_X11_in I L (nI 5).toInt64 5 8 = some 1 := rfl
      by_cases h1 : 0 ≤ a1.toInt ∧ a1.toInt < (v 3 : Int)
      · obtain ⟨p, hp, rfl, -⟩ := ofI h1.1 h1.2
        refine ⟨nI (v (99 + p)), ?_, ?_, h⟩
        · unfold f_X10_told_0; rw [u0, Option.bind_some, if_pos (rfl : (0 : Int32) = 0), u1, Option.bind_some, if_pos (rfl : (0 : Int32) = 0), u2, Option.bind_some, if_neg (by decide : ¬ (1 : Int32) = 0)]; unfold f_X10_toldOfGood_0; rw [hasGood_n hc.c3 (by omega), Option.bind_some, bit_t h1, if_neg (by decide : ¬ (1 : Int32) = 0), if_pos (show nI 5 = 5 from rfl), ck_t (inb_nI (by omega) (by omega)), c_nI (by omega), hc.at (loc_mass (by omega)) (by omega) (by unfold live; omega)]; rfl
        · unfold f_X11_told_67; rw [m0, Option.bind_some, if_pos (rfl : (0 : Int32) = 0), m1, Option.bind_some, if_pos (rfl : (0 : Int32) = 0), m2, Option.bind_some, if_neg (by decide : ¬ (1 : Int32) = 0), isGood_n (hm 3 (by omega)) (by omega), Option.bind_some, bit_t h1]; unfold f_X11_told_67_b91; rw [if_neg (by decide : ¬ (1 : Int32) = 0), if_pos (by decide : (3 : Int32) ≤ nI 5), if_pos (by decide : (5 : Int32) ≤ nI 5), if_neg (by decide : ¬ (9 : Int32) ≤ nI 5)]; unfold f_X11_told_67_b157; rw [show 99 + 6 * (nI 5 - 5) = nI 99 from by decide, n_add, ck_t (inb_nI (by omega) (by omega)), c_nI (by omega), hm _ (by omega)]
      · refine ⟨-1, ?_, ?_, h⟩
        · unfold f_X10_told_0; rw [u0, Option.bind_some, if_pos (rfl : (0 : Int32) = 0), u1, Option.bind_some, if_pos (rfl : (0 : Int32) = 0), u2, Option.bind_some, if_neg (by decide : ¬ (1 : Int32) = 0)]; unfold f_X10_toldOfGood_0; rw [hasGood_n hc.c3 (by omega), Option.bind_some, bit_f h1, if_pos rfl]; rfl
        · unfold f_X11_told_67; rw [m0, Option.bind_some, if_pos (rfl : (0 : Int32) = 0), m1, Option.bind_some, if_pos (rfl : (0 : Int32) = 0), m2, Option.bind_some, if_neg (by decide : ¬ (1 : Int32) = 0), isGood_n (hm 3 (by omega)) (by omega), Option.bind_some, bit_f h1]; unfold f_X11_told_67_b91; rw [if_pos (rfl : (0 : Int32) = 0)]
    · have u0 : f_X10_within I L (nI 6) 0 2 = some 0 := rfl
      have m0 : f_X11_in I L (nI 6).toInt64 0 2 = some 0 := rfl
      have u1 : f_X10_within I L (nI 6) 3 4 = some 0 := rfl
      have m1 : f_X11_in I L (nI 6).toInt64 3 4 = some 0 := rfl
      have u2 : f_X10_within I L (nI 6) 5 8 = some 1 := rfl
      have m2 : f_X11_in I L (nI 6).toInt64 5 8 = some 1 := rfl
      by_cases h1 : 0 ≤ a1.toInt ∧ a1.toInt < (v 3 : Int)
      · obtain ⟨p, hp, rfl, -⟩ := ofI h1.1 h1.2
        refine ⟨nI (v (105 + p)), ?_, ?_, h⟩
        · unfold f_X10_told_0; rw [u0, Option.bind_some, if_pos (rfl : (0 : Int32) = 0), u1, Option.bind_some, if_pos (rfl : (0 : Int32) = 0), u2, Option.bind_some, if_neg (by decide : ¬ (1 : Int32) = 0)]; unfold f_X10_toldOfGood_0; rw [hasGood_n hc.c3 (by omega), Option.bind_some, bit_t h1, if_neg (by decide : ¬ (1 : Int32) = 0), if_neg (by decide : ¬ nI 6 = 5), if_pos (show nI 6 = 6 from rfl), ck_t (inb_nI (by omega) (by omega)), c_nI (by omega), hc.at (loc_price (by omega)) (by omega) (by unfold live; omega)]; rfl
        · unfold f_X11_told_67; rw [m0, Option.bind_some, if_pos (rfl : (0 : Int32) = 0), m1, Option.bind_some, if_pos (rfl : (0 : Int32) = 0), m2, Option.bind_some, if_neg (by decide : ¬ (1 : Int32) = 0), isGood_n (hm 3 (by omega)) (by omega), Option.bind_some, bit_t h1]; unfold f_X11_told_67_b91; rw [if_neg (by decide : ¬ (1 : Int32) = 0), if_pos (by decide : (3 : Int32) ≤ nI 6), if_pos (by decide : (5 : Int32) ≤ nI 6), if_neg (by decide : ¬ (9 : Int32) ≤ nI 6)]; unfold f_X11_told_67_b157; rw [show 99 + 6 * (nI 6 - 5) = nI 105 from by decide, n_add, ck_t (inb_nI (by omega) (by omega)), c_nI (by omega), hm _ (by omega)]
      · refine ⟨-1, ?_, ?_, h⟩
        · unfold f_X10_told_0; rw [u0, Option.bind_some, if_pos (rfl : (0 : Int32) = 0), u1, Option.bind_some, if_pos (rfl : (0 : Int32) = 0), u2, Option.bind_some, if_neg (by decide : ¬ (1 : Int32) = 0)]; unfold f_X10_toldOfGood_0; rw [hasGood_n hc.c3 (by omega), Option.bind_some, bit_f h1, if_pos rfl]; rfl
        · unfold f_X11_told_67; rw [m0, Option.bind_some, if_pos (rfl : (0 : Int32) = 0), m1, Option.bind_some, if_pos (rfl : (0 : Int32) = 0), m2, Option.bind_some, if_neg (by decide : ¬ (1 : Int32) = 0), isGood_n (hm 3 (by omega)) (by omega), Option.bind_some, bit_f h1]; unfold f_X11_told_67_b91; rw [if_pos (rfl : (0 : Int32) = 0)]
    · have u0 : f_X10_within I L (nI 7) 0 2 = some 0 := rfl
      have m0 : f_X11_in I L (nI 7).toInt64 0 2 = some 0 := rfl
      have u1 : f_X10_within I L (nI 7) 3 4 = some 0 := rfl
      have m1 : f_X11_in I L (nI 7).toInt64 3 4 = some 0 := rfl
      have u2 : f_X10_within I L (nI 7) 5 8 = some 1 := rfl
      have m2 : f_X11_in I L (nI 7).toInt64 5 8 = some 1 := rfl
      by_cases h1 : 0 ≤ a1.toInt ∧ a1.toInt < (v 3 : Int)
      · obtain ⟨p, hp, rfl, -⟩ := ofI h1.1 h1.2
        refine ⟨nI (v (111 + p)), ?_, ?_, h⟩
        · unfold f_X10_told_0; rw [u0, Option.bind_some, if_pos (rfl : (0 : Int32) = 0), u1, Option.bind_some, if_pos (rfl : (0 : Int32) = 0), u2, Option.bind_some, if_neg (by decide : ¬ (1 : Int32) = 0)]; unfold f_X10_toldOfGood_0; rw [hasGood_n hc.c3 (by omega), Option.bind_some, bit_t h1, if_neg (by decide : ¬ (1 : Int32) = 0), if_neg (by decide : ¬ nI 7 = 5), if_neg (by decide : ¬ nI 7 = 6), if_pos (show nI 7 = 7 from rfl), ck_t (inb_nI (by omega) (by omega)), c_nI (by omega), hc.at (loc_where (by omega)) (by omega) (by unfold live; omega)]; rfl
        · unfold f_X11_told_67; rw [m0, Option.bind_some, if_pos (rfl : (0 : Int32) = 0), m1, Option.bind_some, if_pos (rfl : (0 : Int32) = 0), m2, Option.bind_some, if_neg (by decide : ¬ (1 : Int32) = 0), isGood_n (hm 3 (by omega)) (by omega), Option.bind_some, bit_t h1]; unfold f_X11_told_67_b91; rw [if_neg (by decide : ¬ (1 : Int32) = 0), if_pos (by decide : (3 : Int32) ≤ nI 7), if_pos (by decide : (5 : Int32) ≤ nI 7), if_neg (by decide : ¬ (9 : Int32) ≤ nI 7)]; unfold f_X11_told_67_b157; rw [show 99 + 6 * (nI 7 - 5) = nI 111 from by decide, n_add, ck_t (inb_nI (by omega) (by omega)), c_nI (by omega), hm _ (by omega)]
      · refine ⟨-1, ?_, ?_, h⟩
        · unfold f_X10_told_0; rw [u0, Option.bind_some, if_pos (rfl : (0 : Int32) = 0), u1, Option.bind_some, if_pos (rfl : (0 : Int32) = 0), u2, Option.bind_some, if_neg (by decide : ¬ (1 : Int32) = 0)]; unfold f_X10_toldOfGood_0; rw [hasGood_n hc.c3 (by omega), Option.bind_some, bit_f h1, if_pos rfl]; rfl
        · unfold f_X11_told_67; rw [m0, Option.bind_some, if_pos (rfl : (0 : Int32) = 0), m1, Option.bind_some, if_pos (rfl : (0 : Int32) = 0), m2, Option.bind_some, if_neg (by decide : ¬ (1 : Int32) = 0), isGood_n (hm 3 (by omega)) (by omega), Option.bind_some, bit_f h1]; unfold f_X11_told_67_b91; rw [if_pos (rfl : (0 : Int32) = 0)]
    · have u0 : f_X10_within I L (nI 8) 0 2 = some 0 := rfl
      have m0 : f_X11_in I L (nI 8).toInt64 0 2 = some 0 := rfl
      have u1 : f_X10_within I L (nI 8) 3 4 = some 0 := rfl
      have m1 : f_X11_in I L (nI 8).toInt64 3 4 = some 0 := rfl
      have u2 : f_X10_within I L (nI 8) 5 8 = some 1 := rfl
      have m2 : f_X11_in I L (nI 8).toInt64 5 8 = some 1 := rfl
      by_cases h1 : 0 ≤ a1.toInt ∧ a1.toInt < (v 3 : Int)
      · obtain ⟨p, hp, rfl, -⟩ := ofI h1.1 h1.2
        refine ⟨nI (v (117 + p)), ?_, ?_, h⟩
        · unfold f_X10_told_0; rw [u0, Option.bind_some, if_pos (rfl : (0 : Int32) = 0), u1, Option.bind_some, if_pos (rfl : (0 : Int32) = 0), u2, Option.bind_some, if_neg (by decide : ¬ (1 : Int32) = 0)]; unfold f_X10_toldOfGood_0; rw [hasGood_n hc.c3 (by omega), Option.bind_some, bit_t h1, if_neg (by decide : ¬ (1 : Int32) = 0), if_neg (by decide : ¬ nI 8 = 5), if_neg (by decide : ¬ nI 8 = 6), if_neg (by decide : ¬ nI 8 = 7), ck_t (inb_nI (by omega) (by omega)), c_nI (by omega), hc.at (loc_rope (by omega)) (by omega) (by unfold live; omega)]; rfl
        · unfold f_X11_told_67; rw [m0, Option.bind_some, if_pos (rfl : (0 : Int32) = 0), m1, Option.bind_some, if_pos (rfl : (0 : Int32) = 0), m2, Option.bind_some, if_neg (by decide : ¬ (1 : Int32) = 0), isGood_n (hm 3 (by omega)) (by omega), Option.bind_some, bit_t h1]; unfold f_X11_told_67_b91; rw [if_neg (by decide : ¬ (1 : Int32) = 0), if_pos (by decide : (3 : Int32) ≤ nI 8), if_pos (by decide : (5 : Int32) ≤ nI 8), if_neg (by decide : ¬ (9 : Int32) ≤ nI 8)]; unfold f_X11_told_67_b157; rw [show 99 + 6 * (nI 8 - 5) = nI 117 from by decide, n_add, ck_t (inb_nI (by omega) (by omega)), c_nI (by omega), hm _ (by omega)]
      · refine ⟨-1, ?_, ?_, h⟩
        · unfold f_X10_told_0; rw [u0, Option.bind_some, if_pos (rfl : (0 : Int32) = 0), u1, Option.bind_some, if_pos (rfl : (0 : Int32) = 0), u2, Option.bind_some, if_neg (by decide : ¬ (1 : Int32) = 0)]; unfold f_X10_toldOfGood_0; rw [hasGood_n hc.c3 (by omega), Option.bind_some, bit_f h1, if_pos rfl]; rfl
        · unfold f_X11_told_67; rw [m0, Option.bind_some, if_pos (rfl : (0 : Int32) = 0), m1, Option.bind_some, if_pos (rfl : (0 : Int32) = 0), m2, Option.bind_some, if_neg (by decide : ¬ (1 : Int32) = 0), isGood_n (hm 3 (by omega)) (by omega), Option.bind_some, bit_f h1]; unfold f_X11_told_67_b91; rw [if_pos (rfl : (0 : Int32) = 0)]
    · have u0 : f_X10_within I L (nI 9) 0 2 = some 0 := rfl
      have m0 : f_X11_in I L (nI 9).toInt64 0 2 = some 0 := rfl
      have u1 : f_X10_within I L (nI 9) 3 4 = some 0 := rfl
      have m1 : f_X11_in I L (nI 9).toInt64 3 4 = some 0 := rfl
      have u2 : f_X10_within I L (nI 9) 5 8 = some 0 := rfl
      have m2 : f_X11_in I L (nI 9).toInt64 5 8 = some 0 := rfl
      have u3 : f_X10_within I L (nI 9) 9 10 = some 1 := rfl
      have m3 : f_X11_in I L (nI 9).toInt64 9 10 = some 1 := rfl
      by_cases h1 : 0 ≤ a1.toInt ∧ a1.toInt < (v 4 : Int)
      · obtain ⟨p, hp, rfl, -⟩ := ofI h1.1 h1.2
        refine ⟨nI (v (123 + p)), ?_, ?_, h⟩
        · unfold f_X10_told_0; rw [u0, Option.bind_some, if_pos (rfl : (0 : Int32) = 0), u1, Option.bind_some, if_pos (rfl : (0 : Int32) = 0), u2, Option.bind_some, if_pos (rfl : (0 : Int32) = 0), u3, Option.bind_some, if_neg (by decide : ¬ (1 : Int32) = 0), hasPerson_n hc.c4 (by omega), if_pos h1, if_pos (show nI 9 = 9 from rfl), ck_t (inb_nI (by omega) (by omega)), c_nI (by omega), hc.at (loc_heavy (by omega)) (by omega) (by unfold live; omega)]; rfl
        · unfold f_X11_told_67; rw [m0, Option.bind_some, if_pos (rfl : (0 : Int32) = 0), m1, Option.bind_some, if_pos (rfl : (0 : Int32) = 0), m2, Option.bind_some, if_pos (rfl : (0 : Int32) = 0), m3, Option.bind_some, if_neg (by decide : ¬ (1 : Int32) = 0), isPerson_n (hm 4 (by omega)) (by omega), Option.bind_some, bit_t h1, if_neg (by decide : ¬ (1 : Int32) = 0)]; unfold f_X11_told_67_b91; rw [if_neg (by decide : ¬ (1 : Int32) = 0), if_pos (by decide : (3 : Int32) ≤ nI 9), if_pos (by decide : (5 : Int32) ≤ nI 9), if_pos (by decide : (9 : Int32) ≤ nI 9)]; unfold f_X11_told_67_b157; rw [show 123 + 6 * (nI 9 - 9) = nI 123 from by decide, n_add, ck_t (inb_nI (by omega) (by omega)), c_nI (by omega), hm _ (by omega)]
      · refine ⟨-1, ?_, ?_, h⟩
        · unfold f_X10_told_0; rw [u0, Option.bind_some, if_pos (rfl : (0 : Int32) = 0), u1, Option.bind_some, if_pos (rfl : (0 : Int32) = 0), u2, Option.bind_some, if_pos (rfl : (0 : Int32) = 0), u3, Option.bind_some, if_neg (by decide : ¬ (1 : Int32) = 0), hasPerson_n hc.c4 (by omega), if_neg h1]; rfl
        · unfold f_X11_told_67; rw [m0, Option.bind_some, if_pos (rfl : (0 : Int32) = 0), m1, Option.bind_some, if_pos (rfl : (0 : Int32) = 0), m2, Option.bind_some, if_pos (rfl : (0 : Int32) = 0), m3, Option.bind_some, if_neg (by decide : ¬ (1 : Int32) = 0), isPerson_n (hm 4 (by omega)) (by omega), Option.bind_some, bit_f h1, if_pos (rfl : (0 : Int32) = 0)]; unfold f_X11_told_67_b90 f_X11_told_67_b91; rw [if_pos (rfl : (0 : Int32) = 0)]
    · have u0 : f_X10_within I L (nI 10) 0 2 = some 0 := rfl
      have m0 : f_X11_in I L (nI 10).toInt64 0 2 = some 0 := rfl
      have u1 : f_X10_within I L (nI 10) 3 4 = some 0 := rfl
      have m1 : f_X11_in I L (nI 10).toInt64 3 4 = some 0 := rfl
      have u2 : f_X10_within I L (nI 10) 5 8 = some 0 := rfl
      have m2 : f_X11_in I L (nI 10).toInt64 5 8 = some 0 := rfl
      have u3 : f_X10_within I L (nI 10) 9 10 = some 1 := rfl
      have m3 : f_X11_in I L (nI 10).toInt64 9 10 = some 1 := rfl
      by_cases h1 : 0 ≤ a1.toInt ∧ a1.toInt < (v 4 : Int)
      · obtain ⟨p, hp, rfl, -⟩ := ofI h1.1 h1.2
        refine ⟨nI (v (129 + p)), ?_, ?_, h⟩
        · unfold f_X10_told_0; rw [u0, Option.bind_some, if_pos (rfl : (0 : Int32) = 0), u1, Option.bind_some, if_pos (rfl : (0 : Int32) = 0), u2, Option.bind_some, if_pos (rfl : (0 : Int32) = 0), u3, Option.bind_some, if_neg (by decide : ¬ (1 : Int32) = 0), hasPerson_n hc.c4 (by omega), if_pos h1, if_neg (by decide : ¬ nI 10 = 9), ck_t (inb_nI (by omega) (by omega)), c_nI (by omega), hc.at (loc_at (by omega)) (by omega) (by unfold live; omega)]; rfl
        · unfold f_X11_told_67; rw [m0, Option.bind_some, if_pos (rfl : (0 : Int32) = 0), m1, Option.bind_some, if_pos (rfl : (0 : Int32) = 0), m2, Option.bind_some, if_pos (rfl : (0 : Int32) = 0), m3, Option.bind_some, if_neg (by decide : ¬ (1 : Int32) = 0), isPerson_n (hm 4 (by omega)) (by omega), Option.bind_some, bit_t h1, if_neg (by decide : ¬ (1 : Int32) = 0)]; unfold f_X11_told_67_b91; rw [if_neg (by decide : ¬ (1 : Int32) = 0), if_pos (by decide : (3 : Int32) ≤ nI 10), if_pos (by decide : (5 : Int32) ≤ nI 10), if_pos (by decide : (9 : Int32) ≤ nI 10)]; unfold f_X11_told_67_b157; rw [show 123 + 6 * (nI 10 - 9) = nI 129 from by decide, n_add, ck_t (inb_nI (by omega) (by omega)), c_nI (by omega), hm _ (by omega)]
      · refine ⟨-1, ?_, ?_, h⟩
        · unfold f_X10_told_0; rw [u0, Option.bind_some, if_pos (rfl : (0 : Int32) = 0), u1, Option.bind_some, if_pos (rfl : (0 : Int32) = 0), u2, Option.bind_some, if_pos (rfl : (0 : Int32) = 0), u3, Option.bind_some, if_neg (by decide : ¬ (1 : Int32) = 0), hasPerson_n hc.c4 (by omega), if_neg h1]; rfl
        · unfold f_X11_told_67; rw [m0, Option.bind_some, if_pos (rfl : (0 : Int32) = 0), m1, Option.bind_some, if_pos (rfl : (0 : Int32) = 0), m2, Option.bind_some, if_pos (rfl : (0 : Int32) = 0), m3, Option.bind_some, if_neg (by decide : ¬ (1 : Int32) = 0), isPerson_n (hm 4 (by omega)) (by omega), Option.bind_some, bit_f h1, if_pos (rfl : (0 : Int32) = 0)]; unfold f_X11_told_67_b90 f_X11_told_67_b91; rw [if_pos (rfl : (0 : Int32) = 0)]
  · refine ⟨-1, ?_, ?_, h⟩
    · unfold f_X10_told_0
      rw [within_l 0 2 (by decide) (by decide), within_l 3 4 (by decide) (by decide), within_l 5 8 (by decide) (by decide), within_l 9 10 (by decide) (by decide)]
      simp only [Option.bind_some, bit_ite]
      rw [if_neg (by omega), if_neg (by omega), if_neg (by omega), if_neg (by omega)]
    · unfold f_X11_told_67
      rw [in_l 0 2 (by decide) (by decide), in_l 3 4 (by decide) (by decide), in_l 5 8 (by decide) (by decide), in_l 9 10 (by decide) (by decide)]
      simp only [Option.bind_some, bit_ite]
      rw [if_neg (by omega), if_neg (by omega), if_neg (by omega), if_neg (by omega)]
      unfold f_X11_told_67_b90 f_X11_told_67_b91
      rw [if_pos rfl]
