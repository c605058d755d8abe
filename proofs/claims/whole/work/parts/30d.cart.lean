theorem addCart_eq {I : mI} {L : mL} {a b : Int32} {n : Nat} (h : I 1 9 = nI n) (hn : n < 4) : f_X7_addCart_1 I L a b = some (nI n, uI (uI (uI I 8 n a) 9 n b) 1 9 (nI (n + 1)), L) := by
  unfold f_X7_addCart_1
  simp only [lt_eq]
  have h1 : (uI I 8 n a) 1 9 = nI n := by rw [uI_cell (by omega)]; exact h
  have h2 : (uI (uI I 8 n a) 9 n b) 1 9 = nI n := by rw [uI_cell (by omega)]; exact h1
  rw [h, ck_t (inb_nI (by omega) (by omega)), c_nI (by omega), h1, ck_t (inb_nI (by omega) (by omega)), c_nI (by omega), h2, uI_same, nI_1, nI_pred]
theorem addGood_eq {I : mI} {L : mL} {a b c : Int32} {n : Nat} (h : I 1 10 = nI n) (hn : n < 6) : f_X7_addGood_1 I L a b c = some (nI n, uI (uI (uI (uI (uI I 10 n a) 11 n b) 12 n c) 13 n 0) 1 10 (nI (n + 1)), L) := by
  unfold f_X7_addGood_1
  simp only [lt_eq]
  have h1 : (uI I 10 n a) 1 10 = nI n := by rw [uI_cell (by omega)]; exact h
  have h2 : (uI (uI I 10 n a) 11 n b) 1 10 = nI n := by rw [uI_cell (by omega)]; exact h1
  have h3 : (uI (uI (uI I 10 n a) 11 n b) 12 n c) 1 10 = nI n := by rw [uI_cell (by omega)]; exact h2
  have h4 : (uI (uI (uI (uI I 10 n a) 11 n b) 12 n c) 13 n 0) 1 10 = nI n := by rw [uI_cell (by omega)]; exact h3
  rw [h, ck_t (inb_nI (by omega) (by omega)), c_nI (by omega), h1, ck_t (inb_nI (by omega) (by omega)), c_nI (by omega), h2, ck_t (inb_nI (by omega) (by omega)), c_nI (by omega), h3, ck_t (inb_nI (by omega) (by omega)), c_nI (by omega), h4, uI_same, nI_1, nI_pred]
theorem addPerson_eq {I : mI} {L : mL} {a b : Int32} {n : Nat} (h : I 1 11 = nI n) (hn : n < 6) : f_X7_addPerson_1 I L a b = some (nI n, uI (uI (uI I 14 n a) 15 n b) 1 11 (nI (n + 1)), L) := by
  unfold f_X7_addPerson_1
  simp only [lt_eq]
  have h1 : (uI I 14 n a) 1 11 = nI n := by rw [uI_cell (by omega)]; exact h
  have h2 : (uI (uI I 14 n a) 15 n b) 1 11 = nI n := by rw [uI_cell (by omega)]; exact h1
  rw [h, ck_t (inb_nI (by omega) (by omega)), c_nI (by omega), h1, ck_t (inb_nI (by omega) (by omega)), c_nI (by omega), h2, uI_same, nI_1, nI_pred]
theorem l_add {a : Int32} {s n : Nat} (ha : a = nI s) : a + nI n = nI (s + n) := by rw [ha, n_add]
theorem mrd {I : mI} {i j : Nat} {x y : Int32} (hij : j ≠ i) (h : I 68 j = y) : (uI I 68 i x) 68 j = y := by rw [uI_at, if_neg (fun q => hij q.2)]; exact h
/-! cart -/
theorem st_cart {I : mI} {L : mL} {a1 a2 : Int32} (h : Rel I L) : St_cart Rel I L a1 a2 := by
  obtain ⟨⟨v, hw, hm, hc⟩, hr2⟩ := id h
  have w2 : v 2 ≤ 4 := hw.2.2.1
  unfold St_cart f_X10_cart_0
  rw [within_l 0 999 (by decide) (by decide), within_l 0 99 (by decide) (by decide)]
  have hM : ∀ I' : mI, I' 68 2 = nI (v 2) → f_X11_cart_67 I' L a1 a2 = if 0 ≤ a1.toInt ∧ a1.toInt ≤ 999 then (if 0 ≤ a2.toInt ∧ a2.toInt ≤ 99 then (if v 2 = 4 then some (-3, I', L) else some (nI (v 2), uI (uI (uI I' 68 (91 + v 2) a1) 68 (95 + v 2) a2) 68 2 (nI (v 2 + 1)), L)) else some (-1, I', L)) else some (-1, I', L) := by
    intro I' h0
    unfold f_X11_cart_67
    rw [in_l 0 999 (by decide) (by decide), in_l 0 99 (by decide) (by decide)]
    simp only [Option.bind_some, bit_ite, lt_eq, cl2]
    by_cases e : v 2 = 4
    · have e' : I' 68 2 = 4 := h0.trans ((eq_lit (k := 4) rfl (by omega) (by omega)).mpr e)
      simp only [if_pos e', if_pos e]
    · have e' : ¬ I' 68 2 = 4 := fun q => e ((eq_lit (k := 4) rfl (by omega) (by omega)).mp (h0.symm.trans q))
      simp only [if_neg e', if_neg e]
      rw [h0, l_add (a := 91) (s := 91) rfl, l_add (a := 95) (s := 95) rfl, ck_t (inb_nI (by omega) (by omega)), ck_t (inb_nI (by omega) (by omega)), c_nI (by omega), c_nI (by omega), mrd (by omega) (mrd (by omega) h0), nI_1]
  simp only [Option.bind_some, bit_ite, lt_eq]
  have e2 := hm 2 (by omega)
  by_cases h1 : 0 ≤ a1.toInt ∧ a1.toInt ≤ 999
  · by_cases h2 : 0 ≤ a2.toInt ∧ a2.toInt ≤ 99
    · rw [if_pos h1, if_pos h2]
      by_cases hf : v 2 < 4
      · rw [if_pos (by rw [hc.c2]; exact (lt_lit (k := 4) (by decide) (by omega)).mpr hf), addCart_eq hc.c2 hf, bndI_some]
        obtain ⟨x, hx, rfl, gx⟩ := ofI (a := a1) (n := 1000) (by omega) (by omega)
        obtain ⟨y, hy, rfl, gy⟩ := ofI (a := a2) (n := 100) (by omega) (by omega)
        have hR := rel_many hm hc hr2 (us := [(91 + v 2, x), (95 + v 2, y), (2, v 2 + 1)]) (by intro q hq; simp only [List.mem_cons, List.not_mem_nil, or_false] at hq; rcases hq with rfl | rfl | rfl <;> dsimp only <;> omega) (hw.cart hf (by omega) (by omega)) (by
          intro j hj hl
          simp only [vus] at hl
          unfold live at hl
          rw [vu_n (show (0 : Nat) ≠ 2 by omega), vu_n (show 0 ≠ 95 + v 2 by omega), vu_n (show 0 ≠ 91 + v 2 by omega), vu_n (show (1 : Nat) ≠ 2 by omega), vu_n (show 1 ≠ 95 + v 2 by omega), vu_n (show 1 ≠ 91 + v 2 by omega), vu_s, vu_n (show (3 : Nat) ≠ 2 by omega), vu_n (show 3 ≠ 95 + v 2 by omega), vu_n (show 3 ≠ 91 + v 2 by omega), vu_n (show (4 : Nat) ≠ 2 by omega), vu_n (show 4 ≠ 95 + v 2 by omega), vu_n (show 4 ≠ 91 + v 2 by omega)] at hl
          simp only [List.map_cons, List.map_nil, List.mem_cons, List.not_mem_nil, or_false]
          unfold live
          omega)
        simp only [cIs, mIs] at hR
        rw [loc_bear (by omega), loc_cost (by omega), loc2] at hR
        refine ⟨_, _, _, _, _, rfl, ?_, hR⟩
        rw [hM _ (by rw [uI_cell (by omega), uI_cell (by omega), uI_cell (by omega)]; exact e2), if_pos h1, if_pos h2, if_neg (by omega)]
      · rw [if_neg (by rw [hc.c2]; exact fun q => hf ((lt_lit (k := 4) (by decide) (by omega)).mp q))]
        exact ⟨-3, I, L, I, L, rfl, by rw [hM I e2, if_pos h1, if_pos h2, if_pos (by omega)], h⟩
    · rw [if_pos h1, if_neg h2]
      exact ⟨-1, I, L, I, L, rfl, by rw [hM I e2, if_pos h1, if_neg h2], h⟩
  · rw [if_neg h1]
    exact ⟨-1, I, L, I, L, rfl, by rw [hM I e2, if_neg h1], h⟩
