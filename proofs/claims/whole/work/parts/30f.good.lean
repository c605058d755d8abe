/-! good, person -/
theorem in3 {p : Nat × Nat → Prop} {a b c : Nat × Nat} (ha : p a) (hb : p b) (hc : p c) : ∀ q ∈ [a, b, c], p q := by
  intro q hq
  simp only [List.mem_cons, List.not_mem_nil, or_false] at hq
  rcases hq with rfl | rfl | rfl <;> assumption
theorem in5 {p : Nat × Nat → Prop} {a b c d e : Nat × Nat} (ha : p a) (hb : p b) (hc : p c) (hd : p d) (he : p e) : ∀ q ∈ [a, b, c, d, e], p q := by
  intro q hq
  simp only [List.mem_cons, List.not_mem_nil, or_false] at hq
  rcases hq with rfl | rfl | rfl | rfl | rfl <;> assumption
theorem in6 {p : Nat × Nat → Prop} {a b c d e f : Nat × Nat} (ha : p a) (hb : p b) (hc : p c) (hd : p d) (he : p e) (hf : p f) : ∀ q ∈ [a, b, c, d, e, f], p q := by
  intro q hq
  simp only [List.mem_cons, List.not_mem_nil, or_false] at hq
  rcases hq with rfl | rfl | rfl | rfl | rfl | rfl <;> assumption
theorem st_good {I : mI} {L : mL} {a1 a2 a3 : Int32} (h : Rel I L) : St_good Rel I L a1 a2 a3 := by
  obtain ⟨⟨v, hw, hm, hc⟩, hr2⟩ := id h
  have w0 := hw.1
  have w3 : v 3 ≤ 6 := hw.2.2.2.1
  unfold St_good f_X10_good_0
  rw [within_l 1 99 (by decide) (by decide), within_l 1 9 (by decide) (by decide), hasParish_n hc.c0 (by omega)]
  have hM : ∀ I' : mI, I' 68 0 = nI (v 0) → I' 68 3 = nI (v 3) → f_X11_good_67 I' L a1 a2 a3 = if 1 ≤ a1.toInt ∧ a1.toInt ≤ 99 then (if 1 ≤ a2.toInt ∧ a2.toInt ≤ 9 then (if 0 ≤ a3.toInt ∧ a3.toInt < (v 0 : Int) then (if v 3 = 6 then some (-3, I', L) else some (nI (v 3), uI (uI (uI (uI (uI I' 68 (99 + v 3) a1) 68 (105 + v 3) a2) 68 (111 + v 3) a3) 68 (117 + v 3) 0) 68 3 (nI (v 3 + 1)), L)) else some (-1, I', L)) else some (-1, I', L)) else some (-1, I', L) := by
    intro I' h00 h0
    unfold f_X11_good_67
    rw [in_l 1 99 (by decide) (by decide), in_l 1 9 (by decide) (by decide), isParish_n h00 (by omega)]
    simp only [Option.bind_some, bit_ite, lt_eq, cl3]
    by_cases e : v 3 = 6
    · have e' : I' 68 3 = 6 := h0.trans ((eq_lit (k := 6) rfl (by omega) (by omega)).mpr e)
      simp only [if_pos e', if_pos e]
    · have e' : ¬ I' 68 3 = 6 := fun q => e ((eq_lit (k := 6) rfl (by omega) (by omega)).mp (h0.symm.trans q))
      simp only [if_neg e', if_neg e]
      rw [h0, l_add (a := 99) (s := 99) rfl, l_add (a := 105) (s := 105) rfl, l_add (a := 111) (s := 111) rfl, l_add (a := 117) (s := 117) rfl, ck_t (inb_nI (by omega) (by omega)), ck_t (inb_nI (by omega) (by omega)), ck_t (inb_nI (by omega) (by omega)), ck_t (inb_nI (by omega) (by omega)), c_nI (by omega), c_nI (by omega), c_nI (by omega), c_nI (by omega), mrd (by omega) (mrd (by omega) (mrd (by omega) (mrd (by omega) h0))), nI_1]
  simp only [Option.bind_some, bit_ite, lt_eq]
  have e0 := hm 0 (by omega)
  have e3 := hm 3 (by omega)
  by_cases h1 : 1 ≤ a1.toInt ∧ a1.toInt ≤ 99
  · by_cases h2 : 1 ≤ a2.toInt ∧ a2.toInt ≤ 9
    · by_cases h3 : 0 ≤ a3.toInt ∧ a3.toInt < (v 0 : Int)
      · rw [if_pos h1, if_pos h2, if_pos h3]
        by_cases hf : v 3 < 6
        · rw [if_pos (by rw [hc.c3]; exact (lt_lit (k := 6) (by decide) (by omega)).mpr hf), addGood_eq hc.c3 hf, bndI_some]
          obtain ⟨x, hx, rfl, gx⟩ := ofI (a := a1) (n := 100) (by omega) (by omega)
          obtain ⟨y, hy, rfl, gy⟩ := ofI (a := a2) (n := 10) (by omega) (by omega)
          obtain ⟨z, hz, rfl, gz⟩ := ofI (a := a3) h3.1 h3.2
          have hR := rel_many hm hc hr2 (us := [(99 + v 3, x), (105 + v 3, y), (111 + v 3, z), (117 + v 3, 0), (3, v 3 + 1)]) (in5 (p := fun q => q.1 < 135) (by dsimp only; omega) (by dsimp only; omega) (by dsimp only; omega) (by dsimp only; omega) (by dsimp only; omega)) (hw.good hf (by omega) (by omega) hz) (by
            intro j hj hl
            have z0 : vus v [(99 + v 3, x), (105 + v 3, y), (111 + v 3, z), (117 + v 3, 0), (3, v 3 + 1)] 0 = v 0 := by simp only [vus]; rw [vu_n (by omega), vu_n (by omega), vu_n (by omega), vu_n (by omega), vu_n (by omega)]
            have z1 : vus v [(99 + v 3, x), (105 + v 3, y), (111 + v 3, z), (117 + v 3, 0), (3, v 3 + 1)] 1 = v 1 := by simp only [vus]; rw [vu_n (by omega), vu_n (by omega), vu_n (by omega), vu_n (by omega), vu_n (by omega)]
            have z2 : vus v [(99 + v 3, x), (105 + v 3, y), (111 + v 3, z), (117 + v 3, 0), (3, v 3 + 1)] 2 = v 2 := by simp only [vus]; rw [vu_n (by omega), vu_n (by omega), vu_n (by omega), vu_n (by omega), vu_n (by omega)]
            have z3 : vus v [(99 + v 3, x), (105 + v 3, y), (111 + v 3, z), (117 + v 3, 0), (3, v 3 + 1)] 3 = v 3 + 1 := by simp only [vus]; rw [vu_s]
            have z4 : vus v [(99 + v 3, x), (105 + v 3, y), (111 + v 3, z), (117 + v 3, 0), (3, v 3 + 1)] 4 = v 4 := by simp only [vus]; rw [vu_n (by omega), vu_n (by omega), vu_n (by omega), vu_n (by omega), vu_n (by omega)]
            unfold live at hl
            rw [z0, z1, z2, z3, z4] at hl
            simp only [List.map_cons, List.map_nil, List.mem_cons, List.not_mem_nil, or_false]
            unfold live
            omega)
          simp only [cIs, mIs] at hR
          rw [loc_mass (by omega), loc_price (by omega), loc_where (by omega), loc_rope (by omega), loc3] at hR
          refine ⟨_, _, _, _, _, rfl, ?_, hR⟩
          rw [hM _ (by rw [uI_cell (by omega), uI_cell (by omega), uI_cell (by omega), uI_cell (by omega), uI_cell (by omega)]; exact e0) (by rw [uI_cell (by omega), uI_cell (by omega), uI_cell (by omega), uI_cell (by omega), uI_cell (by omega)]; exact e3), if_pos h1, if_pos h2, if_pos h3, if_neg (by omega)]
          rfl
        · rw [if_neg (by rw [hc.c3]; exact fun q => hf ((lt_lit (k := 6) (by decide) (by omega)).mp q))]
          exact ⟨-3, I, L, I, L, rfl, by rw [hM I e0 e3, if_pos h1, if_pos h2, if_pos h3, if_pos (by omega)], h⟩
      · rw [if_pos h1, if_pos h2, if_neg h3]
        exact ⟨-1, I, L, I, L, rfl, by rw [hM I e0 e3, if_pos h1, if_pos h2, if_neg h3], h⟩
    · rw [if_pos h1, if_neg h2]
      exact ⟨-1, I, L, I, L, rfl, by rw [hM I e0 e3, if_pos h1, if_neg h2], h⟩
  · rw [if_neg h1]
    exact ⟨-1, I, L, I, L, rfl, by rw [hM I e0 e3, if_neg h1], h⟩
theorem st_person {I : mI} {L : mL} {a1 a2 : Int32} (h : Rel I L) : St_person Rel I L a1 a2 := by
  obtain ⟨⟨v, hw, hm, hc⟩, hr2⟩ := id h
  have w0 := hw.1
  have w4 : v 4 ≤ 6 := hw.2.2.2.2.1
  unfold St_person f_X10_person_0
  rw [within_l 1 99 (by decide) (by decide), hasParish_n hc.c0 (by omega)]
  have hM : ∀ I' : mI, I' 68 0 = nI (v 0) → I' 68 4 = nI (v 4) → f_X11_person_67 I' L a1 a2 = if 1 ≤ a1.toInt ∧ a1.toInt ≤ 99 then (if 0 ≤ a2.toInt ∧ a2.toInt < (v 0 : Int) then (if v 4 = 6 then some (-3, I', L) else some (nI (v 4), uI (uI (uI I' 68 (123 + v 4) a1) 68 (129 + v 4) a2) 68 4 (nI (v 4 + 1)), L)) else some (-1, I', L)) else some (-1, I', L) := by
    intro I' h00 h0
    unfold f_X11_person_67
    rw [in_l 1 99 (by decide) (by decide), isParish_n h00 (by omega)]
    simp only [Option.bind_some, bit_ite, lt_eq, cl4]
    by_cases e : v 4 = 6
    · have e' : I' 68 4 = 6 := h0.trans ((eq_lit (k := 6) rfl (by omega) (by omega)).mpr e)
      simp only [if_pos e', if_pos e]
    · have e' : ¬ I' 68 4 = 6 := fun q => e ((eq_lit (k := 6) rfl (by omega) (by omega)).mp (h0.symm.trans q))
      simp only [if_neg e', if_neg e]
      rw [h0, l_add (a := 123) (s := 123) rfl, l_add (a := 129) (s := 129) rfl, ck_t (inb_nI (by omega) (by omega)), ck_t (inb_nI (by omega) (by omega)), c_nI (by omega), c_nI (by omega), mrd (by omega) (mrd (by omega) h0), nI_1]
  simp only [Option.bind_some, bit_ite, lt_eq]
  have e0 := hm 0 (by omega)
  have e4 := hm 4 (by omega)
  by_cases h1 : 1 ≤ a1.toInt ∧ a1.toInt ≤ 99
  · by_cases h3 : 0 ≤ a2.toInt ∧ a2.toInt < (v 0 : Int)
    · rw [if_pos h1, if_pos h3]
      by_cases hf : v 4 < 6
      · rw [if_pos (by rw [hc.c4]; exact (lt_lit (k := 6) (by decide) (by omega)).mpr hf), addPerson_eq hc.c4 hf, bndI_some]
        obtain ⟨x, hx, rfl, gx⟩ := ofI (a := a1) (n := 100) (by omega) (by omega)
        obtain ⟨z, hz, rfl, gz⟩ := ofI (a := a2) h3.1 h3.2
        have hR := rel_many hm hc hr2 (us := [(123 + v 4, x), (129 + v 4, z), (4, v 4 + 1)]) (in3 (p := fun q => q.1 < 135) (by dsimp only; omega) (by dsimp only; omega) (by dsimp only; omega)) (hw.person hf (by omega) hz) (by
          intro j hj hl
          have z0 : vus v [(123 + v 4, x), (129 + v 4, z), (4, v 4 + 1)] 0 = v 0 := by simp only [vus]; rw [vu_n (by omega), vu_n (by omega), vu_n (by omega)]
          have z1 : vus v [(123 + v 4, x), (129 + v 4, z), (4, v 4 + 1)] 1 = v 1 := by simp only [vus]; rw [vu_n (by omega), vu_n (by omega), vu_n (by omega)]
          have z2 : vus v [(123 + v 4, x), (129 + v 4, z), (4, v 4 + 1)] 2 = v 2 := by simp only [vus]; rw [vu_n (by omega), vu_n (by omega), vu_n (by omega)]
          have z3 : vus v [(123 + v 4, x), (129 + v 4, z), (4, v 4 + 1)] 3 = v 3 := by simp only [vus]; rw [vu_n (by omega), vu_n (by omega), vu_n (by omega)]
          have z4 : vus v [(123 + v 4, x), (129 + v 4, z), (4, v 4 + 1)] 4 = v 4 + 1 := by simp only [vus]; rw [vu_s]
          unfold live at hl
          rw [z0, z1, z2, z3, z4] at hl
          simp only [List.map_cons, List.map_nil, List.mem_cons, List.not_mem_nil, or_false]
          unfold live
          omega)
        simp only [cIs, mIs] at hR
        rw [loc_heavy (by omega), loc_at (by omega), loc4] at hR
        refine ⟨_, _, _, _, _, rfl, ?_, hR⟩
        rw [hM _ (by rw [uI_cell (by omega), uI_cell (by omega), uI_cell (by omega)]; exact e0) (by rw [uI_cell (by omega), uI_cell (by omega), uI_cell (by omega)]; exact e4), if_pos h1, if_pos h3, if_neg (by omega)]
      · rw [if_neg (by rw [hc.c4]; exact fun q => hf ((lt_lit (k := 6) (by decide) (by omega)).mp q))]
        exact ⟨-3, I, L, I, L, rfl, by rw [hM I e0 e4, if_pos h1, if_pos h3, if_pos (by omega)], h⟩
    · rw [if_pos h1, if_neg h3]
      exact ⟨-1, I, L, I, L, rfl, by rw [hM I e0 e4, if_pos h1, if_neg h3], h⟩
  · rw [if_neg h1]
    exact ⟨-1, I, L, I, L, rfl, by rw [hM I e0 e4, if_neg h1], h⟩
