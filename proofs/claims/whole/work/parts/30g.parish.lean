/-! parish -/
theorem le_nI {a b : Nat} (ha : a < 2147483648) (hb : b < 2147483648) : nI a ≤ nI b ↔ a ≤ b := by
  rw [Int32.le_iff_toInt_le, t_nI ha, t_nI hb]; omega
theorem lt_nI {a b : Nat} (ha : a < 2147483648) (hb : b < 2147483648) : nI a < nI b ↔ a < b := by
  rw [Int32.lt_iff_toInt_lt, t_nI ha, t_nI hb]; omega
theorem eq_nI {a b : Nat} (ha : a < 2147483648) (hb : b < 2147483648) : nI a = nI b ↔ a = b := eq_lit rfl ha hb
theorem inc_nI (n : Nat) : nI n + Int32.ofInt 1 = nI (n + 1) := nI_1 n
theorem aP_step {I : mI} {L : mL} {m n k : Nat} (hn : n < 8) (hk : k < 4) : f_X3_addParish_2_l14 (m + 1) (nI n) (nI k) I L = f_X3_addParish_2_l14 m (nI n) (nI (k + 1)) (uI I 4 (n * 4 + k) 5) L := by
  have hne : ¬ (4 : Int32) ≤ nI k := fun q => absurd ((le_nI (a := 4) (by omega) (by omega)).mp q) (by omega)
  rw [f_X3_addParish_2_l14, if_neg hne]
  simp only [lt_eq]
  rw [show (4 : Int32) = nI 4 from rfl, n_mul, n_add, ck_t (inb_nI (by omega) (by omega)), c_nI (by omega), inc_nI]
theorem aP_end {I : mI} {L : mL} {m n : Nat} : f_X3_addParish_2_l14 (m + 1) (nI n) (nI 4) I L = some (nI n, uI I 2 5 (I 2 5 + 1), L) := by
  rw [f_X3_addParish_2_l14, if_pos (by decide)]
  rfl
theorem addParish_eq {I : mI} {L : mL} {a : Int32} {n : Nat} (h : I 2 5 = nI n) (hn : n < 8) : f_X3_addParish_2 I L a = some (nI n, uI (uI (uI (uI (uI (uI I 3 n a) 4 (n * 4 + 0) 5) 4 (n * 4 + 1) 5) 4 (n * 4 + 2) 5) 4 (n * 4 + 3) 5) 2 5 (nI (n + 1)), L) := by
  unfold f_X3_addParish_2
  simp only [lt_eq]
  rw [h, ck_t (inb_nI (by omega) (by omega)), c_nI (by omega), show fuel = 999995 + 1 + 1 + 1 + 1 + 1 from rfl, show (0 : Int32) = nI 0 from rfl, aP_step hn (by omega), aP_step hn (by omega), aP_step hn (by omega), aP_step hn (by omega), aP_end]
  rw [uI_cell (by omega), uI_cell (by omega), uI_cell (by omega), uI_cell (by omega), uI_cell (by omega), h, nI_1]
theorem mP_step {I : mI} {L : mL} {m n k : Nat} (hn : n < 8) (hk : k < 4) : f_X11_joins_67_l19 (m + 1) (nI n) (nI k) I L = f_X11_joins_67_l19 m (nI n) (nI (k + 1)) (uI I 68 (14 + (n * 4 + k)) 5) L := by
  have hne : ¬ (4 : Int32) ≤ nI k := fun q => absurd ((le_nI (a := 4) (by omega) (by omega)).mp q) (by omega)
  rw [f_X11_joins_67_l19, if_neg hne]
  simp only [lt_eq]
  have e : 14 + 4 * nI n + nI k = nI (14 + (n * 4 + k)) := by rw [show (4 : Int32) = nI 4 from rfl, show (14 : Int32) = nI 14 from rfl, n_mul, n_add, n_add]; congr 1; omega
  rw [e, ck_t (inb_nI (by omega) (by omega)), c_nI (by omega), inc_nI]
theorem mP_end {I : mI} {L : mL} {m n : Nat} : f_X11_joins_67_l19 (m + 1) (nI n) (nI 4) I L = some (nI n, uI I 68 0 (I 68 0 + 1), L) := by
  rw [f_X11_joins_67_l19, if_pos (by decide)]
  rfl
theorem mjoins_eq {I : mI} {L : mL} {a : Int32} {n : Nat} (h : I 68 0 = nI n) (hn : n < 8) : f_X11_joins_67 I L a = some (nI n, uI (uI (uI (uI (uI (uI I 68 (6 + n) a) 68 (14 + (n * 4 + 0)) 5) 68 (14 + (n * 4 + 1)) 5) 68 (14 + (n * 4 + 2)) 5) 68 (14 + (n * 4 + 3)) 5) 68 0 (nI (n + 1)), L) := by
  unfold f_X11_joins_67
  simp only [lt_eq]
  rw [cl0, h, l_add (a := 6) (s := 6) rfl, ck_t (inb_nI (by omega) (by omega)), c_nI (by omega), show fuel = 999995 + 1 + 1 + 1 + 1 + 1 from rfl, show (0 : Int32) = nI 0 from rfl, mP_step hn (by omega), mP_step hn (by omega), mP_step hn (by omega), mP_step hn (by omega), mP_end]
  rw [mrd (by omega) (mrd (by omega) (mrd (by omega) (mrd (by omega) (mrd (by omega) h)))), nI_1]
theorem st_parish {I : mI} {L : mL} {a1 : Int32} (h : Rel I L) : St_parish Rel I L a1 := by
  obtain ⟨⟨v, hw, hm, hc⟩, hr2⟩ := id h
  have w0 := hw.1
  unfold St_parish f_X10_parish_0
  rw [within_l 0 3 (by decide) (by decide)]
  have hM : ∀ I' : mI, I' 68 0 = nI (v 0) → f_X11_parish_67 I' L a1 = if 0 ≤ a1.toInt ∧ a1.toInt ≤ 3 then (if v 0 = 8 then some (-3, I', L) else f_X11_joins_67 I' L a1) else some (-1, I', L) := by
    intro I' h0
    unfold f_X11_parish_67
    rw [in_l 0 3 (by decide) (by decide)]
    simp only [Option.bind_some, bit_ite, lt_eq, cl0]
    by_cases e : v 0 = 8
    · have e' : I' 68 0 = 8 := h0.trans ((eq_lit (k := 8) rfl (by omega) (by omega)).mpr e)
      simp only [if_pos e', if_pos e]
    · have e' : ¬ I' 68 0 = 8 := fun q => e ((eq_lit (k := 8) rfl (by omega) (by omega)).mp (h0.symm.trans q))
      simp only [if_neg e', if_neg e]
      rw [mjoins_eq h0 (by omega), bndI_some]
  simp only [Option.bind_some, bit_ite, lt_eq]
  have e0 := hm 0 (by omega)
  by_cases h1 : 0 ≤ a1.toInt ∧ a1.toInt ≤ 3
  · rw [if_pos h1]
    by_cases hf : v 0 < 8
    · rw [if_pos (by rw [hc.c0]; exact (lt_lit (k := 8) (by decide) (by omega)).mpr hf), addParish_eq hc.c0 hf, bndI_some]
      obtain ⟨x, hx, rfl, gx⟩ := ofI (a := a1) (n := 4) (by omega) (by omega)
      have hR := rel_many hm hc hr2 (us := [(6 + v 0, x), (14 + (v 0 * 4 + 0), 5), (14 + (v 0 * 4 + 1), 5), (14 + (v 0 * 4 + 2), 5), (14 + (v 0 * 4 + 3), 5), (0, v 0 + 1)]) (in6 (p := fun q => q.1 < 135) (by dsimp only; omega) (by dsimp only; omega) (by dsimp only; omega) (by dsimp only; omega) (by dsimp only; omega) (by dsimp only; omega)) (hw.parish hf (by omega)) (by
        intro j hj hl
        have zz : ∀ i, 1 ≤ i → i ≤ 4 → vus v [(6 + v 0, x), (14 + (v 0 * 4 + 0), 5), (14 + (v 0 * 4 + 1), 5), (14 + (v 0 * 4 + 2), 5), (14 + (v 0 * 4 + 3), 5), (0, v 0 + 1)] i = v i := fun i h1 h2 => by simp only [vus]; rw [vu_n (by omega), vu_n (by omega), vu_n (by omega), vu_n (by omega), vu_n (by omega), vu_n (by omega)]
        have z0 : vus v [(6 + v 0, x), (14 + (v 0 * 4 + 0), 5), (14 + (v 0 * 4 + 1), 5), (14 + (v 0 * 4 + 2), 5), (14 + (v 0 * 4 + 3), 5), (0, v 0 + 1)] 0 = v 0 + 1 := by simp only [vus]; rw [vu_s]
        unfold live at hl
        rw [z0, zz 1 (by omega) (by omega), zz 2 (by omega) (by omega), zz 3 (by omega) (by omega), zz 4 (by omega) (by omega)] at hl
        simp only [List.map_cons, List.map_nil, List.mem_cons, List.not_mem_nil, or_false]
        unfold live
        omega)
      simp only [cIs, mIs] at hR
      rw [loc_kind (by omega), loc_pull (by omega), loc_pull (by omega), loc_pull (by omega), loc_pull (by omega), loc0] at hR
      refine ⟨_, _, _, _, _, rfl, ?_, hR⟩
      have hk : ∀ J : mI, J 68 0 = nI (v 0) → f_X11_parish_67 J L (nI x) = f_X11_joins_67 J L (nI x) := fun J hJ => by rw [hM J hJ, if_pos h1, if_neg (by omega)]
      have hJ0 : (uI (uI (uI (uI (uI (uI I 3 (v 0) (nI x)) 4 (v 0 * 4 + 0) 5) 4 (v 0 * 4 + 1) 5) 4 (v 0 * 4 + 2) 5) 4 (v 0 * 4 + 3) 5) 2 5 (nI (v 0 + 1))) 68 0 = nI (v 0) := by rw [uI_cell (by omega), uI_cell (by omega), uI_cell (by omega), uI_cell (by omega), uI_cell (by omega), uI_cell (by omega)]; exact e0
      rw [hk _ hJ0, mjoins_eq hJ0 hf]
      rfl
    · rw [if_neg (by rw [hc.c0]; exact fun q => hf ((lt_lit (k := 8) (by decide) (by omega)).mp q))]
      exact ⟨-3, I, L, I, L, rfl, by rw [hM I e0, if_pos h1, if_pos (by omega)], h⟩
  · rw [if_neg h1]
    exact ⟨-1, I, L, I, L, rfl, by rw [hM I e0, if_neg h1], h⟩
/-! weights -/
def wt (k p m : Nat) : Nat := if k = 0 then m * p else if k = 1 then m * p + m else if k = 2 then 0 else (m * p + m) / 2
theorem div_nI {a b : Nat} (ha : a < 2147483648) (h0 : 0 < b) (hb : b < 2147483648) : nI a / nI b = nI (a / b) := pk_div (by omega) h0 (by omega)
theorem rem_nI {a b : Nat} (ha : a < 2147483648) (h0 : 0 < b) (hb : b < 2147483648) : nI a - nI a / nI b * nI b = nI (a % b) := pk_rem (by omega) h0 (by omega)
theorem weight_eq {I : mI} {L : mL} {k p m : Nat} (hk : k ≤ 3) (hp : p ≤ 9) (hm : m ≤ 999) : f_X3_weight I L (nI k) (nI p) (nI m) = some (nI (wt k p m)) := by
  have hb : m * p ≤ 999 * 9 := Nat.mul_le_mul hm hp
  unfold f_X3_weight wt
  rcases (show k = 0 ∨ k = 1 ∨ k = 2 ∨ k = 3 by omega) with rfl | rfl | rfl | rfl
  · rw [if_pos (show nI 0 = 0 from rfl), n_mul]; rfl
  · rw [if_neg (by decide), if_pos (show nI 1 = 1 from rfl), n_mul, n_add]; rfl
  · rw [if_neg (by decide), if_neg (by decide), if_pos (show nI 2 = 2 from rfl)]; rfl
  · rw [if_neg (by decide), if_neg (by decide), if_neg (by decide), n_mul, n_add, show (2 : Int32) = nI 2 from rfl, div_nI (by omega) (by omega) (by omega)]; rfl
theorem weightBy_eq {I : mI} {L : mL} {k p m : Nat} (hk : k ≤ 3) (hp : p ≤ 9) (hm : m ≤ 999) : f_X11_weightBy I L (nI k) (nI p) (nI m) = some (nI (wt k p m)) := by
  have hb : m * p ≤ 999 * 9 := Nat.mul_le_mul hm hp
  unfold f_X11_weightBy wt
  simp only [lt_eq]
  rcases (show k = 0 ∨ k = 1 ∨ k = 2 ∨ k = 3 by omega) with rfl | rfl | rfl | rfl
  · rw [if_neg (by decide), if_neg (by decide), if_neg (by decide), n_mul]; rfl
  · rw [if_pos (show nI 1 = 1 from rfl), n_mul, n_add]; rfl
  · rw [if_neg (by decide), if_pos (show nI 2 = 2 from rfl)]; rfl
  · rw [if_neg (by decide), if_neg (by decide), if_pos (show nI 3 = 3 from rfl), n_mul, n_add, show (2 : Int32) = nI 2 from rfl, div_nI (by omega) (by omega) (by omega)]; rfl
def seaV (v : mV) : Nat := v 5 / 13 % 4
theorem seasonOf_eq {I : mI} {L : mL} {w : Nat} (hw : w < 2147483648) : f_X7_seasonOf I L (nI w) = some (nI (w / 13 % 4)) := by
  unfold f_X7_seasonOf
  have : w / 13 < 2147483648 := by omega
  rw [show (13 : Int32) = nI 13 from rfl, div_nI hw (by omega) (by omega), show (4 : Int32) = nI 4 from rfl, rem_nI this (by omega) (by omega)]
theorem season_eq {I : mI} {L : mL} {v : mV} (hc : I 1 12 = nI (v 5)) (hw : v 5 ≤ 9999) : f_X7_season_1 I L = some (nI (seaV v)) := by
  unfold f_X7_season_1
  rw [hc, seasonOf_eq (by omega)]; rfl
theorem mseason_eq {I : mI} {L : mL} {v : mV} (hc : I 68 5 = nI (v 5)) (hw : v 5 ≤ 9999) : f_X11_season_67 I L = some (nI (seaV v)) := by
  unfold f_X11_season_67
  have : v 5 / 13 < 2147483648 := by omega
  rw [cl5, hc, show (13 : Int32) = nI 13 from rfl, div_nI (by omega) (by omega) (by omega), show (4 : Int32) = nI 4 from rfl, rem_nI this (by omega) (by omega)]; rfl
/-- the weight of a mass in a parish now -/
def wV (v : mV) (p m : Nat) : Nat := wt (v (6 + p)) (v (14 + (4 * p + seaV v))) m
theorem weightAt_eq {I : mI} {L : mL} {v : mV} (hw : WF v) (hc : CH I 0 v) {p m : Nat} (hp : p < v 0) (hm : m ≤ 999) : f_X7_weightAt_1 I L (nI p) (nI m) = some (nI (wV v p m)) := by
  have w0 := hw.1
  have w5 : v 5 ≤ 9999 := hw.2.2.2.2.2.1
  have hs : seaV v < 4 := Nat.mod_lt _ (by omega)
  have k1 := hw.2.2.2.2.2.2.1 p hp
  have k2 := hw.2.2.2.2.2.2.2.1 (4 * p + seaV v) (by omega)
  unfold f_X7_weightAt_1
  have i1 : nI p * 4 + nI (seaV v) = nI (4 * p + seaV v) := by rw [show (4 : Int32) = nI 4 from rfl, n_mul, n_add]; congr 1; omega
  rw [ck_t (inb_nI (by omega) (by omega)), season_eq hc.c5 w5, Option.bind_some, i1, ck_t (inb_nI (by omega) (by omega)), c_nI (by omega), c_nI (by omega), hc.at (loc_kind (by omega)) (by omega) (by unfold live; omega), hc.at (loc_pull (by omega)) (by omega) (by unfold live; omega), weight_eq k1 k2.2 hm]
  rfl
theorem mweight_eq {I : mI} {L : mL} {v : mV} (hw : WF v) (hmh : MH I 68 v) {p m : Nat} (hp : p < v 0) (hm : m ≤ 999) : f_X11_weight_67 I L (nI p) (nI m) = some (nI (wV v p m)) := by
  have w0 := hw.1
  have w5 : v 5 ≤ 9999 := hw.2.2.2.2.2.1
  have hs : seaV v < 4 := Nat.mod_lt _ (by omega)
  have k1 := hw.2.2.2.2.2.2.1 p hp
  have k2 := hw.2.2.2.2.2.2.2.1 (4 * p + seaV v) (by omega)
  unfold f_X11_weight_67
  have i1 : 14 + 4 * nI p + nI (seaV v) = nI (14 + (4 * p + seaV v)) := by rw [show (4 : Int32) = nI 4 from rfl, show (14 : Int32) = nI 14 from rfl, n_mul, n_add, n_add]; congr 1; omega
  rw [l_add (a := 6) (s := 6) rfl, ck_t (inb_nI (by omega) (by omega)), mseason_eq (hmh 5 (by omega)) w5, Option.bind_some, i1, ck_t (inb_nI (by omega) (by omega)), c_nI (by omega), c_nI (by omega), hmh _ (by omega), hmh _ (by omega), weightBy_eq k1 k2.2 hm]
  rfl
theorem st_weighs {I : mI} {L : mL} {a1 a2 : Int32} (h : Rel I L) : St_weighs Rel I L a1 a2 := by
  obtain ⟨⟨v, hw, hm, hc⟩, hr2⟩ := id h
  have w0 := hw.1
  unfold St_weighs f_X10_weighs_0 f_X11_weighs_67
  rw [hasParish_n hc.c0 (by omega), within_l 1 99 (by decide) (by decide), isParish_n (hm 0 (by omega)) (by omega), in_l 1 99 (by decide) (by decide)]
  simp only [Option.bind_some, bit_ite]
  by_cases h1 : 0 ≤ a1.toInt ∧ a1.toInt < (v 0 : Int)
  · by_cases h2 : 1 ≤ a2.toInt ∧ a2.toInt ≤ 99
    · obtain ⟨p, hp, rfl, -⟩ := ofI h1.1 h1.2
      obtain ⟨x, hx, rfl, gx⟩ := ofI (a := a2) (n := 100) (by omega) (by omega)
      rw [if_pos h1, if_pos h2, if_pos h1, if_pos h2, weightAt_eq hw hc hp (by omega), mweight_eq hw hm hp (by omega)]
      exact ⟨_, rfl, rfl, h⟩
    · rw [if_pos h1, if_neg h2, if_pos h1, if_neg h2]
      exact ⟨_, rfl, rfl, h⟩
  · rw [if_neg h1, if_neg h1]
    exact ⟨_, rfl, rfl, h⟩
