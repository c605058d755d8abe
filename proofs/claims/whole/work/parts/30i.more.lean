/-! well, hang, type, drop -/
theorem st_well {I : mI} {L : mL} {a1 a2 : Int32} (h : Rel I L) : St_well Rel I L a1 a2 := by
  obtain ⟨⟨v, hw, hm, hc⟩, hr2⟩ := id h
  have w0 := hw.1
  unfold St_well f_X10_well_0 f_X11_well_67
  rw [hasParish_n hc.c0 (by omega), within_l 1 999 (by decide) (by decide), isParish_n (hm 0 (by omega)) (by omega), in_l 1 999 (by decide) (by decide)]
  simp only [Option.bind_some, bit_ite, lt_eq]
  by_cases h1 : 0 ≤ a1.toInt ∧ a1.toInt < (v 0 : Int)
  · by_cases h2 : 1 ≤ a2.toInt ∧ a2.toInt ≤ 999
    · obtain ⟨p, hp, rfl, -⟩ := ofI h1.1 h1.2
      rw [if_pos h1, if_pos h2, if_pos h1, if_pos h2, l_add (a := 6) (s := 6) rfl, ck_t (inb_nI (by omega) (by omega)), ck_t (inb_nI (by omega) (by omega)), c_nI (by omega), c_nI (by omega), hc.at (loc_kind (by omega)) (by omega) (by unfold live; omega), hm _ (by omega), show (1 : Int32) = nI 1 from rfl, weightAt_eq hw hc hp (by omega), mweight_eq hw hm hp (by omega)]
      simp only [Option.bind_some]
      by_cases q : nI (v (6 + p)) = 2
      · rw [if_pos q]
        exact ⟨_, rfl, rfl, h⟩
      · rw [if_neg q]
        exact ⟨_, rfl, rfl, h⟩
    · rw [if_pos h1, if_neg h2, if_pos h1, if_neg h2]
      exact ⟨_, rfl, rfl, h⟩
  · rw [if_neg h1, if_neg h1]
    exact ⟨_, rfl, rfl, h⟩
theorem WF.rope {v : mV} (h : WF v) {k x : Nat} (hk : k < v 3) (hx9 : x ≤ 999) : WF (vu v (117 + k) x) := by
  obtain ⟨h0, h1, h2, h3, h4, h5, h6, h7, h8, h9, h10, h11, h12⟩ := h
  have e : ∀ j, j < 117 ∨ 123 ≤ j → vu v (117 + k) x j = v j := fun j hj => vu_n (by omega)
  unfold WF
  rw [e 0 (by omega), e 1 (by omega), e 2 (by omega), e 3 (by omega), e 4 (by omega), e 5 (by omega)]
  refine ⟨h0, h1, h2, h3, h4, h5, fun j hj => ?_, fun j hj => ?_, fun j hj => ?_, fun i j hi hj => ?_, fun j hj => ?_, fun j hj => ?_, fun j hj => ?_⟩
  · rw [e _ (by omega)]; exact h6 j hj
  · rw [e _ (by omega)]; exact h7 j hj
  · rw [e _ (by omega), e _ (by omega), e _ (by omega)]; exact h8 j hj
  · rw [e _ (by omega), e _ (by omega), e _ (by omega), e _ (by omega)]; exact h9 i j hi hj
  · rw [e _ (by omega), e _ (by omega)]; exact h10 j hj
  · rw [e _ (by omega), e _ (by omega), e _ (by omega)]
    have := h11 j hj
    by_cases q : j = k
    · subst q; rw [vu_s]; exact ⟨this.1, this.2.1, this.2.2.1, hx9⟩
    · rw [vu_n (by omega)]; exact this
  · rw [e _ (by omega), e _ (by omega)]; exact h12 j hj
theorem weightOfGood_eq {I : mI} {L : mL} {v : mV} (hw : WF v) (hc : CH I 0 v) {g : Nat} (hg : g < v 3) : f_X7_weightOfGood_1 I L (nI g) = some (nI (wV v (v (111 + g)) (v (99 + g)))) := by
  have w3 : v 3 ≤ 6 := hw.2.2.2.1
  have k := hw.2.2.2.2.2.2.2.2.2.2.2.1 g hg
  unfold f_X7_weightOfGood_1
  rw [ck_t (inb_nI (by omega) (by omega)), ck_t (inb_nI (by omega) (by omega)), c_nI (by omega), hc.at (loc_where (by omega)) (by omega) (by unfold live; omega), hc.at (loc_mass (by omega)) (by omega) (by unfold live; omega), weightAt_eq hw hc k.2.2.1 (by omega)]
  rfl
theorem st_hang {I : mI} {L : mL} {a1 a2 : Int32} (h : Rel I L) : St_hang Rel I L a1 a2 := by
  obtain ⟨⟨v, hw, hm, hc⟩, hr2⟩ := id h
  have w3 : v 3 ≤ 6 := hw.2.2.2.1
  have e3 := hm 3 (by omega)
  unfold St_hang
  by_cases h1 : 0 ≤ a1.toInt ∧ a1.toInt < (v 3 : Int)
  · by_cases h2 : 0 ≤ a2.toInt ∧ a2.toInt ≤ 999
    · obtain ⟨g, hg, rfl, -⟩ := ofI h1.1 h1.2
      obtain ⟨x, hx, rfl, gx⟩ := ofI (a := a2) (n := 1000) (by omega) (by omega)
      have k := hw.2.2.2.2.2.2.2.2.2.2.2.1 g hg
      have hlv : live v (117 + g) := by unfold live; omega
      have hb : f_X10_hang_0_b43 I L (nI g) (nI x) = some (nI (v (117 + g)), uI I 13 g (nI x), L) := by
        unfold f_X10_hang_0_b43
        simp only [lt_eq]
        rw [ck_t (inb_nI (by omega) (by omega)), ck_t (inb_nI (by omega) (by omega)), c_nI (by omega), hc.at (loc_rope (by omega)) (by omega) hlv]
      have hbm : ∀ J : mI, MH J 68 v → f_X11_hang_67_b55 J L (nI g) (nI x) = some (nI (v (117 + g)), uI J 68 (117 + g) (nI x), L) := by
        intro J hJ
        unfold f_X11_hang_67_b55
        simp only [lt_eq]
        rw [l_add (a := 117) (s := 117) rfl, ck_t (inb_nI (by omega) (by omega)), ck_t (inb_nI (by omega) (by omega)), c_nI (by omega), hJ _ (by omega)]
      have hX : f_X10_hang_0 I L (nI g) (nI x) = if x = 0 ∨ wV v (v (111 + g)) (v (99 + g)) ≤ x then some (nI (v (117 + g)), uI I 13 g (nI x), L) else some (-2, I, L) := by
        have hwb : wV v (v (111 + g)) (v (99 + g)) < 2147483648 := by
          unfold wV wt
          have k2 := hw.2.2.2.2.2.2.2.1 (4 * v (111 + g) + seaV v) (by have : seaV v < 4 := Nat.mod_lt _ (by omega); omega)
          have : v (99 + g) * v (14 + (4 * v (111 + g) + seaV v)) ≤ 99 * 9 := Nat.mul_le_mul (by omega) (by omega)
          split
          · omega
          · split
            · omega
            · split <;> omega
        unfold f_X10_hang_0
        rw [hasGood_n hc.c3 (by omega), within_l 0 999 (by decide) (by decide)]
        simp only [Option.bind_some, bit_ite]
        rw [if_pos h1, if_pos h2, weightOfGood_eq hw hc hg, hb, Option.bind_some]
        by_cases q : x = 0
        · subst q; rw [if_pos (by decide), if_pos (Or.inl rfl)]
        · have n1 : ¬ nI x ≤ 0 := fun z => q (by have := (le_nI (a := x) (b := 0) (by omega) (by omega)).mp z; omega)
          rw [if_neg n1]
          by_cases q2 : wV v (v (111 + g)) (v (99 + g)) ≤ x
          · rw [if_pos ((le_nI hwb (by omega)).mpr q2), if_pos (Or.inr q2)]
          · rw [if_neg (fun z => q2 ((le_nI hwb (by omega)).mp z)), if_neg (fun z => z.elim q q2)]
      have hY : ∀ J : mI, MH J 68 v → f_X11_hang_67 J L (nI g) (nI x) = if x = 0 ∨ wV v (v (111 + g)) (v (99 + g)) ≤ x then some (nI (v (117 + g)), uI J 68 (117 + g) (nI x), L) else some (-2, J, L) := by
        intro J hJ
        have hwb : wV v (v (111 + g)) (v (99 + g)) < 2147483648 := by
          unfold wV wt
          have k2 := hw.2.2.2.2.2.2.2.1 (4 * v (111 + g) + seaV v) (by have : seaV v < 4 := Nat.mod_lt _ (by omega); omega)
          have : v (99 + g) * v (14 + (4 * v (111 + g) + seaV v)) ≤ 99 * 9 := Nat.mul_le_mul (by omega) (by omega)
          split
          · omega
          · split
            · omega
            · split <;> omega
        unfold f_X11_hang_67
        rw [isGood_n (hJ 3 (by omega)) (by omega), in_l 0 999 (by decide) (by decide)]
        simp only [Option.bind_some, bit_ite]
        rw [if_pos h1, if_pos h2, l_add (a := 111) (s := 111) rfl, l_add (a := 99) (s := 99) rfl, ck_t (inb_nI (by omega) (by omega)), ck_t (inb_nI (by omega) (by omega)), c_nI (by omega), c_nI (by omega), hJ _ (by omega), hJ _ (by omega), mweight_eq hw hJ k.2.2.1 (by omega), hbm J hJ, Option.bind_some]
        by_cases q : x = 0
        · subst q; rw [if_pos (by decide), if_pos (Or.inl rfl)]
        · have n1 : ¬ nI x ≤ 0 := fun z => q (by have := (le_nI (a := x) (b := 0) (by omega) (by omega)).mp z; omega)
          rw [if_neg n1]
          by_cases q2 : wV v (v (111 + g)) (v (99 + g)) ≤ x
          · rw [if_pos ((le_nI hwb (by omega)).mpr q2), if_pos (Or.inr q2)]
          · rw [if_neg (fun z => q2 ((le_nI hwb (by omega)).mp z)), if_neg (fun z => z.elim q q2)]
      by_cases q : x = 0 ∨ wV v (v (111 + g)) (v (99 + g)) ≤ x
      · rw [hX, if_pos q]
        refine ⟨_, _, _, _, _, rfl, ?_, rel_set hm hc hr2 (by omega) (by omega) (loc_rope (by omega)) (hw.rope hg (by omega)) hlv (x := x)⟩
        rw [hY _ (hm.frame (uI_cell (by omega))), if_pos q]
      · rw [hX, if_neg q]
        exact ⟨_, _, _, _, _, rfl, by rw [hY I hm, if_neg q], h⟩
    · refine ⟨-1, I, L, I, L, ?_, ?_, h⟩
      · unfold f_X10_hang_0
        rw [hasGood_n hc.c3 (by omega), within_l 0 999 (by decide) (by decide)]
        simp only [Option.bind_some, bit_ite]
        rw [if_pos h1, if_neg h2]
      · unfold f_X11_hang_67
        rw [isGood_n e3 (by omega), in_l 0 999 (by decide) (by decide)]
        simp only [Option.bind_some, bit_ite]
        rw [if_pos h1, if_neg h2]
  · refine ⟨-1, I, L, I, L, ?_, ?_, h⟩
    · unfold f_X10_hang_0
      rw [hasGood_n hc.c3 (by omega)]
      simp only [Option.bind_some, bit_ite]
      rw [if_neg h1]
    · unfold f_X11_hang_67
      rw [isGood_n e3 (by omega)]
      simp only [Option.bind_some, bit_ite]
      rw [if_neg h1]
/-! type -/
theorem Rel.cells {I I2 : mI} {L L2 : mL} (h : Rel I L) (h1 : ∀ k, 1 ≤ k → k ≤ 15 → I2 k = I k) (h2 : I2 68 = I 68) (h3 : Re2 I2 L2) : Rel I2 L2 := by
  obtain ⟨⟨v, hw, hm, hc⟩, -⟩ := h
  exact ⟨⟨v, hw, hm.frame h2, hc.frame (fun k a b => h1 k (by omega) (by omega))⟩, h3⟩
theorem char_nI {x : Nat} (h : x < 65536) : vp_nar .char ((nI x).toUInt32 % 65536).toInt32 = nI x := by
  have e : ((nI x).toUInt32 % 65536).toInt32 = nI x := by
    rw [pk_char, pk_tn (by omega), Nat.mod_eq_of_lt h]
  rw [e]
  unfold vp_nar
  rw [(pk_charN h).1]
theorem st_type {I : mI} {L : mL} {a1 : Int32} (h : Rel I L) : St_type Rel I L a1 := by
  obtain ⟨hv, hk, ⟨n, t, ht1, ht2, ht3, ht4⟩, hs⟩ := id h
  have hY : ∀ J : mI, J 67 4 = nI n → f_X11_type_67 J L a1 = if 32 ≤ a1.toInt ∧ a1.toInt ≤ 126 then (if n = 120 then some (-3, J, L) else some (nI (n + 1), uI (uI J 70 n a1) 67 4 (nI (n + 1)), L)) else some (-1, J, L) := by
    intro J hJ
    unfold f_X11_type_67
    rw [in_l 32 126 (by decide) (by decide)]
    simp only [Option.bind_some, bit_ite, lt_eq]
    by_cases e : n = 120
    · have e' : J 67 4 = 120 := hJ.trans ((eq_lit (k := 120) rfl (by omega) (by omega)).mpr e)
      simp only [if_pos e', if_pos e]
    · have e' : ¬ J 67 4 = 120 := fun q => e ((eq_lit (k := 120) rfl (by omega) (by omega)).mp (hJ.symm.trans q))
      simp only [if_neg e', if_neg e]
      have j1 : (uI J 70 n a1) 67 4 = nI n := by rw [uI_cell (by omega)]; exact hJ
      rw [hJ, ck_t (inb_nI (by omega) (by omega)), c_nI (by omega), j1, nI_1, uI_same]
  unfold St_type f_X10_type_0
  rw [within_l 32 126 (by decide) (by decide)]
  simp only [Option.bind_some, bit_ite]
  by_cases h1 : 32 ≤ a1.toInt ∧ a1.toInt ≤ 126
  · rw [if_pos h1]
    unfold f_X8_isFull_31
    by_cases hf : n < 120
    · rw [if_pos (by rw [ht2]; exact (lt_lit (k := 120) (by decide) (by omega)).mpr hf), Option.bind_some, if_pos rfl]
      unfold f_X8_add_31
      simp only [lt_eq]
      obtain ⟨x, hx, rfl, gx⟩ := ofI (a := a1) (n := 127) (by omega) (by omega)
      have j1 : ∀ y : Int32, (uI I 32 n y) 31 2 = nI n := fun y => by rw [uI_cell (by omega)]; exact ht2
      rw [ht2, ck_t (inb_nI (by omega) (by omega)), c_nI (by omega), j1, nI_1, uI_same, char_nI (by omega), bndI_some]
      refine ⟨_, _, _, _, _, rfl, by rw [hY _ (by rw [uI_cell (by omega), uI_cell (by omega)]; exact ht3), if_pos h1, if_neg (by omega)], ?_⟩
      refine h.cells (fun k a b => by rw [uI_cell (by omega), uI_cell (by omega), uI_cell (by omega), uI_cell (by omega)]) (by rw [uI_cell (by omega), uI_cell (by omega), uI_cell (by omega), uI_cell (by omega)]) ⟨?_, ⟨n + 1, fun j => if j = n then x else t j, by omega, ?_, ?_, fun j hj => ?_⟩, fun q hq => ?_⟩
      · rcases hk with ⟨k1, k2⟩ | ⟨k1, k2, vk, kw, km, kc⟩
        · left
          rw [uI_at, if_neg (by omega), uI_at, if_neg (by omega), uI_at, if_neg (by omega), uI_at, if_neg (by omega), uI_at, if_neg (by omega), uI_at, if_neg (by omega), uI_at, if_neg (by omega), uI_at, if_neg (by omega)]
          exact ⟨k1, k2⟩
        · right
          refine ⟨by rw [uI_at, if_neg (by omega), uI_at, if_neg (by omega), uI_at, if_neg (by omega), uI_at, if_neg (by omega)]; exact k1, by rw [uI_at, if_neg (by omega), uI_at, if_neg (by omega), uI_at, if_neg (by omega), uI_at, if_neg (by omega)]; exact k2, vk, kw, km.frame (by rw [uI_cell (by omega), uI_cell (by omega), uI_cell (by omega), uI_cell (by omega)]), kc.frame (fun k a b => by rw [uI_cell (by omega), uI_cell (by omega), uI_cell (by omega), uI_cell (by omega)])⟩
      · rw [uI_cell (by omega), uI_cell (by omega), uI_same]
      · rw [uI_same]
      · dsimp only
        by_cases q : j = n
        · subst q
          rw [if_pos rfl]
          refine ⟨by omega, ?_, ?_⟩
          · rw [uI_cell (by omega), uI_cell (by omega), uI_cell (by omega), uI_same]
          · rw [uI_cell (by omega), uI_same]
        · rw [if_neg q]
          have := ht4 j (by omega)
          refine ⟨this.1, ?_, ?_⟩
          · rw [uI_cell (by omega), uI_cell (by omega), uI_cell (by omega), uI_at, if_neg (by omega)]; exact this.2.1
          · rw [uI_cell (by omega), uI_at, if_neg (by omega), uI_cell (by omega), uI_cell (by omega)]; exact this.2.2
      · have := hs q hq
        unfold SHt at this ⊢
        simp only [uI_at, show ¬ (47 : Nat) = 67 by omega, show ¬ (47 : Nat) = 70 by omega, show ¬ (47 : Nat) = 31 by omega, show ¬ (47 : Nat) = 32 by omega, show ¬ (72 : Nat) = 67 by omega, show ¬ (72 : Nat) = 70 by omega, show ¬ (72 : Nat) = 31 by omega, show ¬ (72 : Nat) = 32 by omega, show ¬ (46 : Nat) = 67 by omega, show ¬ (46 : Nat) = 70 by omega, show ¬ (46 : Nat) = 31 by omega, show ¬ (46 : Nat) = 32 by omega, show ¬ (45 : Nat) = 67 by omega, show ¬ (45 : Nat) = 70 by omega, show ¬ (45 : Nat) = 31 by omega, show ¬ (45 : Nat) = 32 by omega, show ¬ (71 : Nat) = 67 by omega, show ¬ (71 : Nat) = 70 by omega, show ¬ (71 : Nat) = 31 by omega, show ¬ (71 : Nat) = 32 by omega, false_and, if_false]
        exact this
    · rw [if_neg (by rw [ht2]; exact fun q => hf ((lt_lit (k := 120) (by decide) (by omega)).mp q)), Option.bind_some, if_neg (by decide)]
      exact ⟨-3, I, L, I, L, rfl, by rw [hY I ht3, if_pos h1, if_pos (by omega)], h⟩
  · rw [if_neg h1]
    exact ⟨-1, I, L, I, L, rfl, by rw [hY I ht3, if_neg h1], h⟩
