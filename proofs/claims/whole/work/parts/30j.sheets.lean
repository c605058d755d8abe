/-! sheets -/
theorem isSheetM_n {I : mI} {L : mL} {a : Int32} : f_X11_isSheet I L a = some (bit (0 ≤ a.toInt ∧ a.toInt ≤ 3)) := by
  unfold f_X11_isSheet; rw [in_l 0 3 (by decide) (by decide), Option.bind_some, ck_t bit_isb]
theorem isLaneM_n {I : mI} {L : mL} {a : Int32} : f_X11_isLane I L a = some (bit (0 ≤ a.toInt ∧ a.toInt ≤ 2)) := by
  unfold f_X11_isLane; rw [in_l 0 2 (by decide) (by decide), Option.bind_some, ck_t bit_isb]
theorem isSheetC_n {I : mI} {L : mL} {a : Int32} : f_X6_isSheet I L a = some (bit (0 ≤ a.toInt ∧ a.toInt ≤ 3)) := by
  have : f_X6_isSheet I L a = some (bit (0 ≤ a.toInt ∧ a.toInt < (4 : Int32).toInt)) := has_eq
  rw [this]
  exact congrArg some (bit_congr (by rw [show (4 : Int32).toInt = 4 from by decide]; omega))
theorem isLaneC_n {I : mI} {L : mL} {a b : Int32} : f_X6_isLane I L a b = some (bit ((0 ≤ a.toInt ∧ a.toInt ≤ 3) ∧ (0 ≤ b.toInt ∧ b.toInt ≤ 2))) := by
  unfold f_X6_isLane
  rw [isSheetC_n]
  simp only [Option.bind_some, bit_ite]
  have : (if b < 0 then (some 0) else (if 3 ≤ b then (some 0) else (some 1)) : Option Int32) = some (bit (0 ≤ b.toInt ∧ b.toInt < (3 : Int32).toInt)) := has_eq
  by_cases h : 0 ≤ a.toInt ∧ a.toInt ≤ 3
  · rw [if_pos h, this]
    exact congrArg some (bit_congr (by rw [show (3 : Int32).toInt = 3 from by decide]; omega))
  · rw [if_neg h, bit_f (fun q => h q.1)]
/-- a sheet's change leaves the rest -/
theorem Rel.sheets {I I2 : mI} {L L2 : mL} (h : Rel I L) (hf : ∀ k, k < 45 ∨ (48 ≤ k ∧ k ≤ 70) → I2 k = I k) (hs : ∀ q, q < 4 → SHt I2 L2 q) : Rel I2 L2 := by
  obtain ⟨⟨v, hw, hm, hc⟩, h1, ⟨n, t, h2, h3, h4, h5⟩, h6⟩ := h
  refine ⟨⟨v, hw, hm.frame (hf 68 (by omega)), hc.frame (fun k a b => hf k (by omega))⟩, ?_, ⟨n, t, h2, by rw [hf 31 (by omega)]; exact h3, by rw [hf 67 (by omega)]; exact h4, fun j hj => by rw [hf 32 (by omega), hf 70 (by omega)]; exact h5 j hj⟩, hs⟩
  rcases h1 with h1 | ⟨h7, h8, v, hw, hm, hc⟩
  · left; rw [hf 0 (by omega), hf 67 (by omega)]; exact h1
  · right
    exact ⟨by rw [hf 0 (by omega)]; exact h7, by rw [hf 67 (by omega)]; exact h8, v, hw, hm.frame (hf 69 (by omega)), hc.frame (fun k a b => hf k (by omega))⟩
theorem ge0_nI {n : Nat} (h : n < 2147483648) : (0 : Int32) ≤ nI n := by
  rw [Int32.le_iff_toInt_le, t_nI h]; have : (0 : Int32).toInt = 0 := by decide
  omega
theorem st_drop {I : mI} {L : mL} {a1 : Int32} (h : Rel I L) : St_drop Rel I L a1 := by
  have hs := h.2.2.2
  unfold St_drop
  by_cases h1 : 0 ≤ a1.toInt ∧ a1.toInt ≤ 3
  · obtain ⟨q, hq, rfl, -⟩ := ofI (a := a1) (n := 4) h1.1 (by omega)
    have hM : ∀ J : mI, f_X11_drop_67 J L (nI q) = if 0 ≤ J 72 q then some (J 72 q, uI J 72 q (-1), L) else some (-11, J, L) := by
      intro J
      unfold f_X11_drop_67
      rw [isSheetM_n]
      simp only [Option.bind_some, bit_ite, lt_eq]
      rw [if_pos h1, ck_t (inb_nI (by omega) (by omega)), ck_t (inb_nI (by omega) (by omega)), ck_t (inb_nI (by omega) (by omega)), c_nI (by omega)]
    have hC : f_X10_drop_0 I L (nI q) = if I 47 q = 0 then some (-11, I, L) else some (I 46 q, uI I 47 q 0, L) := by
      unfold f_X10_drop_0 f_X6_isMissing_39 f_X6_empty_39
      rw [isSheetC_n]
      simp only [Option.bind_some, bit_ite, lt_eq]
      rw [if_pos h1, ck_t (inb_nI (by omega) (by omega)), ck_t (inb_nI (by omega) (by omega)), ck_t (inb_nI (by omega) (by omega)), c_nI (by omega)]
      by_cases e : I 47 q = 0
      · simp only [if_pos e, Option.bind_some]
        rw [if_neg (by decide)]
      · simp only [if_neg e, Option.bind_some]
        simp only [if_true, bndI_some, uI_cell (show (46:Nat) ≠ 47 by omega), ne_eq]
        try rfl
    rcases hs q hq with ⟨k1, k2⟩ | ⟨k1, ⟨n, hn, k2, k3⟩, k4, k5⟩
    · refine ⟨-11, I, L, I, L, by rw [hC, if_pos k1], ?_, h⟩
      rw [hM, k2, if_neg (by decide)]
    · refine ⟨nI n, uI I 47 q 0, L, uI (uI I 47 q 0) 72 q (-1), L, by rw [hC, k1, if_neg (by decide), k2], ?_, ?_⟩
      · rw [hM, uI_cell (by omega), k3, if_pos (ge0_nI (by omega))]
      · refine h.sheets (fun k hk => by rw [uI_cell (by omega), uI_cell (by omega)]) (fun r hr => ?_)
        by_cases e : r = q
        · subst e
          left
          rw [uI_cell (by omega), uI_same, uI_same]
          exact ⟨rfl, rfl⟩
        · have := hs r hr
          unfold SHt at this ⊢
          simp only [uI_at, e, and_false, if_false, show ¬ (46 : Nat) = 72 by omega, show ¬ (46 : Nat) = 47 by omega, show ¬ (45 : Nat) = 72 by omega, show ¬ (45 : Nat) = 47 by omega, show ¬ (71 : Nat) = 72 by omega, show ¬ (71 : Nat) = 47 by omega, false_and]
          exact this
  · refine ⟨-1, I, L, I, L, ?_, ?_, h⟩
    · unfold f_X10_drop_0
      rw [isSheetC_n]
      simp only [Option.bind_some, bit_ite]
      rw [if_neg h1]
    · unfold f_X11_drop_67
      rw [isSheetM_n]
      simp only [Option.bind_some, bit_ite]
      rw [if_neg h1]
