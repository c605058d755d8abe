theorem WF.good {v : mV} (h : WF v) {m p w : Nat} (hn : v 3 < 6) (hm : 1 ≤ m ∧ m ≤ 99) (hp : 1 ≤ p ∧ p ≤ 9) (hw : w < v 0) : WF (vus v [(99 + v 3, m), (105 + v 3, p), (111 + v 3, w), (117 + v 3, 0), (3, v 3 + 1)]) := by
  obtain ⟨h0, h1, h2, h3, h4, h5, h6, h7, h8, h9, h10, h11, h12⟩ := h
  generalize hv' : vus v [(99 + v 3, m), (105 + v 3, p), (111 + v 3, w), (117 + v 3, 0), (3, v 3 + 1)] = u
  have e : ∀ j, j ≠ 3 → j ≠ 99 + v 3 → j ≠ 105 + v 3 → j ≠ 111 + v 3 → j ≠ 117 + v 3 → u j = v j := fun j a0 a1 a2 a3 a4 => by rw [← hv']; simp only [vus]; rw [vu_n (by omega), vu_n (by omega), vu_n (by omega), vu_n (by omega), vu_n (by omega)]
  have ec : u 3 = v 3 + 1 := by rw [← hv']; simp [vus, vu]
  have e_0 : u (99 + v 3) = m := by
    rw [← hv']; simp only [vus]
    rw [vu_n (by omega), vu_n (by omega), vu_n (by omega), vu_n (by omega), vu_s]
  have e_1 : u (105 + v 3) = p := by
    rw [← hv']; simp only [vus]
    rw [vu_n (by omega), vu_n (by omega), vu_n (by omega), vu_s]
  have e_2 : u (111 + v 3) = w := by
    rw [← hv']; simp only [vus]
    rw [vu_n (by omega), vu_n (by omega), vu_s]
  have e_3 : u (117 + v 3) = 0 := by
    rw [← hv']; simp only [vus]
    rw [vu_n (by omega), vu_s]
  unfold WF
  rw [e 0 (by omega) (by omega) (by omega) (by omega) (by omega), e 1 (by omega) (by omega) (by omega) (by omega) (by omega), e 2 (by omega) (by omega) (by omega) (by omega) (by omega), ec, e 4 (by omega) (by omega) (by omega) (by omega) (by omega), e 5 (by omega) (by omega) (by omega) (by omega) (by omega)]
  refine ⟨h0, h1, h2, (by omega), h4, h5, fun j hj => ?_, fun j hj => ?_, fun j hj => ?_, fun i j hi hj => ?_, fun j hj => ?_, fun j hj => ?_, fun j hj => ?_⟩
  · rw [e _ (by omega) (by omega) (by omega) (by omega) (by omega)]; exact h6 j hj
  · rw [e _ (by omega) (by omega) (by omega) (by omega) (by omega)]; exact h7 j hj
  · rw [e _ (by omega) (by omega) (by omega) (by omega) (by omega), e _ (by omega) (by omega) (by omega) (by omega) (by omega), e _ (by omega) (by omega) (by omega) (by omega) (by omega)]; exact h8 j hj
  · rw [e _ (by omega) (by omega) (by omega) (by omega) (by omega), e _ (by omega) (by omega) (by omega) (by omega) (by omega), e _ (by omega) (by omega) (by omega) (by omega) (by omega), e _ (by omega) (by omega) (by omega) (by omega) (by omega)]; exact h9 i j hi hj
  · rw [e _ (by omega) (by omega) (by omega) (by omega) (by omega), e _ (by omega) (by omega) (by omega) (by omega) (by omega)]; exact h10 j hj
  · by_cases q : j = v 3
    · subst q; rw [e_0, e_1, e_2, e_3]; exact ⟨hm, hp, hw, by omega⟩
    · rw [e _ (by omega) (by omega) (by omega) (by omega) (by omega), e _ (by omega) (by omega) (by omega) (by omega) (by omega), e _ (by omega) (by omega) (by omega) (by omega) (by omega), e _ (by omega) (by omega) (by omega) (by omega) (by omega)]; exact h11 j (by omega)
  · rw [e _ (by omega) (by omega) (by omega) (by omega) (by omega), e _ (by omega) (by omega) (by omega) (by omega) (by omega)]; exact h12 j hj

theorem WF.person {v : mV} (h : WF v) {m w : Nat} (hn : v 4 < 6) (hm : 1 ≤ m ∧ m ≤ 99) (hw : w < v 0) : WF (vus v [(123 + v 4, m), (129 + v 4, w), (4, v 4 + 1)]) := by
  obtain ⟨h0, h1, h2, h3, h4, h5, h6, h7, h8, h9, h10, h11, h12⟩ := h
  generalize hv' : vus v [(123 + v 4, m), (129 + v 4, w), (4, v 4 + 1)] = u
  have e : ∀ j, j ≠ 4 → j ≠ 123 + v 4 → j ≠ 129 + v 4 → u j = v j := fun j a0 a1 a2 => by rw [← hv']; simp only [vus]; rw [vu_n (by omega), vu_n (by omega), vu_n (by omega)]
  have ec : u 4 = v 4 + 1 := by rw [← hv']; simp [vus, vu]
  have e_0 : u (123 + v 4) = m := by
    rw [← hv']; simp only [vus]
    rw [vu_n (by omega), vu_n (by omega), vu_s]
  have e_1 : u (129 + v 4) = w := by
    rw [← hv']; simp only [vus]
    rw [vu_n (by omega), vu_s]
  unfold WF
  rw [e 0 (by omega) (by omega) (by omega), e 1 (by omega) (by omega) (by omega), e 2 (by omega) (by omega) (by omega), e 3 (by omega) (by omega) (by omega), ec, e 5 (by omega) (by omega) (by omega)]
  refine ⟨h0, h1, h2, h3, (by omega), h5, fun j hj => ?_, fun j hj => ?_, fun j hj => ?_, fun i j hi hj => ?_, fun j hj => ?_, fun j hj => ?_, fun j hj => ?_⟩
  · rw [e _ (by omega) (by omega) (by omega)]; exact h6 j hj
  · rw [e _ (by omega) (by omega) (by omega)]; exact h7 j hj
  · rw [e _ (by omega) (by omega) (by omega), e _ (by omega) (by omega) (by omega), e _ (by omega) (by omega) (by omega)]; exact h8 j hj
  · rw [e _ (by omega) (by omega) (by omega), e _ (by omega) (by omega) (by omega), e _ (by omega) (by omega) (by omega), e _ (by omega) (by omega) (by omega)]; exact h9 i j hi hj
  · rw [e _ (by omega) (by omega) (by omega), e _ (by omega) (by omega) (by omega)]; exact h10 j hj
  · rw [e _ (by omega) (by omega) (by omega), e _ (by omega) (by omega) (by omega), e _ (by omega) (by omega) (by omega), e _ (by omega) (by omega) (by omega)]; exact h11 j hj
  · by_cases q : j = v 4
    · subst q; rw [e_0, e_1]; exact ⟨hm, hw⟩
    · rw [e _ (by omega) (by omega) (by omega), e _ (by omega) (by omega) (by omega)]; exact h12 j (by omega)

theorem WF.parish {v : mV} (h : WF v) {k : Nat} (hn : v 0 < 8) (hk : k ≤ 3) : WF (vus v [(6 + v 0, k), (14 + (v 0 * 4 + 0), 5), (14 + (v 0 * 4 + 1), 5), (14 + (v 0 * 4 + 2), 5), (14 + (v 0 * 4 + 3), 5), (0, v 0 + 1)]) := by
  obtain ⟨h0, h1, h2, h3, h4, h5, h6, h7, h8, h9, h10, h11, h12⟩ := h
  generalize hv' : vus v [(6 + v 0, k), (14 + (v 0 * 4 + 0), 5), (14 + (v 0 * 4 + 1), 5), (14 + (v 0 * 4 + 2), 5), (14 + (v 0 * 4 + 3), 5), (0, v 0 + 1)] = w
  have e : ∀ j, j ≠ 0 → j ≠ 6 + v 0 → j ≠ 14 + (v 0 * 4 + 0) → j ≠ 14 + (v 0 * 4 + 1) → j ≠ 14 + (v 0 * 4 + 2) → j ≠ 14 + (v 0 * 4 + 3) → w j = v j := fun j a0 a1 a2 a3 a4 a5 => by rw [← hv']; simp only [vus]; rw [vu_n (by omega), vu_n (by omega), vu_n (by omega), vu_n (by omega), vu_n (by omega), vu_n (by omega)]
  have ec : w 0 = v 0 + 1 := by rw [← hv']; simp [vus, vu]
  have e_0 : w (6 + v 0) = k := by
    rw [← hv']; simp only [vus]
    rw [vu_n (by omega), vu_n (by omega), vu_n (by omega), vu_n (by omega), vu_n (by omega), vu_s]
  have e_1 : w (14 + (v 0 * 4 + 0)) = 5 := by
    rw [← hv']; simp only [vus]
    rw [vu_n (by omega), vu_n (by omega), vu_n (by omega), vu_n (by omega), vu_s]
  have e_2 : w (14 + (v 0 * 4 + 1)) = 5 := by
    rw [← hv']; simp only [vus]
    rw [vu_n (by omega), vu_n (by omega), vu_n (by omega), vu_s]
  have e_3 : w (14 + (v 0 * 4 + 2)) = 5 := by
    rw [← hv']; simp only [vus]
    rw [vu_n (by omega), vu_n (by omega), vu_s]
  have e_4 : w (14 + (v 0 * 4 + 3)) = 5 := by
    rw [← hv']; simp only [vus]
    rw [vu_n (by omega), vu_s]
  unfold WF
  rw [ec, e 1 (by omega) (by omega) (by omega) (by omega) (by omega) (by omega), e 2 (by omega) (by omega) (by omega) (by omega) (by omega) (by omega), e 3 (by omega) (by omega) (by omega) (by omega) (by omega) (by omega), e 4 (by omega) (by omega) (by omega) (by omega) (by omega) (by omega), e 5 (by omega) (by omega) (by omega) (by omega) (by omega) (by omega)]
  refine ⟨(by omega), h1, h2, h3, h4, h5, fun j hj => ?_, fun j hj => ?_, fun j hj => ?_, fun i j hi hj => ?_, fun j hj => ?_, fun j hj => ?_, fun j hj => ?_⟩
  · by_cases q : j = v 0
    · subst q; rw [e_0]; exact hk
    · rw [e _ (by omega) (by omega) (by omega) (by omega) (by omega) (by omega)]; exact h6 j (by omega)
  · by_cases q : j < 4 * v 0
    · rw [e _ (by omega) (by omega) (by omega) (by omega) (by omega) (by omega)]; exact h7 j q
    · rcases (show j = v 0 * 4 + 0 ∨ j = v 0 * 4 + 1 ∨ j = v 0 * 4 + 2 ∨ j = v 0 * 4 + 3 by omega) with rfl | rfl | rfl | rfl
      · rw [e_1]; omega
      · rw [e_2]; omega
      · rw [e_3]; omega
      · rw [e_4]; omega
  · rw [e _ (by omega) (by omega) (by omega) (by omega) (by omega) (by omega), e _ (by omega) (by omega) (by omega) (by omega) (by omega) (by omega), e _ (by omega) (by omega) (by omega) (by omega) (by omega) (by omega)]; have := h8 j hj; omega
  · rw [e _ (by omega) (by omega) (by omega) (by omega) (by omega) (by omega), e _ (by omega) (by omega) (by omega) (by omega) (by omega) (by omega), e _ (by omega) (by omega) (by omega) (by omega) (by omega) (by omega), e _ (by omega) (by omega) (by omega) (by omega) (by omega) (by omega)]; exact h9 i j hi hj
  · rw [e _ (by omega) (by omega) (by omega) (by omega) (by omega) (by omega), e _ (by omega) (by omega) (by omega) (by omega) (by omega) (by omega)]; exact h10 j hj
  · rw [e _ (by omega) (by omega) (by omega) (by omega) (by omega) (by omega), e _ (by omega) (by omega) (by omega) (by omega) (by omega) (by omega), e _ (by omega) (by omega) (by omega) (by omega) (by omega) (by omega), e _ (by omega) (by omega) (by omega) (by omega) (by omega) (by omega)]; have := h11 j hj; omega
  · rw [e _ (by omega) (by omega) (by omega) (by omega) (by omega) (by omega), e _ (by omega) (by omega) (by omega) (by omega) (by omega) (by omega)]; have := h12 j hj; omega
