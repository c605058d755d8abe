/-! the start, and all calls -/
theorem i0_c {c : Nat} (h : c ≠ 72) : I0 c = fun _ => 0 := by unfold I0; rw [pI_cell h]
theorem rel0 : Rel I0 L0 := by
  refine ⟨⟨fun _ => 0, ?_, fun j _ => by rw [i0_c (by omega)]; rfl, fun i hi _ => ?_⟩, Or.inl ⟨by rw [i0_c (by omega)], by rw [i0_c (by omega)]⟩, ⟨0, fun _ => 0, by omega, by rw [i0_c (by omega)]; rfl, by rw [i0_c (by omega)]; rfl, fun j hj => absurd hj (by omega)⟩, fun q hq => Or.inl ⟨by rw [i0_c (by omega)], ?_⟩⟩
  · unfold WF
    exact ⟨Nat.zero_le _, Nat.zero_le _, Nat.zero_le _, Nat.zero_le _, Nat.zero_le _, Nat.zero_le _, fun j hj => absurd hj (Nat.not_lt_zero j), fun j hj => absurd hj (Nat.not_lt_zero j), fun j hj => absurd hj (Nat.not_lt_zero j), fun i j hi => absurd hi (Nat.not_lt_zero i), fun j hj => absurd hj (Nat.not_lt_zero j), fun j hj => absurd hj (Nat.not_lt_zero j), fun j hj => absurd hj (Nat.not_lt_zero j)⟩
  · have := loc_cell hi
    rw [i0_c (by omega)]; rfl
  · unfold I0
    rw [pI_same]
    rcases (show q = 0 ∨ q = 1 ∨ q = 2 ∨ q = 3 by omega) with rfl | rfl | rfl | rfl <;> rfl
theorem all_st : AllSt Rel := ⟨fun I L a1 h => st_parish h,
  fun I L a1 a2 a3 h => st_pull h,
  fun I L a1 a2 a3 h => st_road h,
  fun I L a1 a2 h => st_toll h,
  fun I L a1 a2 h => st_cart h,
  fun I L a1 a2 a3 h => st_good h,
  fun I L a1 a2 h => st_hang h,
  fun I L a1 a2 h => st_person h,
  fun I L a1 a2 h => st_of h,
  fun I L a1 a2 h => st_told h,
  fun I L a1 a2 h => st_weighs h,
  fun I L a1 h => st_type h,
  fun I L h => st_land h,
  fun I L a1 h => st_count h,
  fun I L a1 h => st_weeks h,
  fun I L a1 a2 a3 a4 a5 h => st_way h,
  fun I L a1 a2 a3 h => st_net h,
  fun I L a1 a2 h => st_market h,
  fun I L a1 a2 a3 h => st_trade h,
  fun I L a1 a2 h => st_scales h,
  fun I L a1 a2 h => st_take h,
  fun I L a1 a2 a3 a4 h => st_councils h,
  fun I L a1 a2 h => st_league h,
  fun I L a1 a2 a3 h => st_upper h,
  fun I L a1 a2 a3 h => st_lower h,
  fun I L a1 a2 a3 h => st_change h,
  fun I L a1 a2 h => st_well h,
  fun I L h => st_image h,
  fun I L h => st_restore h,
  fun I L a1 a2 a3 a4 a5 a6 a7 h => st_beam h,
  fun I L a1 a2 a3 a4 a5 a6 a7 a8 h => st_book h,
  fun I L a1 a2 a3 a4 h => st_mills h,
  fun I L a1 a2 a3 h => st_film h,
  fun I L a1 a2 a3 h => st_sheet h,
  fun I L a1 h => st_drop h,
  fun I L a1 a2 a3 a4 h => st_item h,
  fun I L a1 a2 a3 a4 a5 h => st_copy h⟩
