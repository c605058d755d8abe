def f_X10_toldOfCart_0 (I : mI) (L : mL) (a1 : Int32) (a2 : Int32) : Option Int32 := (f_X7_hasCart_1 I L a1).bind (fun r1 => if r1 = 0 then (some (-1)) else (if a2 = 3 then (ck (inb a1 4) (some (I 8 a1.toNatClampNeg))) else (ck (inb a1 4) (some (I 9 a1.toNatClampNeg)))))
theorem ok_X10_toldOfCart_0 {d : Nat} (hd : 1 ≤ d) {I : mI} {L : mL} {a1 : Int32} {a2 : Int32} {o : Int32} (h : f_X10_toldOfCart_0 I L a1 a2 = some o) : RR mX10_toldOfCart d 0 [some (.ref 0), some (.int a1), some (.int a2)] [] I L (retQ (some (.int o)) I L) := by
  unfold f_X10_toldOfCart_0 at h
  refine r_aload_n (i := 0) dX10_toldOfCart_0 rfl rfl ?_
  refine r_getR f_X10_10 dX10_toldOfCart_1 rfl rfl ?_
  refine r_iload_n (i := 1) dX10_toldOfCart_4 rfl rfl ?_
  obtain ⟨r1, hr, h⟩ := bind_some h
  refine r_V (d' := 0) k_X10_210 dX10_toldOfCart_5 (by omega) rfl rfl rfl (Nat.le_of_ble_eq_true rfl) (Nat.le_of_ble_eq_true rfl) (ok_X7_hasCart_1 (Nat.le_refl _) hr) (fun v I' L' hq => ?_)
  obtain ⟨rfl, rfl, rfl⟩ := hq
  simp only [Option.toList_some, Option.toList_none, List.drop_succ_cons, List.drop_zero, List.drop_nil, List.cons_append, List.nil_append]
  refine r_if_ne (tgt := 13) dX10_toldOfCart_8 (by decide) (fun c => ?_) (fun c => ?_)
  · rw [if_neg c] at h
    refine r_iload_n (i := 2) dX10_toldOfCart_13 rfl rfl ?_
    refine r_iconst (v := 3) dX10_toldOfCart_14 (by decide) ?_
    refine r_icmp_ne (tgt := 30) dX10_toldOfCart_15 (by decide) (fun c => ?_) (fun c => ?_)
    · rw [if_neg c] at h
      refine r_aload_n (i := 0) dX10_toldOfCart_30 rfl rfl ?_
      refine r_getR f_X10_10 dX10_toldOfCart_31 rfl rfl ?_
      refine r_getR f_X10_389 dX10_toldOfCart_34 rfl rfl ?_
      refine r_iload_n (i := 1) dX10_toldOfCart_37 rfl rfl ?_
      obtain ⟨hb, h⟩ := ck_some h
      refine r_iald rfl (inb_vp hb) dX10_toldOfCart_38 ?_
      refine r_iret (by first | rfl | decide) dX10_toldOfCart_39 ?_
      obtain rfl := Option.some.inj h
      exact ⟨rfl, rfl, rfl⟩
    · rw [if_pos c] at h
      refine r_aload_n (i := 0) dX10_toldOfCart_18 rfl rfl ?_
      refine r_getR f_X10_10 dX10_toldOfCart_19 rfl rfl ?_
      refine r_getR f_X10_386 dX10_toldOfCart_22 rfl rfl ?_
      refine r_iload_n (i := 1) dX10_toldOfCart_25 rfl rfl ?_
      obtain ⟨hb, h⟩ := ck_some h
      refine r_iald rfl (inb_vp hb) dX10_toldOfCart_26 ?_
      refine r_goto (tgt := 39) dX10_toldOfCart_27 (by decide) ?_
      refine r_iret (by first | rfl | decide) dX10_toldOfCart_39 ?_
      obtain rfl := Option.some.inj h
      exact ⟨rfl, rfl, rfl⟩
  · rw [if_pos c] at h
    refine r_iconst (v := (-1)) dX10_toldOfCart_11 (by decide) ?_
    refine r_iret (by first | rfl | decide) dX10_toldOfCart_12 ?_
    obtain rfl := Option.some.inj h
    exact ⟨rfl, rfl, rfl⟩
def f_X10_toldOfRoad_0 (I : mI) (L : mL) (a1 : Int32) (a2 : Int32) : Option Int32 := (f_X3_hasRoad_2 I L a1).bind (fun r1 => if r1 = 0 then (some (-1)) else (if a2 = 0 then (ck (inb a1 15) (some (I 5 a1.toNatClampNeg))) else (if a2 = 1 then (ck (inb a1 15) (some (I 6 a1.toNatClampNeg))) else (ck (inb a1 15) (some (I 7 a1.toNatClampNeg))))))
theorem ok_X10_toldOfRoad_0 {d : Nat} (hd : 1 ≤ d) {I : mI} {L : mL} {a1 : Int32} {a2 : Int32} {o : Int32} (h : f_X10_toldOfRoad_0 I L a1 a2 = some o) : RR mX10_toldOfRoad d 0 [some (.ref 0), some (.int a1), some (.int a2)] [] I L (retQ (some (.int o)) I L) := by
  unfold f_X10_toldOfRoad_0 at h
  refine r_aload_n (i := 0) dX10_toldOfRoad_0 rfl rfl ?_
  refine r_getR f_X10_10 dX10_toldOfRoad_1 rfl rfl ?_
  refine r_getR f_X10_76 dX10_toldOfRoad_4 rfl rfl ?_
  refine r_iload_n (i := 1) dX10_toldOfRoad_7 rfl rfl ?_
  obtain ⟨r1, hr, h⟩ := bind_some h
  refine r_V (d' := 0) k_X10_109 dX10_toldOfRoad_8 (by omega) rfl rfl rfl (Nat.le_of_ble_eq_true rfl) (Nat.le_of_ble_eq_true rfl) (ok_X3_hasRoad_2 (Nat.le_refl _) hr) (fun v I' L' hq => ?_)
  obtain ⟨rfl, rfl, rfl⟩ := hq
  simp only [Option.toList_some, Option.toList_none, List.drop_succ_cons, List.drop_zero, List.drop_nil, List.cons_append, List.nil_append]
  refine r_if_ne (tgt := 16) dX10_toldOfRoad_11 (by decide) (fun c => ?_) (fun c => ?_)
  · rw [if_neg c] at h
    refine r_iload_n (i := 2) dX10_toldOfRoad_16 rfl rfl ?_
    refine r_if_ne (tgt := 33) dX10_toldOfRoad_17 (by decide) (fun c => ?_) (fun c => ?_)
    · rw [if_neg c] at h
      refine r_iload_n (i := 2) dX10_toldOfRoad_33 rfl rfl ?_
      refine r_iconst (v := 1) dX10_toldOfRoad_34 (by decide) ?_
      refine r_icmp_ne (tgt := 53) dX10_toldOfRoad_35 (by decide) (fun c => ?_) (fun c => ?_)
      · rw [if_neg c] at h
        refine r_aload_n (i := 0) dX10_toldOfRoad_53 rfl rfl ?_
        refine r_getR f_X10_10 dX10_toldOfRoad_54 rfl rfl ?_
        refine r_getR f_X10_76 dX10_toldOfRoad_57 rfl rfl ?_
        refine r_getR f_X10_112 dX10_toldOfRoad_60 rfl rfl ?_
        refine r_iload_n (i := 1) dX10_toldOfRoad_63 rfl rfl ?_
        obtain ⟨hb, h⟩ := ck_some h
        refine r_iald rfl (inb_vp hb) dX10_toldOfRoad_64 ?_
        refine r_iret (by first | rfl | decide) dX10_toldOfRoad_65 ?_
        obtain rfl := Option.some.inj h
        exact ⟨rfl, rfl, rfl⟩
      · rw [if_pos c] at h
        refine r_aload_n (i := 0) dX10_toldOfRoad_38 rfl rfl ?_
        refine r_getR f_X10_10 dX10_toldOfRoad_39 rfl rfl ?_
        refine r_getR f_X10_76 dX10_toldOfRoad_42 rfl rfl ?_
        refine r_getR f_X10_383 dX10_toldOfRoad_45 rfl rfl ?_
        refine r_iload_n (i := 1) dX10_toldOfRoad_48 rfl rfl ?_
        obtain ⟨hb, h⟩ := ck_some h
        refine r_iald rfl (inb_vp hb) dX10_toldOfRoad_49 ?_
        refine r_goto (tgt := 65) dX10_toldOfRoad_50 (by decide) ?_
        refine r_iret (by first | rfl | decide) dX10_toldOfRoad_65 ?_
        obtain rfl := Option.some.inj h
        exact ⟨rfl, rfl, rfl⟩
    · rw [if_pos c] at h
      refine r_aload_n (i := 0) dX10_toldOfRoad_20 rfl rfl ?_
      refine r_getR f_X10_10 dX10_toldOfRoad_21 rfl rfl ?_
      refine r_getR f_X10_76 dX10_toldOfRoad_24 rfl rfl ?_
      refine r_getR f_X10_380 dX10_toldOfRoad_27 rfl rfl ?_
      refine r_iload_n (i := 1) dX10_toldOfRoad_30 rfl rfl ?_
      obtain ⟨hb, h⟩ := ck_some h
      refine r_iald rfl (inb_vp hb) dX10_toldOfRoad_31 ?_
      refine r_iret (by first | rfl | decide) dX10_toldOfRoad_32 ?_
      obtain rfl := Option.some.inj h
      exact ⟨rfl, rfl, rfl⟩
  · rw [if_pos c] at h
    refine r_iconst (v := (-1)) dX10_toldOfRoad_14 (by decide) ?_
    refine r_iret (by first | rfl | decide) dX10_toldOfRoad_15 ?_
    obtain rfl := Option.some.inj h
    exact ⟨rfl, rfl, rfl⟩
def f_X10_told_0 (I : mI) (L : mL) (a1 : Int32) (a2 : Int32) : Option Int32 := (f_X10_within I L a2 0 2).bind (fun r1 => if r1 = 0 then ((f_X10_within I L a2 3 4).bind (fun r2 => if r2 = 0 then ((f_X10_within I L a2 5 8).bind (fun r3 => if r3 = 0 then ((f_X10_within I L a2 9 10).bind (fun r4 => if r4 = 0 then (some (-1)) else ((f_X10_toldOfPerson_0 I L a1 a2).bind (fun r5 => some r5)))) else ((f_X10_toldOfGood_0 I L a1 a2).bind (fun r6 => some r6)))) else ((f_X10_toldOfCart_0 I L a1 a2).bind (fun r7 => some r7)))) else ((f_X10_toldOfRoad_0 I L a1 a2).bind (fun r8 => some r8)))
theorem ok_X10_told_0 {d : Nat} (hd : 2 ≤ d) {I : mI} {L : mL} {a1 : Int32} {a2 : Int32} {o : Int32} (h : f_X10_told_0 I L a1 a2 = some o) : RR mX10_told d 0 [some (.ref 0), some (.int a1), some (.int a2)] [] I L (retQ (some (.int o)) I L) := by
  unfold f_X10_told_0 at h
  refine r_iload_n (i := 2) dX10_told_0 rfl rfl ?_
  refine r_iconst (v := 0) dX10_told_1 (by decide) ?_
  refine r_iconst (v := 2) dX10_told_2 (by decide) ?_
  obtain ⟨r1, hr, h⟩ := bind_some h
  refine r_S (d' := 0) k_X10_72 dX10_told_3 (by omega) rfl (Nat.le_of_ble_eq_true rfl) (Nat.le_of_ble_eq_true rfl) (ok_X10_within (Nat.le_refl _) hr) (fun v I' L' hq => ?_)
  obtain ⟨rfl, rfl, rfl⟩ := hq
  simp only [Option.toList_some, Option.toList_none, List.drop_succ_cons, List.drop_zero, List.drop_nil, List.cons_append, List.nil_append]
  refine r_if_eq (tgt := 16) dX10_told_6 (by decide) (fun c => ?_) (fun c => ?_)
  · rw [if_pos c] at h
    refine r_iload_n (i := 2) dX10_told_16 rfl rfl ?_
    refine r_iconst (v := 3) dX10_told_17 (by decide) ?_
    refine r_iconst (v := 4) dX10_told_18 (by decide) ?_
    obtain ⟨r2, hr, h⟩ := bind_some h
    refine r_S (d' := 0) k_X10_72 dX10_told_19 (by omega) rfl (Nat.le_of_ble_eq_true rfl) (Nat.le_of_ble_eq_true rfl) (ok_X10_within (Nat.le_refl _) hr) (fun v I' L' hq => ?_)
    obtain ⟨rfl, rfl, rfl⟩ := hq
    simp only [Option.toList_some, Option.toList_none, List.drop_succ_cons, List.drop_zero, List.drop_nil, List.cons_append, List.nil_append]
    refine r_if_eq (tgt := 32) dX10_told_22 (by decide) (fun c => ?_) (fun c => ?_)
    · rw [if_pos c] at h
      refine r_iload_n (i := 2) dX10_told_32 rfl rfl ?_
      refine r_iconst (v := 5) dX10_told_33 (by decide) ?_
      refine r_bipush (v := 8) dX10_told_34 (by decide) ?_
      obtain ⟨r3, hr, h⟩ := bind_some h
      refine r_S (d' := 0) k_X10_72 dX10_told_36 (by omega) rfl (Nat.le_of_ble_eq_true rfl) (Nat.le_of_ble_eq_true rfl) (ok_X10_within (Nat.le_refl _) hr) (fun v I' L' hq => ?_)
      obtain ⟨rfl, rfl, rfl⟩ := hq
      simp only [Option.toList_some, Option.toList_none, List.drop_succ_cons, List.drop_zero, List.drop_nil, List.cons_append, List.nil_append]
      refine r_if_eq (tgt := 49) dX10_told_39 (by decide) (fun c => ?_) (fun c => ?_)
      · rw [if_pos c] at h
        refine r_iload_n (i := 2) dX10_told_49 rfl rfl ?_
        refine r_bipush (v := 9) dX10_told_50 (by decide) ?_
        refine r_bipush (v := 10) dX10_told_52 (by decide) ?_
        obtain ⟨r4, hr, h⟩ := bind_some h
        refine r_S (d' := 0) k_X10_72 dX10_told_54 (by omega) rfl (Nat.le_of_ble_eq_true rfl) (Nat.le_of_ble_eq_true rfl) (ok_X10_within (Nat.le_refl _) hr) (fun v I' L' hq => ?_)
        obtain ⟨rfl, rfl, rfl⟩ := hq
        simp only [Option.toList_some, Option.toList_none, List.drop_succ_cons, List.drop_zero, List.drop_nil, List.cons_append, List.nil_append]
        refine r_if_eq (tgt := 69) dX10_told_57 (by decide) (fun c => ?_) (fun c => ?_)
        · rw [if_pos c] at h
          refine r_iconst (v := (-1)) dX10_told_69 (by decide) ?_
          refine r_iret (by first | rfl | decide) dX10_told_70 ?_
          obtain rfl := Option.some.inj h
          exact ⟨rfl, rfl, rfl⟩
        · rw [if_neg c] at h
          refine r_aload_n (i := 0) dX10_told_60 rfl rfl ?_
          refine r_iload_n (i := 1) dX10_told_61 rfl rfl ?_
          refine r_iload_n (i := 2) dX10_told_62 rfl rfl ?_
          obtain ⟨r5, hr, h⟩ := bind_some h
          refine r_V (d' := 0) k_X10_168 dX10_told_63 (by omega) rfl rfl rfl (Nat.le_of_ble_eq_true rfl) (Nat.le_of_ble_eq_true rfl) (ok_X10_toldOfPerson_0 (Nat.le_refl _) hr) (fun v I' L' hq => ?_)
          obtain ⟨rfl, rfl, rfl⟩ := hq
          simp only [Option.toList_some, Option.toList_none, List.drop_succ_cons, List.drop_zero, List.drop_nil, List.cons_append, List.nil_append]
          refine r_goto (tgt := 70) dX10_told_66 (by decide) ?_
          refine r_iret (by first | rfl | decide) dX10_told_70 ?_
          obtain rfl := Option.some.inj h
          exact ⟨rfl, rfl, rfl⟩
      · rw [if_neg c] at h
        refine r_aload_n (i := 0) dX10_told_42 rfl rfl ?_
        refine r_iload_n (i := 1) dX10_told_43 rfl rfl ?_
        refine r_iload_n (i := 2) dX10_told_44 rfl rfl ?_
        obtain ⟨r6, hr, h⟩ := bind_some h
        refine r_V (d' := 1) k_X10_165 dX10_told_45 (by omega) rfl rfl rfl (Nat.le_of_ble_eq_true rfl) (Nat.le_of_ble_eq_true rfl) (ok_X10_toldOfGood_0 (Nat.le_refl _) hr) (fun v I' L' hq => ?_)
        obtain ⟨rfl, rfl, rfl⟩ := hq
        simp only [Option.toList_some, Option.toList_none, List.drop_succ_cons, List.drop_zero, List.drop_nil, List.cons_append, List.nil_append]
        refine r_iret (by first | rfl | decide) dX10_told_48 ?_
        obtain rfl := Option.some.inj h
        exact ⟨rfl, rfl, rfl⟩
    · rw [if_neg c] at h
      refine r_aload_n (i := 0) dX10_told_25 rfl rfl ?_
      refine r_iload_n (i := 1) dX10_told_26 rfl rfl ?_
      refine r_iload_n (i := 2) dX10_told_27 rfl rfl ?_
      obtain ⟨r7, hr, h⟩ := bind_some h
      refine r_V (d' := 1) k_X10_162 dX10_told_28 (by omega) rfl rfl rfl (Nat.le_of_ble_eq_true rfl) (Nat.le_of_ble_eq_true rfl) (ok_X10_toldOfCart_0 (Nat.le_refl _) hr) (fun v I' L' hq => ?_)
      obtain ⟨rfl, rfl, rfl⟩ := hq
      simp only [Option.toList_some, Option.toList_none, List.drop_succ_cons, List.drop_zero, List.drop_nil, List.cons_append, List.nil_append]
      refine r_iret (by first | rfl | decide) dX10_told_31 ?_
      obtain rfl := Option.some.inj h
      exact ⟨rfl, rfl, rfl⟩
  · rw [if_neg c] at h
    refine r_aload_n (i := 0) dX10_told_9 rfl rfl ?_
    refine r_iload_n (i := 1) dX10_told_10 rfl rfl ?_
    refine r_iload_n (i := 2) dX10_told_11 rfl rfl ?_
    obtain ⟨r8, hr, h⟩ := bind_some h
    refine r_V (d' := 1) k_X10_159 dX10_told_12 (by omega) rfl rfl rfl (Nat.le_of_ble_eq_true rfl) (Nat.le_of_ble_eq_true rfl) (ok_X10_toldOfRoad_0 (Nat.le_refl _) hr) (fun v I' L' hq => ?_)
    obtain ⟨rfl, rfl, rfl⟩ := hq
    simp only [Option.toList_some, Option.toList_none, List.drop_succ_cons, List.drop_zero, List.drop_nil, List.cons_append, List.nil_append]
    refine r_iret (by first | rfl | decide) dX10_told_15 ?_
    obtain rfl := Option.some.inj h
    exact ⟨rfl, rfl, rfl⟩
def f_X10_weighs_0 (I : mI) (L : mL) (a1 : Int32) (a2 : Int32) : Option Int32 := (f_X3_hasParish_2 I L a1).bind (fun r1 => if r1 = 0 then (some (-1)) else ((f_X10_within I L a2 1 99).bind (fun r2 => if r2 = 0 then (some (-1)) else ((f_X7_weightAt_1 I L a1 a2).bind (fun r3 => some r3)))))
theorem ok_X10_weighs_0 {d : Nat} (hd : 3 ≤ d) {I : mI} {L : mL} {a1 : Int32} {a2 : Int32} {o : Int32} (h : f_X10_weighs_0 I L a1 a2 = some o) : RR mX10_weighs d 0 [some (.ref 0), some (.int a1), some (.int a2)] [] I L (retQ (some (.int o)) I L) := by
  unfold f_X10_weighs_0 at h
  refine r_aload_n (i := 0) dX10_weighs_0 rfl rfl ?_
  refine r_getR f_X10_10 dX10_weighs_1 rfl rfl ?_
  refine r_getR f_X10_76 dX10_weighs_4 rfl rfl ?_
  refine r_iload_n (i := 1) dX10_weighs_7 rfl rfl ?_
  obtain ⟨r1, hr, h⟩ := bind_some h
  refine r_V (d' := 0) k_X10_90 dX10_weighs_8 (by omega) rfl rfl rfl (Nat.le_of_ble_eq_true rfl) (Nat.le_of_ble_eq_true rfl) (ok_X3_hasParish_2 (Nat.le_refl _) hr) (fun v I' L' hq => ?_)
  obtain ⟨rfl, rfl, rfl⟩ := hq
  simp only [Option.toList_some, Option.toList_none, List.drop_succ_cons, List.drop_zero, List.drop_nil, List.cons_append, List.nil_append]
  refine r_if_eq (tgt := 24) dX10_weighs_11 (by decide) (fun c => ?_) (fun c => ?_)
  · rw [if_pos c] at h
    refine r_iconst (v := (-1)) dX10_weighs_24 (by decide) ?_
    refine r_iret (by first | rfl | decide) dX10_weighs_25 ?_
    obtain rfl := Option.some.inj h
    exact ⟨rfl, rfl, rfl⟩
  · rw [if_neg c] at h
    refine r_iload_n (i := 2) dX10_weighs_14 rfl rfl ?_
    refine r_iconst (v := 1) dX10_weighs_15 (by decide) ?_
    refine r_bipush (v := 99) dX10_weighs_16 (by decide) ?_
    obtain ⟨r2, hr, h⟩ := bind_some h
    refine r_S (d' := 0) k_X10_72 dX10_weighs_18 (by omega) rfl (Nat.le_of_ble_eq_true rfl) (Nat.le_of_ble_eq_true rfl) (ok_X10_within (Nat.le_refl _) hr) (fun v I' L' hq => ?_)
    obtain ⟨rfl, rfl, rfl⟩ := hq
    simp only [Option.toList_some, Option.toList_none, List.drop_succ_cons, List.drop_zero, List.drop_nil, List.cons_append, List.nil_append]
    refine r_if_ne (tgt := 26) dX10_weighs_21 (by decide) (fun c => ?_) (fun c => ?_)
    · rw [if_neg c] at h
      refine r_aload_n (i := 0) dX10_weighs_26 rfl rfl ?_
      refine r_getR f_X10_10 dX10_weighs_27 rfl rfl ?_
      refine r_iload_n (i := 1) dX10_weighs_30 rfl rfl ?_
      refine r_iload_n (i := 2) dX10_weighs_31 rfl rfl ?_
      obtain ⟨r3, hr, h⟩ := bind_some h
      refine r_V (d' := 2) k_X10_171 dX10_weighs_32 (by omega) rfl rfl rfl (Nat.le_of_ble_eq_true rfl) (Nat.le_of_ble_eq_true rfl) (ok_X7_weightAt_1 (Nat.le_refl _) hr) (fun v I' L' hq => ?_)
      obtain ⟨rfl, rfl, rfl⟩ := hq
      simp only [Option.toList_some, Option.toList_none, List.drop_succ_cons, List.drop_zero, List.drop_nil, List.cons_append, List.nil_append]
      refine r_iret (by first | rfl | decide) dX10_weighs_35 ?_
      obtain rfl := Option.some.inj h
      exact ⟨rfl, rfl, rfl⟩
    · rw [if_pos c] at h
      refine r_iconst (v := (-1)) dX10_weighs_24 (by decide) ?_
      refine r_iret (by first | rfl | decide) dX10_weighs_25 ?_
      obtain rfl := Option.some.inj h
      exact ⟨rfl, rfl, rfl⟩
def f_X8_isFull_31 (I : mI) (L : mL) : Option Int32 := if (I 31 2) < 120 then (some 0) else (some 1)
theorem ok_X8_isFull_31 {d : Nat} (hd : 0 ≤ d) {I : mI} {L : mL} {o : Int32} (h : f_X8_isFull_31 I L = some o) : RR mX8_isFull d 0 [some (.ref 31)] [] I L (retQ (some (.int o)) I L) := by
  unfold f_X8_isFull_31 at h
  refine r_aload_n (i := 0) dX8_isFull_0 rfl rfl ?_
  refine r_getI f_X8_22 dX8_isFull_1 rfl rfl ?_
  refine r_bipush (v := 120) dX8_isFull_4 (by decide) ?_
  refine r_icmp_lt (tgt := 13) dX8_isFull_6 (by decide) (fun c => ?_) (fun c => ?_)
  · rw [if_pos c] at h
    refine r_iconst (v := 0) dX8_isFull_13 (by decide) ?_
    refine r_iret (by first | rfl | decide) dX8_isFull_14 ?_
    obtain rfl := Option.some.inj h
    exact ⟨rfl, rfl, rfl⟩
  · rw [if_neg c] at h
    refine r_iconst (v := 1) dX8_isFull_9 (by decide) ?_
    refine r_goto (tgt := 14) dX8_isFull_10 (by decide) ?_
    refine r_iret (by first | rfl | decide) dX8_isFull_14 ?_
    obtain rfl := Option.some.inj h
    exact ⟨rfl, rfl, rfl⟩
def f_X8_add_31 (I : mI) (L : mL) (a1 : Int32) : rI := ck (inb (I 31 2) 120) (lt (uI I 32 (I 31 2).toNatClampNeg (vp_nar .char ((a1.toUInt32 % 65536).toInt32))) (fun M1 => lt (uI M1 31 2 ((M1 31 2) + 1)) (fun M2 => some (M2 31 2, M2, L))))
theorem ok_X8_add_31 {d : Nat} (hd : 0 ≤ d) {I : mI} {L : mL} {a1 : Int32} {o : Int32 × mI × mL} (h : f_X8_add_31 I L a1 = some o) : RR mX8_add d 0 [some (.ref 31), some (.int a1)] [] I L (retQ (some (.int o.1)) o.2.1 o.2.2) := by
  unfold f_X8_add_31 at h
  refine r_aload_n (i := 0) dX8_add_0 rfl rfl ?_
  refine r_getR f_X8_11 dX8_add_1 rfl rfl ?_
  refine r_aload_n (i := 0) dX8_add_4 rfl rfl ?_
  refine r_getI f_X8_22 dX8_add_5 rfl rfl ?_
  refine r_iload_n (i := 1) dX8_add_8 rfl rfl ?_
  refine r_i2c dX8_add_9 ?_
  obtain ⟨hb, h⟩ := ck_some h
  refine r_cast rfl (inb_vp hb) dX8_add_10 ?_
  replace h := lt_some h
  refine r_aload_n (i := 0) dX8_add_11 rfl rfl ?_
  refine r_dup dX8_add_12 rfl ?_
  refine r_getI f_X8_22 dX8_add_13 rfl rfl ?_
  refine r_iconst (v := 1) dX8_add_16 (by decide) ?_
  refine r_iadd dX8_add_17 ?_
  refine r_putI f_X8_22 rfl rfl dX8_add_18 rfl rfl ?_
  replace h := lt_some h
  refine r_aload_n (i := 0) dX8_add_21 rfl rfl ?_
  refine r_getI f_X8_22 dX8_add_22 rfl rfl ?_
  refine r_iret (by first | rfl | decide) dX8_add_25 ?_
  obtain rfl := Option.some.inj h
  exact ⟨rfl, rfl, rfl⟩
def f_X10_type_0 (I : mI) (L : mL) (a1 : Int32) : rI := (f_X10_within I L a1 32 126).bind (fun r1 => if r1 = 0 then (some ((-1), I, L)) else ((f_X8_isFull_31 I L).bind (fun r2 => if r2 = 0 then (bndI (f_X8_add_31 I L a1) (fun r3 Ir3 Lr3 => some (r3, Ir3, Lr3))) else (some ((-3), I, L)))))
theorem ok_X10_type_0 {d : Nat} (hd : 1 ≤ d) {I : mI} {L : mL} {a1 : Int32} {o : Int32 × mI × mL} (h : f_X10_type_0 I L a1 = some o) : RR mX10_type d 0 [some (.ref 0), some (.int a1)] [] I L (retQ (some (.int o.1)) o.2.1 o.2.2) := by
  unfold f_X10_type_0 at h
  refine r_iload_n (i := 1) dX10_type_0 rfl rfl ?_
  refine r_bipush (v := 32) dX10_type_1 (by decide) ?_
  refine r_bipush (v := 126) dX10_type_3 (by decide) ?_
  obtain ⟨r1, hr, h⟩ := bind_some h
  refine r_S (d' := 0) k_X10_72 dX10_type_5 (by omega) rfl (Nat.le_of_ble_eq_true rfl) (Nat.le_of_ble_eq_true rfl) (ok_X10_within (Nat.le_refl _) hr) (fun v I' L' hq => ?_)
  obtain ⟨rfl, rfl, rfl⟩ := hq
  simp only [Option.toList_some, Option.toList_none, List.drop_succ_cons, List.drop_zero, List.drop_nil, List.cons_append, List.nil_append]
  refine r_if_ne (tgt := 13) dX10_type_8 (by decide) (fun c => ?_) (fun c => ?_)
  · rw [if_neg c] at h
    refine r_aload_n (i := 0) dX10_type_13 rfl rfl ?_
    refine r_getR f_X10_22 dX10_type_14 rfl rfl ?_
    obtain ⟨r2, hr, h⟩ := bind_some h
    refine r_V (d' := 0) k_X10_174 dX10_type_17 (by omega) rfl rfl rfl (Nat.le_of_ble_eq_true rfl) (Nat.le_of_ble_eq_true rfl) (ok_X8_isFull_31 (Nat.le_refl _) hr) (fun v I' L' hq => ?_)
    obtain ⟨rfl, rfl, rfl⟩ := hq
    simp only [Option.toList_some, Option.toList_none, List.drop_succ_cons, List.drop_zero, List.drop_nil, List.cons_append, List.nil_append]
    refine r_if_eq (tgt := 28) dX10_type_20 (by decide) (fun c => ?_) (fun c => ?_)
    · rw [if_pos c] at h
      refine r_aload_n (i := 0) dX10_type_28 rfl rfl ?_
      refine r_getR f_X10_22 dX10_type_29 rfl rfl ?_
      refine r_iload_n (i := 1) dX10_type_32 rfl rfl ?_
      obtain ⟨⟨r3, Ir3, Lr3⟩, hr, h⟩ := bind_some h
      refine r_V (d' := 0) k_X10_178 dX10_type_33 (by omega) rfl rfl rfl (Nat.le_of_ble_eq_true rfl) (Nat.le_of_ble_eq_true rfl) (ok_X8_add_31 (Nat.le_refl _) hr) (fun v I' L' hq => ?_)
      obtain ⟨rfl, rfl, rfl⟩ := hq
      simp only [Option.toList_some, Option.toList_none, List.drop_succ_cons, List.drop_zero, List.drop_nil, List.cons_append, List.nil_append]
      dsimp only at h
      refine r_iret (by first | rfl | decide) dX10_type_36 ?_
      obtain rfl := Option.some.inj h
      exact ⟨rfl, rfl, rfl⟩
    · rw [if_neg c] at h
      refine r_bipush (v := (-3)) dX10_type_23 (by decide) ?_
      refine r_goto (tgt := 36) dX10_type_25 (by decide) ?_
      refine r_iret (by first | rfl | decide) dX10_type_36 ?_
      obtain rfl := Option.some.inj h
      exact ⟨rfl, rfl, rfl⟩
  · rw [if_pos c] at h
    refine r_iconst (v := (-1)) dX10_type_11 (by decide) ?_
    refine r_iret (by first | rfl | decide) dX10_type_12 ?_
    obtain rfl := Option.some.inj h
    exact ⟨rfl, rfl, rfl⟩
def f_X3_clear_33 (I : mI) (L : mL) : rV := lt (uI I 33 5 0) (fun M1 => lt (uI M1 33 6 0) (fun M2 => some (M2, L)))
theorem ok_X3_clear_33 {d : Nat} (hd : 0 ≤ d) {I : mI} {L : mL} {o : mI × mL} (h : f_X3_clear_33 I L = some o) : RR mX3_clear d 0 [some (.ref 33)] [] I L (retQ none o.1 o.2) := by
  unfold f_X3_clear_33 at h
  refine r_aload_n (i := 0) dX3_clear_0 rfl rfl ?_
  refine r_iconst (v := 0) dX3_clear_1 (by decide) ?_
  refine r_putI f_X3_27 rfl rfl dX3_clear_2 rfl rfl ?_
  replace h := lt_some h
  refine r_aload_n (i := 0) dX3_clear_5 rfl rfl ?_
  refine r_iconst (v := 0) dX3_clear_6 (by decide) ?_
  refine r_putI f_X3_31 rfl rfl dX3_clear_7 rfl rfl ?_
  replace h := lt_some h
  refine r_vret dX3_clear_10 ?_
  obtain rfl := Option.some.inj h
  exact ⟨rfl, rfl, rfl⟩
def f_X8_skipBlanks_31_l0 : Nat → mI → mL → rV
  | 0, _, _ => none
  | n + 1, I, L => if (I 31 2) ≤ (I 31 3) then (some (I, L)) else (ck (inb (I 31 3) 120) (if (I 32 (I 31 3).toNatClampNeg) = 32 then (lt (uI I 31 3 ((I 31 3) + 1)) (fun M1 => f_X8_skipBlanks_31_l0 n M1 L)) else (some (I, L))))
theorem ok_X8_skipBlanks_31_l0 {d : Nat} (hd : 0 ≤ d) : ∀ (n : Nat) (I : mI) (L : mL) (o : mI × mL), f_X8_skipBlanks_31_l0 n I L = some o → RR mX8_skipBlanks d 0 [some (.ref 31)] [] I L (retQ none o.1 o.2) := by
  intro n
  induction n with
  | zero => intro I L o h; rw [f_X8_skipBlanks_31_l0] at h; cases h
  | succ n ih =>
    intro I L o h
    rw [f_X8_skipBlanks_31_l0] at h
    refine r_aload_n (i := 0) dX8_skipBlanks_0 rfl rfl ?_
    refine r_getI f_X8_26 dX8_skipBlanks_1 rfl rfl ?_
    refine r_aload_n (i := 0) dX8_skipBlanks_4 rfl rfl ?_
    refine r_getI f_X8_22 dX8_skipBlanks_5 rfl rfl ?_
    refine r_icmp_ge (tgt := 38) dX8_skipBlanks_8 (by decide) (fun c => ?_) (fun c => ?_)
    · rw [if_pos c] at h
      refine r_vret dX8_skipBlanks_38 ?_
      obtain rfl := Option.some.inj h
      exact ⟨rfl, rfl, rfl⟩
    · rw [if_neg c] at h
      refine r_aload_n (i := 0) dX8_skipBlanks_11 rfl rfl ?_
      refine r_getR f_X8_11 dX8_skipBlanks_12 rfl rfl ?_
      refine r_aload_n (i := 0) dX8_skipBlanks_15 rfl rfl ?_
      refine r_getI f_X8_26 dX8_skipBlanks_16 rfl rfl ?_
      obtain ⟨hb, h⟩ := ck_some h
      refine r_cald rfl (inb_vp hb) dX8_skipBlanks_19 ?_
      refine r_bipush (v := 32) dX8_skipBlanks_20 (by decide) ?_
      refine r_icmp_ne (tgt := 38) dX8_skipBlanks_22 (by decide) (fun c => ?_) (fun c => ?_)
      · rw [if_neg c] at h
        refine r_vret dX8_skipBlanks_38 ?_
        obtain rfl := Option.some.inj h
        exact ⟨rfl, rfl, rfl⟩
      · rw [if_pos c] at h
        refine r_aload_n (i := 0) dX8_skipBlanks_25 rfl rfl ?_
        refine r_dup dX8_skipBlanks_26 rfl ?_
        refine r_getI f_X8_26 dX8_skipBlanks_27 rfl rfl ?_
        refine r_iconst (v := 1) dX8_skipBlanks_30 (by decide) ?_
        refine r_iadd dX8_skipBlanks_31 ?_
        refine r_putI f_X8_26 rfl rfl dX8_skipBlanks_32 rfl rfl ?_
        replace h := lt_some h
        refine r_goto (tgt := 0) dX8_skipBlanks_35 (by decide) ?_
        exact RR.wk (ih _ _ _ h) (And.intro rfl (trivial))
def f_X8_skipBlanks_31 (I : mI) (L : mL) : rV := f_X8_skipBlanks_31_l0 fuel I L
theorem ok_X8_skipBlanks_31 {d : Nat} (hd : 0 ≤ d) {I : mI} {L : mL} {o : mI × mL} (h : f_X8_skipBlanks_31 I L = some o) : RR mX8_skipBlanks d 0 [some (.ref 31)] [] I L (retQ none o.1 o.2) := by
  unfold f_X8_skipBlanks_31 at h
  exact RR.wk (ok_X8_skipBlanks_31_l0 hd _ _ _ _ h) (And.intro rfl (trivial))
def f_X3_addParish_33_l14 : Nat → Int32 → Int32 → mI → mL → rI
  | 0, _, _, _, _ => none
  | n + 1, x2, x3, I, L => if 4 ≤ x3 then (lt (uI I 33 5 ((I 33 5) + 1)) (fun M3 => some (x2, M3, L))) else (ck (inb ((x2 * 4) + x3) 32) (lt (uI I 35 ((x2 * 4) + x3).toNatClampNeg 5) (fun M4 => lt (x3 + Int32.ofInt 1) (fun v5 => f_X3_addParish_33_l14 n x2 v5 M4 L))))
theorem ok_X3_addParish_33_l14 {d : Nat} (hd : 0 ≤ d) : ∀ (n : Nat) (x2 : Int32) (x3 : Int32) (I : mI) (L : mL) (o : Int32 × mI × mL), f_X3_addParish_33_l14 n x2 x3 I L = some o → RR mX3_addParish d 14 [some (.ref 33), none, some (.int x2), some (.int x3)] [] I L (retQ (some (.int o.1)) o.2.1 o.2.2) := by
  intro n
  induction n with
  | zero => intro x2 x3 I L o h; rw [f_X3_addParish_33_l14] at h; cases h
  | succ n ih =>
    intro x2 x3 I L o h
    rw [f_X3_addParish_33_l14] at h
    refine r_iload_n (i := 3) dX3_addParish_14 rfl rfl ?_
    refine r_iconst (v := 4) dX3_addParish_15 (by decide) ?_
    refine r_icmp_ge (tgt := 36) dX3_addParish_16 (by decide) (fun c => ?_) (fun c => ?_)
    · rw [if_pos c] at h
      refine r_aload_n (i := 0) dX3_addParish_36 rfl rfl ?_
      refine r_dup dX3_addParish_37 rfl ?_
      refine r_getI f_X3_27 dX3_addParish_38 rfl rfl ?_
      refine r_iconst (v := 1) dX3_addParish_41 (by decide) ?_
      refine r_iadd dX3_addParish_42 ?_
      refine r_putI f_X3_27 rfl rfl dX3_addParish_43 rfl rfl ?_
      replace h := lt_some h
      refine r_iload_n (i := 2) dX3_addParish_46 rfl rfl ?_
      refine r_iret (by first | rfl | decide) dX3_addParish_47 ?_
      obtain rfl := Option.some.inj h
      exact ⟨rfl, rfl, rfl⟩
    · rw [if_neg c] at h
      refine r_aload_n (i := 0) dX3_addParish_19 rfl rfl ?_
      refine r_getR f_X3_15 dX3_addParish_20 rfl rfl ?_
      refine r_iload_n (i := 2) dX3_addParish_23 rfl rfl ?_
      refine r_iconst (v := 4) dX3_addParish_24 (by decide) ?_
      refine r_imul dX3_addParish_25 ?_
      refine r_iload_n (i := 3) dX3_addParish_26 rfl rfl ?_
      refine r_iadd dX3_addParish_27 ?_
      refine r_iconst (v := 5) dX3_addParish_28 (by decide) ?_
      obtain ⟨hb, h⟩ := ck_some h
      refine r_iast rfl (inb_vp hb) dX3_addParish_29 ?_
      replace h := lt_some h
      refine r_iinc (v := _) dX3_addParish_30 rfl rfl (by decide) rfl ?_
      simp only [List.set_cons_zero, List.set_cons_succ]
      replace h := lt_some h
      refine r_goto (tgt := 14) dX3_addParish_33 (by decide) ?_
      exact RR.wk (ih _ _ _ _ _ h) (And.intro rfl (And.intro rfl (And.intro rfl (trivial))))
def f_X3_addParish_33 (I : mI) (L : mL) (a1 : Int32) : rI := lt (I 33 5) (fun v1 => ck (inb v1 8) (lt (uI I 34 v1.toNatClampNeg a1) (fun M2 => f_X3_addParish_33_l14 fuel v1 0 M2 L)))
theorem ok_X3_addParish_33 {d : Nat} (hd : 0 ≤ d) {I : mI} {L : mL} {a1 : Int32} {o : Int32 × mI × mL} (h : f_X3_addParish_33 I L a1 = some o) : RR mX3_addParish d 0 [some (.ref 33), some (.int a1), none, none] [] I L (retQ (some (.int o.1)) o.2.1 o.2.2) := by
  unfold f_X3_addParish_33 at h
  refine r_aload_n (i := 0) dX3_addParish_0 rfl rfl ?_
  refine r_getI f_X3_27 dX3_addParish_1 rfl rfl ?_
  refine r_istore_n (i := 2) dX3_addParish_4 rfl (by decide) rfl ?_
  simp only [List.set_cons_zero, List.set_cons_succ]
  replace h := lt_some h
  refine r_aload_n (i := 0) dX3_addParish_5 rfl rfl ?_
  refine r_getR f_X3_9 dX3_addParish_6 rfl rfl ?_
  refine r_iload_n (i := 2) dX3_addParish_9 rfl rfl ?_
  refine r_iload_n (i := 1) dX3_addParish_10 rfl rfl ?_
  obtain ⟨hb, h⟩ := ck_some h
  refine r_iast rfl (inb_vp hb) dX3_addParish_11 ?_
  replace h := lt_some h
  refine r_iconst (v := 0) dX3_addParish_12 (by decide) ?_
  refine r_istore_n (i := 3) dX3_addParish_13 rfl (by decide) rfl ?_
  simp only [List.set_cons_zero, List.set_cons_succ]
  exact RR.wk (ok_X3_addParish_33_l14 hd _ _ _ _ _ _ h) (And.intro rfl (And.intro rfl (And.intro rfl (trivial))))
def f_X8_digit_31 (I : mI) (L : mL) (a1 : Int32) (a2 : Int32) : rI := bndV (f_X8_skipBlanks_31 I L) (fun Ir1 Lr1 => if (Ir1 31 3) < (Ir1 31 2) then (ck (inb (Ir1 31 3) 120) (lt ((Ir1 32 (Ir1 31 3).toNatClampNeg) - 48) (fun v3 => if v3 < a1 then (some ((-1), Ir1, Lr1)) else (if a2 < v3 then (some ((-1), Ir1, Lr1)) else (some (v3, Ir1, Lr1)))))) else (some ((-1), Ir1, Lr1)))
theorem ok_X8_digit_31 {d : Nat} (hd : 1 ≤ d) {I : mI} {L : mL} {a1 : Int32} {a2 : Int32} {o : Int32 × mI × mL} (h : f_X8_digit_31 I L a1 a2 = some o) : RR mX8_digit d 0 [some (.ref 31), some (.int a1), some (.int a2), none] [] I L (retQ (some (.int o.1)) o.2.1 o.2.2) := by
  unfold f_X8_digit_31 at h
  refine r_aload_n (i := 0) dX8_digit_0 rfl rfl ?_
  obtain ⟨⟨Ir1, Lr1⟩, hr, h⟩ := bind_some h
  refine r_V (d' := 0) k_X8_43 dX8_digit_1 (by omega) rfl rfl rfl (Nat.le_of_ble_eq_true rfl) (Nat.le_of_ble_eq_true rfl) (ok_X8_skipBlanks_31 (Nat.le_refl _) hr) (fun v I' L' hq => ?_)
  obtain ⟨rfl, rfl, rfl⟩ := hq
  simp only [Option.toList_some, Option.toList_none, List.drop_succ_cons, List.drop_zero, List.drop_nil, List.cons_append, List.nil_append]
  dsimp only at h
  refine r_aload_n (i := 0) dX8_digit_4 rfl rfl ?_
  refine r_getI f_X8_26 dX8_digit_5 rfl rfl ?_
  refine r_aload_n (i := 0) dX8_digit_8 rfl rfl ?_
  refine r_getI f_X8_22 dX8_digit_9 rfl rfl ?_
  refine r_icmp_lt (tgt := 17) dX8_digit_12 (by decide) (fun c => ?_) (fun c => ?_)
  · rw [if_pos c] at h
    refine r_aload_n (i := 0) dX8_digit_17 rfl rfl ?_
    refine r_getR f_X8_11 dX8_digit_18 rfl rfl ?_
    refine r_aload_n (i := 0) dX8_digit_21 rfl rfl ?_
    refine r_getI f_X8_26 dX8_digit_22 rfl rfl ?_
    obtain ⟨hb, h⟩ := ck_some h
    refine r_cald rfl (inb_vp hb) dX8_digit_25 ?_
    refine r_bipush (v := 48) dX8_digit_26 (by decide) ?_
    refine r_isub dX8_digit_28 ?_
    refine r_istore_n (i := 3) dX8_digit_29 rfl (by decide) rfl ?_
    simp only [List.set_cons_zero, List.set_cons_succ]
    replace h := lt_some h
    refine r_iload_n (i := 3) dX8_digit_30 rfl rfl ?_
    refine r_iload_n (i := 1) dX8_digit_31 rfl rfl ?_
    refine r_icmp_lt (tgt := 44) dX8_digit_32 (by decide) (fun c => ?_) (fun c => ?_)
    · rw [if_pos c] at h
      refine r_iconst (v := (-1)) dX8_digit_44 (by decide) ?_
      refine r_iret (by first | rfl | decide) dX8_digit_45 ?_
      obtain rfl := Option.some.inj h
      exact ⟨rfl, rfl, rfl⟩
    · rw [if_neg c] at h
      refine r_iload_n (i := 3) dX8_digit_35 rfl rfl ?_
      refine r_iload_n (i := 2) dX8_digit_36 rfl rfl ?_
      refine r_icmp_gt (tgt := 44) dX8_digit_37 (by decide) (fun c => ?_) (fun c => ?_)
      · rw [if_pos c] at h
        refine r_iconst (v := (-1)) dX8_digit_44 (by decide) ?_
        refine r_iret (by first | rfl | decide) dX8_digit_45 ?_
        obtain rfl := Option.some.inj h
        exact ⟨rfl, rfl, rfl⟩
      · rw [if_neg c] at h
        refine r_iload_n (i := 3) dX8_digit_40 rfl rfl ?_
        refine r_goto (tgt := 45) dX8_digit_41 (by decide) ?_
        refine r_iret (by first | rfl | decide) dX8_digit_45 ?_
        obtain rfl := Option.some.inj h
        exact ⟨rfl, rfl, rfl⟩
  · rw [if_neg c] at h
    refine r_iconst (v := (-1)) dX8_digit_15 (by decide) ?_
    refine r_iret (by first | rfl | decide) dX8_digit_16 ?_
    obtain rfl := Option.some.inj h
    exact ⟨rfl, rfl, rfl⟩
def f_J0_isLatin1_aae02_S (I : mI) (L : mL) : Option Int32 := if (1 : Int32) = 0 then (some 0) else (if (0 : Int32) = 0 then (some 1) else (some 0))
theorem ok_J0_isLatin1_aae02_S {d : Nat} (hd : 0 ≤ d) {I : mI} {L : mL} {o : Int32} (h : f_J0_isLatin1_aae02_S I L = some o) : RR mJ0_isLatin1_aae02 d 0 [some (.ref 82)] [] I L (retQ (some (.int o)) I L) := by
  unfold f_J0_isLatin1_aae02_S at h
  refine r_cs f_J0_38 dJ0_isLatin1_aae02_0 ?_
  refine r_if_eq (tgt := 17) dJ0_isLatin1_aae02_3 (by decide) (fun c => ?_) (fun c => ?_)
  · rw [if_pos c] at h
    refine r_iconst (v := 0) dJ0_isLatin1_aae02_17 (by decide) ?_
    refine r_iret (by first | rfl | decide) dJ0_isLatin1_aae02_18 ?_
    obtain rfl := Option.some.inj h
    exact ⟨rfl, rfl, rfl⟩
  · rw [if_neg c] at h
    refine r_aload_n (i := 0) dJ0_isLatin1_aae02_6 rfl rfl ?_
    refine r_strC f_J0_15 dJ0_isLatin1_aae02_7 ?_
    refine r_if_ne (tgt := 17) dJ0_isLatin1_aae02_10 (by decide) (fun c => ?_) (fun c => ?_)
    · rw [if_neg c] at h
      refine r_iconst (v := 0) dJ0_isLatin1_aae02_17 (by decide) ?_
      refine r_iret (by first | rfl | decide) dJ0_isLatin1_aae02_18 ?_
      obtain rfl := Option.some.inj h
      exact ⟨rfl, rfl, rfl⟩
    · rw [if_pos c] at h
      refine r_iconst (v := 1) dJ0_isLatin1_aae02_13 (by decide) ?_
      refine r_goto (tgt := 18) dJ0_isLatin1_aae02_14 (by decide) ?_
      refine r_iret (by first | rfl | decide) dJ0_isLatin1_aae02_18 ?_
      obtain rfl := Option.some.inj h
      exact ⟨rfl, rfl, rfl⟩
def f_J0_coder_7d493_S (I : mI) (L : mL) : Option Int32 := if (1 : Int32) = 0 then (some 1) else (some 0)
theorem ok_J0_coder_7d493_S {d : Nat} (hd : 0 ≤ d) {I : mI} {L : mL} {o : Int32} (h : f_J0_coder_7d493_S I L = some o) : RR mJ0_coder_7d493 d 0 [some (.ref 82)] [] I L (retQ (some (.int o)) I L) := by
  unfold f_J0_coder_7d493_S at h
  refine r_cs f_J0_38 dJ0_coder_7d493_0 ?_
  refine r_if_eq (tgt := 13) dJ0_coder_7d493_3 (by decide) (fun c => ?_) (fun c => ?_)
  · rw [if_pos c] at h
    refine r_iconst (v := 1) dJ0_coder_7d493_13 (by decide) ?_
    refine r_iret (by first | rfl | decide) dJ0_coder_7d493_14 ?_
    obtain rfl := Option.some.inj h
    exact ⟨rfl, rfl, rfl⟩
  · rw [if_neg c] at h
    refine r_aload_n (i := 0) dJ0_coder_7d493_6 rfl rfl ?_
    refine r_strC f_J0_15 dJ0_coder_7d493_7 ?_
    refine r_goto (tgt := 14) dJ0_coder_7d493_10 (by decide) ?_
    refine r_iret (by first | rfl | decide) dJ0_coder_7d493_14 ?_
    obtain rfl := Option.some.inj h
    exact ⟨rfl, rfl, rfl⟩
def f_J0_length_8abf5_S (I : mI) (L : mL) : Option Int32 := (f_J0_coder_7d493_S I L).bind (fun r1 => some ((4 : Int32) >>> (r1 &&& 31)))
theorem ok_J0_length_8abf5_S {d : Nat} (hd : 1 ≤ d) {I : mI} {L : mL} {o : Int32} (h : f_J0_length_8abf5_S I L = some o) : RR mJ0_length_8abf5 d 0 [some (.ref 82)] [] I L (retQ (some (.int o)) I L) := by
  unfold f_J0_length_8abf5_S at h
  refine r_aload_n (i := 0) dJ0_length_8abf5_0 rfl rfl ?_
  refine r_strV f_J0_9 dJ0_length_8abf5_1 ?_
  refine r_alenB (v := 4) (by decide) dJ0_length_8abf5_4 ?_
  refine r_aload_n (i := 0) dJ0_length_8abf5_5 rfl rfl ?_
  obtain ⟨r1, hr, h⟩ := bind_some h
  refine r_T (d' := 0) k_J0_335 dJ0_length_8abf5_6 (by omega) rfl rfl (Nat.le_of_ble_eq_true rfl) (Nat.le_of_ble_eq_true rfl) (ok_J0_coder_7d493_S (Nat.le_refl _) hr) (fun v I' L' hq => ?_)
  obtain ⟨rfl, rfl, rfl⟩ := hq
  simp only [Option.toList_some, Option.toList_none, List.drop_succ_cons, List.drop_zero, List.drop_nil, List.cons_append, List.nil_append]
  refine r_ishr dJ0_length_8abf5_9 ?_
  refine r_iret (by first | rfl | decide) dJ0_length_8abf5_10 ?_
  obtain rfl := Option.some.inj h
  exact ⟨rfl, rfl, rfl⟩
def f_J1_canEncode_9a6ad (I : mI) (L : mL) (a0 : Int32) : Option Int32 := if a0 < 0 then (some 0) else (if 255 < a0 then (some 0) else (some 1))
theorem ok_J1_canEncode_9a6ad {d : Nat} (hd : 0 ≤ d) {I : mI} {L : mL} {a0 : Int32} {o : Int32} (h : f_J1_canEncode_9a6ad I L a0 = some o) : RR mJ1_canEncode_9a6ad d 0 [some (.int a0)] [] I L (retQ (some (.int o)) I L) := by
  unfold f_J1_canEncode_9a6ad at h
  refine r_iload_n (i := 0) dJ1_canEncode_9a6ad_0 rfl rfl ?_
  refine r_if_lt (tgt := 15) dJ1_canEncode_9a6ad_1 (by decide) (fun c => ?_) (fun c => ?_)
  · rw [if_pos c] at h
    refine r_iconst (v := 0) dJ1_canEncode_9a6ad_15 (by decide) ?_
    refine r_iret (by first | rfl | decide) dJ1_canEncode_9a6ad_16 ?_
    obtain rfl := Option.some.inj h
    exact ⟨rfl, rfl, rfl⟩
  · rw [if_neg c] at h
    refine r_iload_n (i := 0) dJ1_canEncode_9a6ad_4 rfl rfl ?_
    refine r_sipush (v := 255) dJ1_canEncode_9a6ad_5 (by decide) ?_
    refine r_icmp_gt (tgt := 15) dJ1_canEncode_9a6ad_8 (by decide) (fun c => ?_) (fun c => ?_)
    · rw [if_pos c] at h
      refine r_iconst (v := 0) dJ1_canEncode_9a6ad_15 (by decide) ?_
      refine r_iret (by first | rfl | decide) dJ1_canEncode_9a6ad_16 ?_
      obtain rfl := Option.some.inj h
      exact ⟨rfl, rfl, rfl⟩
    · rw [if_neg c] at h
      refine r_iconst (v := 1) dJ1_canEncode_9a6ad_11 (by decide) ?_
      refine r_goto (tgt := 16) dJ1_canEncode_9a6ad_12 (by decide) ?_
      refine r_iret (by first | rfl | decide) dJ1_canEncode_9a6ad_16 ?_
      obtain rfl := Option.some.inj h
      exact ⟨rfl, rfl, rfl⟩
def f_J1_indexOfChar_4cfef_B_l7 (I : mI) (L : mL) : Nat → Int32 → Int32 → Int32 → Option Int32
  | 0, _, _, _ => none
  | n + 1, x3, x4, x5 => if x3 ≤ x5 then (some (-1)) else (ck (inb x5 4) (if (kinL.getD x5.toNatClampNeg 0) = x4 then (some x5) else (lt (x5 + Int32.ofInt 1) (fun v2 => f_J1_indexOfChar_4cfef_B_l7 I L n x3 x4 v2))))
theorem ok_J1_indexOfChar_4cfef_B_l7 {d : Nat} (hd : 0 ≤ d){I : mI} {L : mL} : ∀ (n : Nat) (x3 : Int32) (x4 : Int32) (x5 : Int32) (o : Int32), f_J1_indexOfChar_4cfef_B_l7 I L n x3 x4 x5 = some o → RR mJ1_indexOfChar_4cfef d 7 [some (.ref 83), none, none, some (.int x3), some (.int x4), some (.int x5)] [] I L (retQ (some (.int o)) I L) := by
  intro n
  induction n with
  | zero => intro x3 x4 x5 o h; rw [f_J1_indexOfChar_4cfef_B_l7] at h; cases h
  | succ n ih =>
    intro x3 x4 x5 o h
    rw [f_J1_indexOfChar_4cfef_B_l7] at h
    refine r_iload dJ1_indexOfChar_4cfef_7 rfl ?_
    refine r_iload_n (i := 3) dJ1_indexOfChar_4cfef_9 rfl rfl ?_
    refine r_icmp_ge (tgt := 31) dJ1_indexOfChar_4cfef_10 (by decide) (fun c => ?_) (fun c => ?_)
    · rw [if_pos c] at h
      refine r_iconst (v := (-1)) dJ1_indexOfChar_4cfef_31 (by decide) ?_
      refine r_iret (by first | rfl | decide) dJ1_indexOfChar_4cfef_32 ?_
      obtain rfl := Option.some.inj h
      exact ⟨rfl, rfl, rfl⟩
    · rw [if_neg c] at h
      refine r_aload_n (i := 0) dJ1_indexOfChar_4cfef_13 rfl rfl ?_
      refine r_iload dJ1_indexOfChar_4cfef_14 rfl ?_
      obtain ⟨hb, h⟩ := ck_some h
      refine r_kald (inb_vp hb) dJ1_indexOfChar_4cfef_16 ?_
      refine r_iload dJ1_indexOfChar_4cfef_17 rfl ?_
      refine r_icmp_ne (tgt := 25) dJ1_indexOfChar_4cfef_19 (by decide) (fun c => ?_) (fun c => ?_)
      · rw [if_neg c] at h
        refine r_iinc (v := _) dJ1_indexOfChar_4cfef_25 rfl rfl (by decide) rfl ?_
        simp only [List.set_cons_zero, List.set_cons_succ]
        replace h := lt_some h
        refine r_goto (tgt := 7) dJ1_indexOfChar_4cfef_28 (by decide) ?_
        exact RR.wk (ih _ _ _ _ h) (And.intro rfl (And.intro rfl (And.intro rfl (And.intro rfl (trivial)))))
      · rw [if_pos c] at h
        refine r_iload dJ1_indexOfChar_4cfef_22 rfl ?_
        refine r_iret (by first | rfl | decide) dJ1_indexOfChar_4cfef_24 ?_
        obtain rfl := Option.some.inj h
        exact ⟨rfl, rfl, rfl⟩
def f_J1_indexOfChar_4cfef_B (I : mI) (L : mL) (a1 : Int32) (a2 : Int32) (a3 : Int32) : Option Int32 := lt (a1.toInt8.toInt32) (fun v1 => f_J1_indexOfChar_4cfef_B_l7 I L fuel a3 v1 a2)
theorem ok_J1_indexOfChar_4cfef_B {d : Nat} (hd : 0 ≤ d) {I : mI} {L : mL} {a1 : Int32} {a2 : Int32} {a3 : Int32} {o : Int32} (h : f_J1_indexOfChar_4cfef_B I L a1 a2 a3 = some o) : RR mJ1_indexOfChar_4cfef d 0 [some (.ref 83), some (.int a1), some (.int a2), some (.int a3), none, none] [] I L (retQ (some (.int o)) I L) := by
  unfold f_J1_indexOfChar_4cfef_B at h
  refine r_iload_n (i := 1) dJ1_indexOfChar_4cfef_0 rfl rfl ?_
  refine r_i2b dJ1_indexOfChar_4cfef_1 ?_
  refine r_istore dJ1_indexOfChar_4cfef_2 (by decide) rfl ?_
  simp only [List.set_cons_zero, List.set_cons_succ]
  replace h := lt_some h
  refine r_iload_n (i := 2) dJ1_indexOfChar_4cfef_4 rfl rfl ?_
  refine r_istore dJ1_indexOfChar_4cfef_5 (by decide) rfl ?_
  simp only [List.set_cons_zero, List.set_cons_succ]
  exact RR.wk (ok_J1_indexOfChar_4cfef_B_l7 hd _ _ _ _ _ h) (And.intro rfl (And.intro rfl (And.intro rfl (And.intro rfl (trivial)))))
def f_J1_indexOf_4cfef_B (I : mI) (L : mL) (a1 : Int32) (a2 : Int32) (a3 : Int32) : Option Int32 := (f_J1_canEncode_9a6ad I L a1).bind (fun r1 => if r1 = 0 then (some (-1)) else (lt ((if a2 < 0 then 0 else a2)) (fun v2 => lt ((if 4 < a3 then 4 else a3)) (fun v3 => if v2 < v3 then ((f_J1_indexOfChar_4cfef_B I L a1 v2 v3).bind (fun r4 => some r4)) else (some (-1))))))
theorem ok_J1_indexOf_4cfef_B {d : Nat} (hd : 1 ≤ d) {I : mI} {L : mL} {a1 : Int32} {a2 : Int32} {a3 : Int32} {o : Int32} (h : f_J1_indexOf_4cfef_B I L a1 a2 a3 = some o) : RR mJ1_indexOf_4cfef d 0 [some (.ref 83), some (.int a1), some (.int a2), some (.int a3)] [] I L (retQ (some (.int o)) I L) := by
  unfold f_J1_indexOf_4cfef_B at h
  refine r_iload_n (i := 1) dJ1_indexOf_4cfef_0 rfl rfl ?_
  obtain ⟨r1, hr, h⟩ := bind_some h
  refine r_S (d' := 0) k_J1_88 dJ1_indexOf_4cfef_1 (by omega) rfl (Nat.le_of_ble_eq_true rfl) (Nat.le_of_ble_eq_true rfl) (ok_J1_canEncode_9a6ad (Nat.le_refl _) hr) (fun v I' L' hq => ?_)
  obtain ⟨rfl, rfl, rfl⟩ := hq
  simp only [Option.toList_some, Option.toList_none, List.drop_succ_cons, List.drop_zero, List.drop_nil, List.cons_append, List.nil_append]
  refine r_if_ne (tgt := 9) dJ1_indexOf_4cfef_4 (by decide) (fun c => ?_) (fun c => ?_)
  · rw [if_neg c] at h
    refine r_iload_n (i := 2) dJ1_indexOf_4cfef_9 rfl rfl ?_
    refine r_iconst (v := 0) dJ1_indexOf_4cfef_10 (by decide) ?_
    refine r_mmax k_J1_92 dJ1_indexOf_4cfef_11 (by omega) (Nat.le_of_ble_eq_true rfl) ?_
    refine r_istore_n (i := 2) dJ1_indexOf_4cfef_14 rfl (by decide) rfl ?_
    simp only [List.set_cons_zero, List.set_cons_succ]
    replace h := lt_some h
    refine r_iload_n (i := 3) dJ1_indexOf_4cfef_15 rfl rfl ?_
    refine r_aload_n (i := 0) dJ1_indexOf_4cfef_16 rfl rfl ?_
    refine r_alenB (v := 4) (by decide) dJ1_indexOf_4cfef_17 ?_
    refine r_mmin k_J1_38 dJ1_indexOf_4cfef_18 (by omega) (Nat.le_of_ble_eq_true rfl) ?_
    refine r_istore_n (i := 3) dJ1_indexOf_4cfef_21 rfl (by decide) rfl ?_
    simp only [List.set_cons_zero, List.set_cons_succ]
    replace h := lt_some h
    refine r_iload_n (i := 2) dJ1_indexOf_4cfef_22 rfl rfl ?_
    refine r_iload_n (i := 3) dJ1_indexOf_4cfef_23 rfl rfl ?_
    refine r_icmp_lt (tgt := 29) dJ1_indexOf_4cfef_24 (by decide) (fun c => ?_) (fun c => ?_)
    · rw [if_pos c] at h
      refine r_aload_n (i := 0) dJ1_indexOf_4cfef_29 rfl rfl ?_
      refine r_iload_n (i := 1) dJ1_indexOf_4cfef_30 rfl rfl ?_
      refine r_iload_n (i := 2) dJ1_indexOf_4cfef_31 rfl rfl ?_
      refine r_iload_n (i := 3) dJ1_indexOf_4cfef_32 rfl rfl ?_
      obtain ⟨r4, hr, h⟩ := bind_some h
      refine r_S (d' := 0) k_J1_95 dJ1_indexOf_4cfef_33 (by omega) rfl (Nat.le_of_ble_eq_true rfl) (Nat.le_of_ble_eq_true rfl) (ok_J1_indexOfChar_4cfef_B (Nat.le_refl _) hr) (fun v I' L' hq => ?_)
      obtain ⟨rfl, rfl, rfl⟩ := hq
      simp only [Option.toList_some, Option.toList_none, List.drop_succ_cons, List.drop_zero, List.drop_nil, List.cons_append, List.nil_append]
      refine r_iret (by first | rfl | decide) dJ1_indexOf_4cfef_36 ?_
      obtain rfl := Option.some.inj h
      exact ⟨rfl, rfl, rfl⟩
    · rw [if_neg c] at h
      refine r_iconst (v := (-1)) dJ1_indexOf_4cfef_27 (by decide) ?_
      refine r_iret (by first | rfl | decide) dJ1_indexOf_4cfef_28 ?_
      obtain rfl := Option.some.inj h
      exact ⟨rfl, rfl, rfl⟩
  · rw [if_pos c] at h
    refine r_iconst (v := (-1)) dJ1_indexOf_4cfef_7 (by decide) ?_
    refine r_iret (by first | rfl | decide) dJ1_indexOf_4cfef_8 ?_
    obtain rfl := Option.some.inj h
    exact ⟨rfl, rfl, rfl⟩
def f_J0_indexOf_7cf53_S (I : mI) (L : mL) (a1 : Int32) (a2 : Int32) : Option Int32 := (f_J0_isLatin1_aae02_S I L).bind (fun r1 => if r1 = 0 then ((f_J0_length_8abf5_S I L).bind (fun r2 => none)) else ((f_J0_length_8abf5_S I L).bind (fun r3 => (f_J1_indexOf_4cfef_B I L a1 a2 r3).bind (fun r4 => some r4))))
theorem ok_J0_indexOf_7cf53_S {d : Nat} (hd : 6 ≤ d) {I : mI} {L : mL} {a1 : Int32} {a2 : Int32} {o : Int32} (h : f_J0_indexOf_7cf53_S I L a1 a2 = some o) : RR mJ0_indexOf_7cf53 d 0 [some (.ref 82), some (.int a1), some (.int a2)] [] I L (retQ (some (.int o)) I L) := by
  unfold f_J0_indexOf_7cf53_S at h
  refine r_aload_n (i := 0) dJ0_indexOf_7cf53_0 rfl rfl ?_
  obtain ⟨r1, hr, h⟩ := bind_some h
  refine r_T (d' := 0) k_J0_492 dJ0_indexOf_7cf53_1 (by omega) rfl rfl (Nat.le_of_ble_eq_true rfl) (Nat.le_of_ble_eq_true rfl) (ok_J0_isLatin1_aae02_S (Nat.le_refl _) hr) (fun v I' L' hq => ?_)
  obtain ⟨rfl, rfl, rfl⟩ := hq
  simp only [Option.toList_some, Option.toList_none, List.drop_succ_cons, List.drop_zero, List.drop_nil, List.cons_append, List.nil_append]
  refine r_if_eq (tgt := 23) dJ0_indexOf_7cf53_4 (by decide) (fun c => ?_) (fun c => ?_)
  · rw [if_pos c] at h
    refine r_aload_n (i := 0) dJ0_indexOf_7cf53_23 rfl rfl ?_
    refine r_strV f_J0_9 dJ0_indexOf_7cf53_24 ?_
    refine r_iload_n (i := 1) dJ0_indexOf_7cf53_27 rfl rfl ?_
    refine r_iload_n (i := 2) dJ0_indexOf_7cf53_28 rfl rfl ?_
    refine r_aload_n (i := 0) dJ0_indexOf_7cf53_29 rfl rfl ?_
    obtain ⟨r2, hr, h⟩ := bind_some h
    refine r_T (d' := 1) k_J0_505 dJ0_indexOf_7cf53_30 (by omega) rfl rfl (Nat.le_of_ble_eq_true rfl) (Nat.le_of_ble_eq_true rfl) (ok_J0_length_8abf5_S (Nat.le_refl _) hr) (fun v I' L' hq => ?_)
    obtain ⟨rfl, rfl, rfl⟩ := hq
    simp only [Option.toList_some, Option.toList_none, List.drop_succ_cons, List.drop_zero, List.drop_nil, List.cons_append, List.nil_append]
    cases h
  · rw [if_neg c] at h
    refine r_aload_n (i := 0) dJ0_indexOf_7cf53_7 rfl rfl ?_
    refine r_strV f_J0_9 dJ0_indexOf_7cf53_8 ?_
    refine r_iload_n (i := 1) dJ0_indexOf_7cf53_11 rfl rfl ?_
    refine r_iload_n (i := 2) dJ0_indexOf_7cf53_12 rfl rfl ?_
    refine r_aload_n (i := 0) dJ0_indexOf_7cf53_13 rfl rfl ?_
    obtain ⟨r3, hr, h⟩ := bind_some h
    refine r_T (d' := 1) k_J0_505 dJ0_indexOf_7cf53_14 (by omega) rfl rfl (Nat.le_of_ble_eq_true rfl) (Nat.le_of_ble_eq_true rfl) (ok_J0_length_8abf5_S (Nat.le_refl _) hr) (fun v I' L' hq => ?_)
    obtain ⟨rfl, rfl, rfl⟩ := hq
    simp only [Option.toList_some, Option.toList_none, List.drop_succ_cons, List.drop_zero, List.drop_nil, List.cons_append, List.nil_append]
    obtain ⟨r4, hr, h⟩ := bind_some h
    refine r_S (d' := 1) k_J0_637 dJ0_indexOf_7cf53_17 (by omega) rfl (Nat.le_of_ble_eq_true rfl) (Nat.le_of_ble_eq_true rfl) (ok_J1_indexOf_4cfef_B (Nat.le_refl _) hr) (fun v I' L' hq => ?_)
    obtain ⟨rfl, rfl, rfl⟩ := hq
    simp only [Option.toList_some, Option.toList_none, List.drop_succ_cons, List.drop_zero, List.drop_nil, List.cons_append, List.nil_append]
    refine r_goto (tgt := 36) dJ0_indexOf_7cf53_20 (by decide) ?_
    refine r_iret (by first | rfl | decide) dJ0_indexOf_7cf53_36 ?_
    obtain rfl := Option.some.inj h
    exact ⟨rfl, rfl, rfl⟩
def f_J0_indexOf_0f7a4_S (I : mI) (L : mL) (a1 : Int32) : Option Int32 := (f_J0_indexOf_7cf53_S I L a1 0).bind (fun r1 => some r1)
theorem ok_J0_indexOf_0f7a4_S {d : Nat} (hd : 7 ≤ d) {I : mI} {L : mL} {a1 : Int32} {o : Int32} (h : f_J0_indexOf_0f7a4_S I L a1 = some o) : RR mJ0_indexOf_0f7a4 d 0 [some (.ref 82), some (.int a1)] [] I L (retQ (some (.int o)) I L) := by
  unfold f_J0_indexOf_0f7a4_S at h
  refine r_aload_n (i := 0) dJ0_indexOf_0f7a4_0 rfl rfl ?_
  refine r_iload_n (i := 1) dJ0_indexOf_0f7a4_1 rfl rfl ?_
  refine r_iconst (v := 0) dJ0_indexOf_0f7a4_2 (by decide) ?_
  obtain ⟨r1, hr, h⟩ := bind_some h
  refine r_T (d' := 6) k_J0_633 dJ0_indexOf_0f7a4_3 (by omega) rfl rfl (Nat.le_of_ble_eq_true rfl) (Nat.le_of_ble_eq_true rfl) (ok_J0_indexOf_7cf53_S (Nat.le_refl _) hr) (fun v I' L' hq => ?_)
  obtain ⟨rfl, rfl, rfl⟩ := hq
  simp only [Option.toList_some, Option.toList_none, List.drop_succ_cons, List.drop_zero, List.drop_nil, List.cons_append, List.nil_append]
  refine r_iret (by first | rfl | decide) dJ0_indexOf_0f7a4_6 ?_
  obtain rfl := Option.some.inj h
  exact ⟨rfl, rfl, rfl⟩
def f_X8_readParish_31_l73 : Nat → Int32 → Int32 → mI → mL → rI
  | 0, _, _, _, _ => none
  | n + 1, x2, x3, I, L => if 4 ≤ x3 then (some (1, I, L)) else (bndI (f_X8_digit_31 I L 1 9) (fun r8 Ir8 Lr8 => if 0 ≤ r8 then (lt (uI Ir8 31 3 ((Ir8 31 3) + 1)) (fun M10 => ck (inb ((x2 * 4) + x3) 32) (lt (uI M10 35 ((x2 * 4) + x3).toNatClampNeg r8) (fun M11 => lt (x3 + Int32.ofInt 1) (fun v12 => f_X8_readParish_31_l73 n x2 v12 M11 Lr8))))) else (some (0, Ir8, Lr8))))
theorem ok_X8_readParish_31_l73 {d : Nat} (hd : 8 ≤ d) : ∀ (n : Nat) (x2 : Int32) (x3 : Int32) (I : mI) (L : mL) (o : Int32 × mI × mL), f_X8_readParish_31_l73 n x2 x3 I L = some o → RR mX8_readParish d 73 [some (.ref 31), none, some (.int x2), some (.int x3), none] [] I L (retQ (some (.int o.1)) o.2.1 o.2.2) := by
  intro n
  induction n with
  | zero => intro x2 x3 I L o h; rw [f_X8_readParish_31_l73] at h; cases h
  | succ n ih =>
    intro x2 x3 I L o h
    rw [f_X8_readParish_31_l73] at h
    refine r_iload_n (i := 3) dX8_readParish_73 rfl rfl ?_
    refine r_iconst (v := 4) dX8_readParish_74 (by decide) ?_
    refine r_icmp_ge (tgt := 125) dX8_readParish_75 (by decide) (fun c => ?_) (fun c => ?_)
    · rw [if_pos c] at h
      refine r_iconst (v := 1) dX8_readParish_125 (by decide) ?_
      refine r_iret (by first | rfl | decide) dX8_readParish_126 ?_
      obtain rfl := Option.some.inj h
      exact ⟨rfl, rfl, rfl⟩
    · rw [if_neg c] at h
      refine r_aload_n (i := 0) dX8_readParish_78 rfl rfl ?_
      refine r_iconst (v := 1) dX8_readParish_79 (by decide) ?_
      refine r_bipush (v := 9) dX8_readParish_80 (by decide) ?_
      obtain ⟨⟨r8, Ir8, Lr8⟩, hr, h⟩ := bind_some h
      refine r_V (d' := 1) k_X8_60 dX8_readParish_82 (by omega) rfl rfl rfl (Nat.le_of_ble_eq_true rfl) (Nat.le_of_ble_eq_true rfl) (ok_X8_digit_31 (Nat.le_refl _) hr) (fun v I' L' hq => ?_)
      obtain ⟨rfl, rfl, rfl⟩ := hq
      simp only [Option.toList_some, Option.toList_none, List.drop_succ_cons, List.drop_zero, List.drop_nil, List.cons_append, List.nil_append]
      dsimp only at h
      refine r_istore dX8_readParish_85 (by decide) rfl ?_
      simp only [List.set_cons_zero, List.set_cons_succ]
      refine r_iload dX8_readParish_87 rfl ?_
      refine r_if_ge (tgt := 94) dX8_readParish_89 (by decide) (fun c => ?_) (fun c => ?_)
      · rw [if_pos c] at h
        refine r_aload_n (i := 0) dX8_readParish_94 rfl rfl ?_
        refine r_dup dX8_readParish_95 rfl ?_
        refine r_getI f_X8_26 dX8_readParish_96 rfl rfl ?_
        refine r_iconst (v := 1) dX8_readParish_99 (by decide) ?_
        refine r_iadd dX8_readParish_100 ?_
        refine r_putI f_X8_26 rfl rfl dX8_readParish_101 rfl rfl ?_
        replace h := lt_some h
        refine r_aload_n (i := 0) dX8_readParish_104 rfl rfl ?_
        refine r_getR f_X8_18 dX8_readParish_105 rfl rfl ?_
        refine r_getR f_X8_64 dX8_readParish_108 rfl rfl ?_
        refine r_iload_n (i := 2) dX8_readParish_111 rfl rfl ?_
        refine r_iconst (v := 4) dX8_readParish_112 (by decide) ?_
        refine r_imul dX8_readParish_113 ?_
        refine r_iload_n (i := 3) dX8_readParish_114 rfl rfl ?_
        refine r_iadd dX8_readParish_115 ?_
        refine r_iload dX8_readParish_116 rfl ?_
        obtain ⟨hb, h⟩ := ck_some h
        refine r_iast rfl (inb_vp hb) dX8_readParish_118 ?_
        replace h := lt_some h
        refine r_iinc (v := _) dX8_readParish_119 rfl rfl (by decide) rfl ?_
        simp only [List.set_cons_zero, List.set_cons_succ]
        replace h := lt_some h
        refine r_goto (tgt := 73) dX8_readParish_122 (by decide) ?_
        exact RR.wk (ih _ _ _ _ _ h) (And.intro rfl (And.intro rfl (And.intro rfl (trivial))))
      · rw [if_neg c] at h
        refine r_iconst (v := 0) dX8_readParish_92 (by decide) ?_
        refine r_iret (by first | rfl | decide) dX8_readParish_93 ?_
        obtain rfl := Option.some.inj h
        exact ⟨rfl, rfl, rfl⟩
def f_X8_readParish_31_b33 (I : mI) (L : mL) (s0 : Int32) : rI := if 0 ≤ s0 then (lt (uI I 31 3 ((I 31 3) + 1)) (fun M3 => bndI (f_X3_addParish_33 M3 L s0) (fun r4 Ir4 Lr4 => bndI (f_X8_digit_31 Ir4 Lr4 1 9) (fun r6 Ir6 Lr6 => if 0 ≤ r6 then (f_X8_readParish_31_l73 fuel r4 0 Ir6 Lr6) else (some (1, Ir6, Lr6)))))) else (some (0, I, L))
theorem ok_X8_readParish_31_b33 {d : Nat} (hd : 8 ≤ d){I : mI} {L : mL} (s0 : Int32) {o : Int32 × mI × mL} (h : f_X8_readParish_31_b33 I L s0 = some o) : RR mX8_readParish d 33 [some (.ref 31), none, none, none, none] [.int s0] I L (retQ (some (.int o.1)) o.2.1 o.2.2) := by
  unfold f_X8_readParish_31_b33 at h
  refine r_istore_n (i := 1) dX8_readParish_33 rfl (by decide) rfl ?_
  simp only [List.set_cons_zero, List.set_cons_succ]
  refine r_iload_n (i := 1) dX8_readParish_34 rfl rfl ?_
  refine r_if_ge (tgt := 40) dX8_readParish_35 (by decide) (fun c => ?_) (fun c => ?_)
  · rw [if_pos c] at h
    refine r_aload_n (i := 0) dX8_readParish_40 rfl rfl ?_
    refine r_dup dX8_readParish_41 rfl ?_
    refine r_getI f_X8_26 dX8_readParish_42 rfl rfl ?_
    refine r_iconst (v := 1) dX8_readParish_45 (by decide) ?_
    refine r_iadd dX8_readParish_46 ?_
    refine r_putI f_X8_26 rfl rfl dX8_readParish_47 rfl rfl ?_
    replace h := lt_some h
    refine r_aload_n (i := 0) dX8_readParish_50 rfl rfl ?_
    refine r_getR f_X8_18 dX8_readParish_51 rfl rfl ?_
    refine r_iload_n (i := 1) dX8_readParish_54 rfl rfl ?_
    obtain ⟨⟨r4, Ir4, Lr4⟩, hr, h⟩ := bind_some h
    refine r_V (d' := 0) k_X8_57 dX8_readParish_55 (by omega) rfl rfl rfl (Nat.le_of_ble_eq_true rfl) (Nat.le_of_ble_eq_true rfl) (ok_X3_addParish_33 (Nat.le_refl _) hr) (fun v I' L' hq => ?_)
    obtain ⟨rfl, rfl, rfl⟩ := hq
    simp only [Option.toList_some, Option.toList_none, List.drop_succ_cons, List.drop_zero, List.drop_nil, List.cons_append, List.nil_append]
    dsimp only at h
    refine r_istore_n (i := 2) dX8_readParish_58 rfl (by decide) rfl ?_
    simp only [List.set_cons_zero, List.set_cons_succ]
    refine r_aload_n (i := 0) dX8_readParish_59 rfl rfl ?_
    refine r_iconst (v := 1) dX8_readParish_60 (by decide) ?_
    refine r_bipush (v := 9) dX8_readParish_61 (by decide) ?_
    obtain ⟨⟨r6, Ir6, Lr6⟩, hr, h⟩ := bind_some h
    refine r_V (d' := 1) k_X8_60 dX8_readParish_63 (by omega) rfl rfl rfl (Nat.le_of_ble_eq_true rfl) (Nat.le_of_ble_eq_true rfl) (ok_X8_digit_31 (Nat.le_refl _) hr) (fun v I' L' hq => ?_)
    obtain ⟨rfl, rfl, rfl⟩ := hq
    simp only [Option.toList_some, Option.toList_none, List.drop_succ_cons, List.drop_zero, List.drop_nil, List.cons_append, List.nil_append]
    dsimp only at h
    refine r_if_ge (tgt := 71) dX8_readParish_66 (by decide) (fun c => ?_) (fun c => ?_)
    · rw [if_pos c] at h
      refine r_iconst (v := 0) dX8_readParish_71 (by decide) ?_
      refine r_istore_n (i := 3) dX8_readParish_72 rfl (by decide) rfl ?_
      simp only [List.set_cons_zero, List.set_cons_succ]
      exact RR.wk (ok_X8_readParish_31_l73 hd _ _ _ _ _ _ h) (And.intro rfl (And.intro rfl (And.intro rfl (trivial))))
    · rw [if_neg c] at h
      refine r_iconst (v := 1) dX8_readParish_69 (by decide) ?_
      refine r_iret (by first | rfl | decide) dX8_readParish_70 ?_
      obtain rfl := Option.some.inj h
      exact ⟨rfl, rfl, rfl⟩
  · rw [if_neg c] at h
    refine r_iconst (v := 0) dX8_readParish_38 (by decide) ?_
    refine r_iret (by first | rfl | decide) dX8_readParish_39 ?_
    obtain rfl := Option.some.inj h
    exact ⟨rfl, rfl, rfl⟩
def f_X8_readParish_31 (I : mI) (L : mL) : rI := bndV (f_X8_skipBlanks_31 I L) (fun Ir1 Lr1 => if (Ir1 31 2) ≤ (Ir1 31 3) then (f_X8_readParish_31_b33 Ir1 Lr1 (-1)) else (ck (inb (Ir1 31 3) 120) ((f_J0_indexOf_0f7a4_S Ir1 Lr1 (Ir1 32 (Ir1 31 3).toNatClampNeg)).bind (fun r13 => f_X8_readParish_31_b33 Ir1 Lr1 r13))))
theorem ok_X8_readParish_31 {d : Nat} (hd : 8 ≤ d) {I : mI} {L : mL} {o : Int32 × mI × mL} (h : f_X8_readParish_31 I L = some o) : RR mX8_readParish d 0 [some (.ref 31), none, none, none, none] [] I L (retQ (some (.int o.1)) o.2.1 o.2.2) := by
  unfold f_X8_readParish_31 at h
  refine r_aload_n (i := 0) dX8_readParish_0 rfl rfl ?_
  obtain ⟨⟨Ir1, Lr1⟩, hr, h⟩ := bind_some h
  refine r_V (d' := 0) k_X8_43 dX8_readParish_1 (by omega) rfl rfl rfl (Nat.le_of_ble_eq_true rfl) (Nat.le_of_ble_eq_true rfl) (ok_X8_skipBlanks_31 (Nat.le_refl _) hr) (fun v I' L' hq => ?_)
  obtain ⟨rfl, rfl, rfl⟩ := hq
  simp only [Option.toList_some, Option.toList_none, List.drop_succ_cons, List.drop_zero, List.drop_nil, List.cons_append, List.nil_append]
  dsimp only at h
  refine r_aload_n (i := 0) dX8_readParish_4 rfl rfl ?_
  refine r_getI f_X8_26 dX8_readParish_5 rfl rfl ?_
  refine r_aload_n (i := 0) dX8_readParish_8 rfl rfl ?_
  refine r_getI f_X8_22 dX8_readParish_9 rfl rfl ?_
  refine r_icmp_ge (tgt := 32) dX8_readParish_12 (by decide) (fun c => ?_) (fun c => ?_)
  · rw [if_pos c] at h
    refine r_iconst (v := (-1)) dX8_readParish_32 (by decide) ?_
    exact RR.wk (ok_X8_readParish_31_b33 hd _ h) (And.intro rfl (trivial))
  · rw [if_neg c] at h
    refine r_ldcS0 rfl dX8_readParish_15 ?_
    refine r_aload_n (i := 0) dX8_readParish_17 rfl rfl ?_
    refine r_getR f_X8_11 dX8_readParish_18 rfl rfl ?_
    refine r_aload_n (i := 0) dX8_readParish_21 rfl rfl ?_
    refine r_getI f_X8_26 dX8_readParish_22 rfl rfl ?_
    obtain ⟨hb, h⟩ := ck_some h
    refine r_cald rfl (inb_vp hb) dX8_readParish_25 ?_
    obtain ⟨r13, hr, h⟩ := bind_some h
    refine r_T (d' := 7) k_X8_51 dX8_readParish_26 (by omega) rfl rfl (Nat.le_of_ble_eq_true rfl) (Nat.le_of_ble_eq_true rfl) (ok_J0_indexOf_0f7a4_S (Nat.le_refl _) hr) (fun v I' L' hq => ?_)
    obtain ⟨rfl, rfl, rfl⟩ := hq
    simp only [Option.toList_some, Option.toList_none, List.drop_succ_cons, List.drop_zero, List.drop_nil, List.cons_append, List.nil_append]
    refine r_goto (tgt := 33) dX8_readParish_29 (by decide) ?_
    exact RR.wk (ok_X8_readParish_31_b33 hd _ h) (And.intro rfl (trivial))
def f_X8_takes_31 (I : mI) (L : mL) (a1 : Int32) : rI := bndV (f_X8_skipBlanks_31 I L) (fun Ir1 Lr1 => if (Ir1 31 2) ≤ (Ir1 31 3) then (some (0, Ir1, Lr1)) else (ck (inb (Ir1 31 3) 120) (if (Ir1 32 (Ir1 31 3).toNatClampNeg) = a1 then (lt (uI Ir1 31 3 ((Ir1 31 3) + 1)) (fun M3 => some (1, M3, Lr1))) else (some (0, Ir1, Lr1)))))
theorem ok_X8_takes_31 {d : Nat} (hd : 1 ≤ d) {I : mI} {L : mL} {a1 : Int32} {o : Int32 × mI × mL} (h : f_X8_takes_31 I L a1 = some o) : RR mX8_takes d 0 [some (.ref 31), some (.int a1)] [] I L (retQ (some (.int o.1)) o.2.1 o.2.2) := by
  unfold f_X8_takes_31 at h
  refine r_aload_n (i := 0) dX8_takes_0 rfl rfl ?_
  obtain ⟨⟨Ir1, Lr1⟩, hr, h⟩ := bind_some h
  refine r_V (d' := 0) k_X8_43 dX8_takes_1 (by omega) rfl rfl rfl (Nat.le_of_ble_eq_true rfl) (Nat.le_of_ble_eq_true rfl) (ok_X8_skipBlanks_31 (Nat.le_refl _) hr) (fun v I' L' hq => ?_)
  obtain ⟨rfl, rfl, rfl⟩ := hq
  simp only [Option.toList_some, Option.toList_none, List.drop_succ_cons, List.drop_zero, List.drop_nil, List.cons_append, List.nil_append]
  dsimp only at h
  refine r_aload_n (i := 0) dX8_takes_4 rfl rfl ?_
  refine r_getI f_X8_26 dX8_takes_5 rfl rfl ?_
  refine r_aload_n (i := 0) dX8_takes_8 rfl rfl ?_
  refine r_getI f_X8_22 dX8_takes_9 rfl rfl ?_
  refine r_icmp_ge (tgt := 28) dX8_takes_12 (by decide) (fun c => ?_) (fun c => ?_)
  · rw [if_pos c] at h
    refine r_iconst (v := 0) dX8_takes_28 (by decide) ?_
    refine r_iret (by first | rfl | decide) dX8_takes_29 ?_
    obtain rfl := Option.some.inj h
    exact ⟨rfl, rfl, rfl⟩
  · rw [if_neg c] at h
    refine r_aload_n (i := 0) dX8_takes_15 rfl rfl ?_
    refine r_getR f_X8_11 dX8_takes_16 rfl rfl ?_
    refine r_aload_n (i := 0) dX8_takes_19 rfl rfl ?_
    refine r_getI f_X8_26 dX8_takes_20 rfl rfl ?_
    obtain ⟨hb, h⟩ := ck_some h
    refine r_cald rfl (inb_vp hb) dX8_takes_23 ?_
    refine r_iload_n (i := 1) dX8_takes_24 rfl rfl ?_
    refine r_icmp_eq (tgt := 30) dX8_takes_25 (by decide) (fun c => ?_) (fun c => ?_)
    · rw [if_pos c] at h
      refine r_aload_n (i := 0) dX8_takes_30 rfl rfl ?_
      refine r_dup dX8_takes_31 rfl ?_
      refine r_getI f_X8_26 dX8_takes_32 rfl rfl ?_
      refine r_iconst (v := 1) dX8_takes_35 (by decide) ?_
      refine r_iadd dX8_takes_36 ?_
      refine r_putI f_X8_26 rfl rfl dX8_takes_37 rfl rfl ?_
      replace h := lt_some h
      refine r_iconst (v := 1) dX8_takes_40 (by decide) ?_
      refine r_iret (by first | rfl | decide) dX8_takes_41 ?_
      obtain rfl := Option.some.inj h
      exact ⟨rfl, rfl, rfl⟩
    · rw [if_neg c] at h
      refine r_iconst (v := 0) dX8_takes_28 (by decide) ?_
      refine r_iret (by first | rfl | decide) dX8_takes_29 ?_
      obtain rfl := Option.some.inj h
      exact ⟨rfl, rfl, rfl⟩
def f_X8_readParishes_31_l2 : Nat → Int32 → mI → mL → rI
  | 0, _, _, _ => none
  | n + 1, x1, I, L => if 8 < x1 then (some (1, I, L)) else (bndI (f_X8_readParish_31 I L) (fun r1 Ir1 Lr1 => if r1 = 0 then (some (0, Ir1, Lr1)) else (if x1 = 8 then (some (1, Ir1, Lr1)) else (bndI (f_X8_takes_31 Ir1 Lr1 44) (fun r3 Ir3 Lr3 => if r3 = 0 then (some (1, Ir3, Lr3)) else (lt (x1 + Int32.ofInt 1) (fun v5 => f_X8_readParishes_31_l2 n v5 Ir3 Lr3)))))))
theorem ok_X8_readParishes_31_l2 {d : Nat} (hd : 9 ≤ d) : ∀ (n : Nat) (x1 : Int32) (I : mI) (L : mL) (o : Int32 × mI × mL), f_X8_readParishes_31_l2 n x1 I L = some o → RR mX8_readParishes d 2 [some (.ref 31), some (.int x1)] [] I L (retQ (some (.int o.1)) o.2.1 o.2.2) := by
  intro n
  induction n with
  | zero => intro x1 I L o h; rw [f_X8_readParishes_31_l2] at h; cases h
  | succ n ih =>
    intro x1 I L o h
    rw [f_X8_readParishes_31_l2] at h
    refine r_iload_n (i := 1) dX8_readParishes_2 rfl rfl ?_
    refine r_bipush (v := 8) dX8_readParishes_3 (by decide) ?_
    refine r_icmp_gt (tgt := 40) dX8_readParishes_5 (by decide) (fun c => ?_) (fun c => ?_)
    · rw [if_pos c] at h
      refine r_iconst (v := 1) dX8_readParishes_40 (by decide) ?_
      refine r_iret (by first | rfl | decide) dX8_readParishes_41 ?_
      obtain rfl := Option.some.inj h
      exact ⟨rfl, rfl, rfl⟩
    · rw [if_neg c] at h
      refine r_aload_n (i := 0) dX8_readParishes_8 rfl rfl ?_
      obtain ⟨⟨r1, Ir1, Lr1⟩, hr, h⟩ := bind_some h
      refine r_V (d' := 8) k_X8_46 dX8_readParishes_9 (by omega) rfl rfl rfl (Nat.le_of_ble_eq_true rfl) (Nat.le_of_ble_eq_true rfl) (ok_X8_readParish_31 (Nat.le_refl _) hr) (fun v I' L' hq => ?_)
      obtain ⟨rfl, rfl, rfl⟩ := hq
      simp only [Option.toList_some, Option.toList_none, List.drop_succ_cons, List.drop_zero, List.drop_nil, List.cons_append, List.nil_append]
      dsimp only at h
      refine r_if_ne (tgt := 17) dX8_readParishes_12 (by decide) (fun c => ?_) (fun c => ?_)
      · rw [if_neg c] at h
        refine r_iload_n (i := 1) dX8_readParishes_17 rfl rfl ?_
        refine r_bipush (v := 8) dX8_readParishes_18 (by decide) ?_
        refine r_icmp_eq (tgt := 32) dX8_readParishes_20 (by decide) (fun c => ?_) (fun c => ?_)
        · rw [if_pos c] at h
          refine r_iconst (v := 1) dX8_readParishes_32 (by decide) ?_
          refine r_iret (by first | rfl | decide) dX8_readParishes_33 ?_
          obtain rfl := Option.some.inj h
          exact ⟨rfl, rfl, rfl⟩
        · rw [if_neg c] at h
          refine r_aload_n (i := 0) dX8_readParishes_23 rfl rfl ?_
          refine r_bipush (v := 44) dX8_readParishes_24 (by decide) ?_
          obtain ⟨⟨r3, Ir3, Lr3⟩, hr, h⟩ := bind_some h
          refine r_V (d' := 1) k_X8_36 dX8_readParishes_26 (by omega) rfl rfl rfl (Nat.le_of_ble_eq_true rfl) (Nat.le_of_ble_eq_true rfl) (ok_X8_takes_31 (Nat.le_refl _) hr) (fun v I' L' hq => ?_)
          obtain ⟨rfl, rfl, rfl⟩ := hq
          simp only [Option.toList_some, Option.toList_none, List.drop_succ_cons, List.drop_zero, List.drop_nil, List.cons_append, List.nil_append]
          dsimp only at h
          refine r_if_ne (tgt := 34) dX8_readParishes_29 (by decide) (fun c => ?_) (fun c => ?_)
          · rw [if_neg c] at h
            refine r_iinc (v := _) dX8_readParishes_34 rfl rfl (by decide) rfl ?_
            simp only [List.set_cons_zero, List.set_cons_succ]
            replace h := lt_some h
            refine r_goto (tgt := 2) dX8_readParishes_37 (by decide) ?_
            exact RR.wk (ih _ _ _ _ h) (And.intro rfl (And.intro rfl (trivial)))
          · rw [if_pos c] at h
            refine r_iconst (v := 1) dX8_readParishes_32 (by decide) ?_
            refine r_iret (by first | rfl | decide) dX8_readParishes_33 ?_
            obtain rfl := Option.some.inj h
            exact ⟨rfl, rfl, rfl⟩
      · rw [if_pos c] at h
        refine r_iconst (v := 0) dX8_readParishes_15 (by decide) ?_
        refine r_iret (by first | rfl | decide) dX8_readParishes_16 ?_
        obtain rfl := Option.some.inj h
        exact ⟨rfl, rfl, rfl⟩
def f_X8_readParishes_31 (I : mI) (L : mL) : rI := f_X8_readParishes_31_l2 fuel 1 I L
theorem ok_X8_readParishes_31 {d : Nat} (hd : 9 ≤ d) {I : mI} {L : mL} {o : Int32 × mI × mL} (h : f_X8_readParishes_31 I L = some o) : RR mX8_readParishes d 0 [some (.ref 31), none] [] I L (retQ (some (.int o.1)) o.2.1 o.2.2) := by
  unfold f_X8_readParishes_31 at h
  refine r_iconst (v := 1) dX8_readParishes_0 (by decide) ?_
  refine r_istore_n (i := 1) dX8_readParishes_1 rfl (by decide) rfl ?_
  simp only [List.set_cons_zero, List.set_cons_succ]
  exact RR.wk (ok_X8_readParishes_31_l2 hd _ _ _ _ _ h) (And.intro rfl (And.intro rfl (trivial)))
def f_X3_joins_33_l2 (I : mI) (L : mL) : Nat → Int32 → Int32 → Int32 → Option Int32
  | 0, _, _, _ => none
  | n + 1, x1, x2, x3 => if (I 33 6) ≤ x3 then (some 0) else (ck (inb x3 15) (if (I 36 x3.toNatClampNeg) = (if x2 < x1 then x2 else x1) then (ck (inb x3 15) (if (I 37 x3.toNatClampNeg) = (if x1 < x2 then x2 else x1) then (some 1) else (lt (x3 + Int32.ofInt 1) (fun v2 => f_X3_joins_33_l2 I L n x1 x2 v2)))) else (lt (x3 + Int32.ofInt 1) (fun v1 => f_X3_joins_33_l2 I L n x1 x2 v1))))
theorem ok_X3_joins_33_l2 {d : Nat} (hd : 1 ≤ d){I : mI} {L : mL} : ∀ (n : Nat) (x1 : Int32) (x2 : Int32) (x3 : Int32) (o : Int32), f_X3_joins_33_l2 I L n x1 x2 x3 = some o → RR mX3_joins d 2 [some (.ref 33), some (.int x1), some (.int x2), some (.int x3)] [] I L (retQ (some (.int o)) I L) := by
  intro n
  induction n with
  | zero => intro x1 x2 x3 o h; rw [f_X3_joins_33_l2] at h; cases h
  | succ n ih =>
    intro x1 x2 x3 o h
    rw [f_X3_joins_33_l2] at h
    refine r_iload_n (i := 3) dX3_joins_2 rfl rfl ?_
    refine r_aload_n (i := 0) dX3_joins_3 rfl rfl ?_
    refine r_getI f_X3_31 dX3_joins_4 rfl rfl ?_
    refine r_icmp_ge (tgt := 46) dX3_joins_7 (by decide) (fun c => ?_) (fun c => ?_)
    · rw [if_pos c] at h
      refine r_iconst (v := 0) dX3_joins_46 (by decide) ?_
      refine r_iret (by first | rfl | decide) dX3_joins_47 ?_
      obtain rfl := Option.some.inj h
      exact ⟨rfl, rfl, rfl⟩
    · rw [if_neg c] at h
      refine r_aload_n (i := 0) dX3_joins_10 rfl rfl ?_
      refine r_getR f_X3_18 dX3_joins_11 rfl rfl ?_
      refine r_iload_n (i := 3) dX3_joins_14 rfl rfl ?_
      obtain ⟨hb, h⟩ := ck_some h
      refine r_iald rfl (inb_vp hb) dX3_joins_15 ?_
      refine r_iload_n (i := 1) dX3_joins_16 rfl rfl ?_
      refine r_iload_n (i := 2) dX3_joins_17 rfl rfl ?_
      refine r_mmin k_X3_34 dX3_joins_18 (by omega) (Nat.le_of_ble_eq_true rfl) ?_
      refine r_icmp_ne (tgt := 40) dX3_joins_21 (by decide) (fun c => ?_) (fun c => ?_)
      · rw [if_neg c] at h
        refine r_iinc (v := _) dX3_joins_40 rfl rfl (by decide) rfl ?_
        simp only [List.set_cons_zero, List.set_cons_succ]
        replace h := lt_some h
        refine r_goto (tgt := 2) dX3_joins_43 (by decide) ?_
        exact RR.wk (ih _ _ _ _ h) (And.intro rfl (And.intro rfl (And.intro rfl (And.intro rfl (trivial)))))
      · rw [if_pos c] at h
        refine r_aload_n (i := 0) dX3_joins_24 rfl rfl ?_
        refine r_getR f_X3_21 dX3_joins_25 rfl rfl ?_
        refine r_iload_n (i := 3) dX3_joins_28 rfl rfl ?_
        obtain ⟨hb, h⟩ := ck_some h
        refine r_iald rfl (inb_vp hb) dX3_joins_29 ?_
        refine r_iload_n (i := 1) dX3_joins_30 rfl rfl ?_
        refine r_iload_n (i := 2) dX3_joins_31 rfl rfl ?_
        refine r_mmax k_X3_40 dX3_joins_32 (by omega) (Nat.le_of_ble_eq_true rfl) ?_
        refine r_icmp_ne (tgt := 40) dX3_joins_35 (by decide) (fun c => ?_) (fun c => ?_)
        · rw [if_neg c] at h
          refine r_iinc (v := _) dX3_joins_40 rfl rfl (by decide) rfl ?_
          simp only [List.set_cons_zero, List.set_cons_succ]
          replace h := lt_some h
          refine r_goto (tgt := 2) dX3_joins_43 (by decide) ?_
          exact RR.wk (ih _ _ _ _ h) (And.intro rfl (And.intro rfl (And.intro rfl (And.intro rfl (trivial)))))
        · rw [if_pos c] at h
          refine r_iconst (v := 1) dX3_joins_38 (by decide) ?_
          refine r_iret (by first | rfl | decide) dX3_joins_39 ?_
          obtain rfl := Option.some.inj h
          exact ⟨rfl, rfl, rfl⟩
def f_X3_joins_33 (I : mI) (L : mL) (a1 : Int32) (a2 : Int32) : Option Int32 := f_X3_joins_33_l2 I L fuel a1 a2 0
theorem ok_X3_joins_33 {d : Nat} (hd : 1 ≤ d) {I : mI} {L : mL} {a1 : Int32} {a2 : Int32} {o : Int32} (h : f_X3_joins_33 I L a1 a2 = some o) : RR mX3_joins d 0 [some (.ref 33), some (.int a1), some (.int a2), none] [] I L (retQ (some (.int o)) I L) := by
  unfold f_X3_joins_33 at h
  refine r_iconst (v := 0) dX3_joins_0 (by decide) ?_
  refine r_istore_n (i := 3) dX3_joins_1 rfl (by decide) rfl ?_
  simp only [List.set_cons_zero, List.set_cons_succ]
  exact RR.wk (ok_X3_joins_33_l2 hd _ _ _ _ _ h) (And.intro rfl (And.intro rfl (And.intro rfl (And.intro rfl (trivial)))))
def f_X3_addRoad_33 (I : mI) (L : mL) (a1 : Int32) (a2 : Int32) (a3 : Int32) : rI := lt (I 33 6) (fun v1 => ck (inb v1 15) (lt (uI I 36 v1.toNatClampNeg (if a2 < a1 then a2 else a1)) (fun M2 => ck (inb v1 15) (lt (uI M2 37 v1.toNatClampNeg (if a1 < a2 then a2 else a1)) (fun M3 => ck (inb v1 15) (lt (uI M3 38 v1.toNatClampNeg a3) (fun M4 => lt (uI M4 33 6 ((M4 33 6) + 1)) (fun M5 => some (v1, M5, L)))))))))
theorem ok_X3_addRoad_33 {d : Nat} (hd : 1 ≤ d) {I : mI} {L : mL} {a1 : Int32} {a2 : Int32} {a3 : Int32} {o : Int32 × mI × mL} (h : f_X3_addRoad_33 I L a1 a2 a3 = some o) : RR mX3_addRoad d 0 [some (.ref 33), some (.int a1), some (.int a2), some (.int a3), none] [] I L (retQ (some (.int o.1)) o.2.1 o.2.2) := by
  unfold f_X3_addRoad_33 at h
  refine r_aload_n (i := 0) dX3_addRoad_0 rfl rfl ?_
  refine r_getI f_X3_31 dX3_addRoad_1 rfl rfl ?_
  refine r_istore dX3_addRoad_4 (by decide) rfl ?_
  simp only [List.set_cons_zero, List.set_cons_succ]
  replace h := lt_some h
  refine r_aload_n (i := 0) dX3_addRoad_6 rfl rfl ?_
  refine r_getR f_X3_18 dX3_addRoad_7 rfl rfl ?_
  refine r_iload dX3_addRoad_10 rfl ?_
  refine r_iload_n (i := 1) dX3_addRoad_12 rfl rfl ?_
  refine r_iload_n (i := 2) dX3_addRoad_13 rfl rfl ?_
  refine r_mmin k_X3_34 dX3_addRoad_14 (by omega) (Nat.le_of_ble_eq_true rfl) ?_
  obtain ⟨hb, h⟩ := ck_some h
  refine r_iast rfl (inb_vp hb) dX3_addRoad_17 ?_
  replace h := lt_some h
  refine r_aload_n (i := 0) dX3_addRoad_18 rfl rfl ?_
  refine r_getR f_X3_21 dX3_addRoad_19 rfl rfl ?_
  refine r_iload dX3_addRoad_22 rfl ?_
  refine r_iload_n (i := 1) dX3_addRoad_24 rfl rfl ?_
  refine r_iload_n (i := 2) dX3_addRoad_25 rfl rfl ?_
  refine r_mmax k_X3_40 dX3_addRoad_26 (by omega) (Nat.le_of_ble_eq_true rfl) ?_
  obtain ⟨hb, h⟩ := ck_some h
  refine r_iast rfl (inb_vp hb) dX3_addRoad_29 ?_
  replace h := lt_some h
  refine r_aload_n (i := 0) dX3_addRoad_30 rfl rfl ?_
  refine r_getR f_X3_24 dX3_addRoad_31 rfl rfl ?_
  refine r_iload dX3_addRoad_34 rfl ?_
  refine r_iload_n (i := 3) dX3_addRoad_36 rfl rfl ?_
  obtain ⟨hb, h⟩ := ck_some h
  refine r_iast rfl (inb_vp hb) dX3_addRoad_37 ?_
  replace h := lt_some h
  refine r_aload_n (i := 0) dX3_addRoad_38 rfl rfl ?_
  refine r_dup dX3_addRoad_39 rfl ?_
  refine r_getI f_X3_31 dX3_addRoad_40 rfl rfl ?_
  refine r_iconst (v := 1) dX3_addRoad_43 (by decide) ?_
  refine r_iadd dX3_addRoad_44 ?_
  refine r_putI f_X3_31 rfl rfl dX3_addRoad_45 rfl rfl ?_
  replace h := lt_some h
  refine r_iload dX3_addRoad_48 rfl ?_
  refine r_iret (by first | rfl | decide) dX3_addRoad_50 ?_
  obtain rfl := Option.some.inj h
  exact ⟨rfl, rfl, rfl⟩
def f_X8_readRoad_31_b114 (I : mI) (L : mL) (x1 : Int32) (x2 : Int32) (x3 : Int32) : rI := bndI (f_X3_addRoad_33 I L x1 x2 x3) (fun r10 Ir10 Lr10 => some (1, Ir10, Lr10))
theorem ok_X8_readRoad_31_b114 {d : Nat} (hd : 2 ≤ d){I : mI} {L : mL} (x1 : Int32) (x2 : Int32) (x3 : Int32) {o : Int32 × mI × mL} (h : f_X8_readRoad_31_b114 I L x1 x2 x3 = some o) : RR mX8_readRoad d 114 [some (.ref 31), some (.int x1), some (.int x2), some (.int x3)] [] I L (retQ (some (.int o.1)) o.2.1 o.2.2) := by
  unfold f_X8_readRoad_31_b114 at h
  refine r_aload_n (i := 0) dX8_readRoad_114 rfl rfl ?_
  refine r_getR f_X8_18 dX8_readRoad_115 rfl rfl ?_
  refine r_iload_n (i := 1) dX8_readRoad_118 rfl rfl ?_
  refine r_iload_n (i := 2) dX8_readRoad_119 rfl rfl ?_
  refine r_iload_n (i := 3) dX8_readRoad_120 rfl rfl ?_
  obtain ⟨⟨r10, Ir10, Lr10⟩, hr, h⟩ := bind_some h
  refine r_V (d' := 1) k_X8_78 dX8_readRoad_121 (by omega) rfl rfl rfl (Nat.le_of_ble_eq_true rfl) (Nat.le_of_ble_eq_true rfl) (ok_X3_addRoad_33 (Nat.le_refl _) hr) (fun v I' L' hq => ?_)
  obtain ⟨rfl, rfl, rfl⟩ := hq
  simp only [Option.toList_some, Option.toList_none, List.drop_succ_cons, List.drop_zero, List.drop_nil, List.cons_append, List.nil_append]
  dsimp only at h
  refine r_pop dX8_readRoad_124 rfl ?_
  refine r_iconst (v := 1) dX8_readRoad_125 (by decide) ?_
  refine r_iret (by first | rfl | decide) dX8_readRoad_126 ?_
  obtain rfl := Option.some.inj h
  exact ⟨rfl, rfl, rfl⟩
def f_X8_readRoad_31 (I : mI) (L : mL) : rI := bndI (f_X8_digit_31 I L 0 ((I 33 5) - 1)) (fun r1 Ir1 Lr1 => if 0 ≤ r1 then (lt (uI Ir1 31 3 ((Ir1 31 3) + 1)) (fun M3 => bndI (f_X8_digit_31 M3 Lr1 0 ((M3 33 5) - 1)) (fun r4 Ir4 Lr4 => if r4 < 0 then (some (0, Ir4, Lr4)) else (if r1 = r4 then (some (0, Ir4, Lr4)) else ((f_X3_joins_33 Ir4 Lr4 r1 r4).bind (fun r6 => if r6 = 0 then (lt (uI Ir4 31 3 ((Ir4 31 3) + 1)) (fun M7 => bndI (f_X8_takes_31 M7 Lr4 116) (fun r8 Ir8 Lr8 => if r8 = 0 then (f_X8_readRoad_31_b114 Ir8 Lr8 r1 r4 0) else (bndI (f_X8_digit_31 Ir8 Lr8 0 9) (fun r12 Ir12 Lr12 => if 0 ≤ r12 then (lt (uI Ir12 31 3 ((Ir12 31 3) + 1)) (fun M14 => f_X8_readRoad_31_b114 M14 Lr12 r1 r4 r12)) else (some (0, Ir12, Lr12))))))) else (some (0, Ir4, Lr4)))))))) else (some (0, Ir1, Lr1)))
theorem ok_X8_readRoad_31 {d : Nat} (hd : 2 ≤ d) {I : mI} {L : mL} {o : Int32 × mI × mL} (h : f_X8_readRoad_31 I L = some o) : RR mX8_readRoad d 0 [some (.ref 31), none, none, none] [] I L (retQ (some (.int o.1)) o.2.1 o.2.2) := by
  unfold f_X8_readRoad_31 at h
  refine r_aload_n (i := 0) dX8_readRoad_0 rfl rfl ?_
  refine r_iconst (v := 0) dX8_readRoad_1 (by decide) ?_
  refine r_aload_n (i := 0) dX8_readRoad_2 rfl rfl ?_
  refine r_getR f_X8_18 dX8_readRoad_3 rfl rfl ?_
  refine r_getI f_X8_71 dX8_readRoad_6 rfl rfl ?_
  refine r_iconst (v := 1) dX8_readRoad_9 (by decide) ?_
  refine r_isub dX8_readRoad_10 ?_
  obtain ⟨⟨r1, Ir1, Lr1⟩, hr, h⟩ := bind_some h
  refine r_V (d' := 1) k_X8_60 dX8_readRoad_11 (by omega) rfl rfl rfl (Nat.le_of_ble_eq_true rfl) (Nat.le_of_ble_eq_true rfl) (ok_X8_digit_31 (Nat.le_refl _) hr) (fun v I' L' hq => ?_)
  obtain ⟨rfl, rfl, rfl⟩ := hq
  simp only [Option.toList_some, Option.toList_none, List.drop_succ_cons, List.drop_zero, List.drop_nil, List.cons_append, List.nil_append]
  dsimp only at h
  refine r_istore_n (i := 1) dX8_readRoad_14 rfl (by decide) rfl ?_
  simp only [List.set_cons_zero, List.set_cons_succ]
  refine r_iload_n (i := 1) dX8_readRoad_15 rfl rfl ?_
  refine r_if_ge (tgt := 21) dX8_readRoad_16 (by decide) (fun c => ?_) (fun c => ?_)
  · rw [if_pos c] at h
    refine r_aload_n (i := 0) dX8_readRoad_21 rfl rfl ?_
    refine r_dup dX8_readRoad_22 rfl ?_
    refine r_getI f_X8_26 dX8_readRoad_23 rfl rfl ?_
    refine r_iconst (v := 1) dX8_readRoad_26 (by decide) ?_
    refine r_iadd dX8_readRoad_27 ?_
    refine r_putI f_X8_26 rfl rfl dX8_readRoad_28 rfl rfl ?_
    replace h := lt_some h
    refine r_aload_n (i := 0) dX8_readRoad_31 rfl rfl ?_
    refine r_iconst (v := 0) dX8_readRoad_32 (by decide) ?_
    refine r_aload_n (i := 0) dX8_readRoad_33 rfl rfl ?_
    refine r_getR f_X8_18 dX8_readRoad_34 rfl rfl ?_
    refine r_getI f_X8_71 dX8_readRoad_37 rfl rfl ?_
    refine r_iconst (v := 1) dX8_readRoad_40 (by decide) ?_
    refine r_isub dX8_readRoad_41 ?_
    obtain ⟨⟨r4, Ir4, Lr4⟩, hr, h⟩ := bind_some h
    refine r_V (d' := 1) k_X8_60 dX8_readRoad_42 (by omega) rfl rfl rfl (Nat.le_of_ble_eq_true rfl) (Nat.le_of_ble_eq_true rfl) (ok_X8_digit_31 (Nat.le_refl _) hr) (fun v I' L' hq => ?_)
    obtain ⟨rfl, rfl, rfl⟩ := hq
    simp only [Option.toList_some, Option.toList_none, List.drop_succ_cons, List.drop_zero, List.drop_nil, List.cons_append, List.nil_append]
    dsimp only at h
    refine r_istore_n (i := 2) dX8_readRoad_45 rfl (by decide) rfl ?_
    simp only [List.set_cons_zero, List.set_cons_succ]
    refine r_iload_n (i := 2) dX8_readRoad_46 rfl rfl ?_
    refine r_if_lt (tgt := 67) dX8_readRoad_47 (by decide) (fun c => ?_) (fun c => ?_)
    · rw [if_pos c] at h
      refine r_iconst (v := 0) dX8_readRoad_67 (by decide) ?_
      refine r_iret (by first | rfl | decide) dX8_readRoad_68 ?_
      obtain rfl := Option.some.inj h
      exact ⟨rfl, rfl, rfl⟩
    · rw [if_neg c] at h
      refine r_iload_n (i := 1) dX8_readRoad_50 rfl rfl ?_
      refine r_iload_n (i := 2) dX8_readRoad_51 rfl rfl ?_
      refine r_icmp_eq (tgt := 67) dX8_readRoad_52 (by decide) (fun c => ?_) (fun c => ?_)
      · rw [if_pos c] at h
        refine r_iconst (v := 0) dX8_readRoad_67 (by decide) ?_
        refine r_iret (by first | rfl | decide) dX8_readRoad_68 ?_
        obtain rfl := Option.some.inj h
        exact ⟨rfl, rfl, rfl⟩
      · rw [if_neg c] at h
        refine r_aload_n (i := 0) dX8_readRoad_55 rfl rfl ?_
        refine r_getR f_X8_18 dX8_readRoad_56 rfl rfl ?_
        refine r_iload_n (i := 1) dX8_readRoad_59 rfl rfl ?_
        refine r_iload_n (i := 2) dX8_readRoad_60 rfl rfl ?_
        obtain ⟨r6, hr, h⟩ := bind_some h
        refine r_V (d' := 1) k_X8_74 dX8_readRoad_61 (by omega) rfl rfl rfl (Nat.le_of_ble_eq_true rfl) (Nat.le_of_ble_eq_true rfl) (ok_X3_joins_33 (Nat.le_refl _) hr) (fun v I' L' hq => ?_)
        obtain ⟨rfl, rfl, rfl⟩ := hq
        simp only [Option.toList_some, Option.toList_none, List.drop_succ_cons, List.drop_zero, List.drop_nil, List.cons_append, List.nil_append]
        refine r_if_eq (tgt := 69) dX8_readRoad_64 (by decide) (fun c => ?_) (fun c => ?_)
        · rw [if_pos c] at h
          refine r_aload_n (i := 0) dX8_readRoad_69 rfl rfl ?_
          refine r_dup dX8_readRoad_70 rfl ?_
          refine r_getI f_X8_26 dX8_readRoad_71 rfl rfl ?_
          refine r_iconst (v := 1) dX8_readRoad_74 (by decide) ?_
          refine r_iadd dX8_readRoad_75 ?_
          refine r_putI f_X8_26 rfl rfl dX8_readRoad_76 rfl rfl ?_
          replace h := lt_some h
          refine r_iconst (v := 0) dX8_readRoad_79 (by decide) ?_
          refine r_istore_n (i := 3) dX8_readRoad_80 rfl (by decide) rfl ?_
          simp only [List.set_cons_zero, List.set_cons_succ]
          refine r_aload_n (i := 0) dX8_readRoad_81 rfl rfl ?_
          refine r_bipush (v := 116) dX8_readRoad_82 (by decide) ?_
          obtain ⟨⟨r8, Ir8, Lr8⟩, hr, h⟩ := bind_some h
          refine r_V (d' := 1) k_X8_36 dX8_readRoad_84 (by omega) rfl rfl rfl (Nat.le_of_ble_eq_true rfl) (Nat.le_of_ble_eq_true rfl) (ok_X8_takes_31 (Nat.le_refl _) hr) (fun v I' L' hq => ?_)
          obtain ⟨rfl, rfl, rfl⟩ := hq
          simp only [Option.toList_some, Option.toList_none, List.drop_succ_cons, List.drop_zero, List.drop_nil, List.cons_append, List.nil_append]
          dsimp only at h
          refine r_if_eq (tgt := 114) dX8_readRoad_87 (by decide) (fun c => ?_) (fun c => ?_)
          · rw [if_pos c] at h
            exact RR.wk (ok_X8_readRoad_31_b114 hd _ _ _ h) (And.intro rfl (And.intro rfl (And.intro rfl (And.intro rfl (trivial)))))
          · rw [if_neg c] at h
            refine r_aload_n (i := 0) dX8_readRoad_90 rfl rfl ?_
            refine r_iconst (v := 0) dX8_readRoad_91 (by decide) ?_
            refine r_bipush (v := 9) dX8_readRoad_92 (by decide) ?_
            obtain ⟨⟨r12, Ir12, Lr12⟩, hr, h⟩ := bind_some h
            refine r_V (d' := 1) k_X8_60 dX8_readRoad_94 (by omega) rfl rfl rfl (Nat.le_of_ble_eq_true rfl) (Nat.le_of_ble_eq_true rfl) (ok_X8_digit_31 (Nat.le_refl _) hr) (fun v I' L' hq => ?_)
            obtain ⟨rfl, rfl, rfl⟩ := hq
            simp only [Option.toList_some, Option.toList_none, List.drop_succ_cons, List.drop_zero, List.drop_nil, List.cons_append, List.nil_append]
            dsimp only at h
            refine r_istore_n (i := 3) dX8_readRoad_97 rfl (by decide) rfl ?_
            simp only [List.set_cons_zero, List.set_cons_succ]
            refine r_iload_n (i := 3) dX8_readRoad_98 rfl rfl ?_
            refine r_if_ge (tgt := 104) dX8_readRoad_99 (by decide) (fun c => ?_) (fun c => ?_)
            · rw [if_pos c] at h
              refine r_aload_n (i := 0) dX8_readRoad_104 rfl rfl ?_
              refine r_dup dX8_readRoad_105 rfl ?_
              refine r_getI f_X8_26 dX8_readRoad_106 rfl rfl ?_
              refine r_iconst (v := 1) dX8_readRoad_109 (by decide) ?_
              refine r_iadd dX8_readRoad_110 ?_
              refine r_putI f_X8_26 rfl rfl dX8_readRoad_111 rfl rfl ?_
              replace h := lt_some h
              exact RR.wk (ok_X8_readRoad_31_b114 hd _ _ _ h) (And.intro rfl (And.intro rfl (And.intro rfl (And.intro rfl (trivial)))))
            · rw [if_neg c] at h
              refine r_iconst (v := 0) dX8_readRoad_102 (by decide) ?_
              refine r_iret (by first | rfl | decide) dX8_readRoad_103 ?_
              obtain rfl := Option.some.inj h
              exact ⟨rfl, rfl, rfl⟩
        · rw [if_neg c] at h
          refine r_iconst (v := 0) dX8_readRoad_67 (by decide) ?_
          refine r_iret (by first | rfl | decide) dX8_readRoad_68 ?_
          obtain rfl := Option.some.inj h
          exact ⟨rfl, rfl, rfl⟩
  · rw [if_neg c] at h
    refine r_iconst (v := 0) dX8_readRoad_19 (by decide) ?_
    refine r_iret (by first | rfl | decide) dX8_readRoad_20 ?_
    obtain rfl := Option.some.inj h
    exact ⟨rfl, rfl, rfl⟩
def f_X8_readRoads_31_l2 : Nat → Int32 → mI → mL → rI
  | 0, _, _, _ => none
  | n + 1, x1, I, L => if 15 < x1 then (some (1, I, L)) else (bndI (f_X8_readRoad_31 I L) (fun r1 Ir1 Lr1 => if r1 = 0 then (some (0, Ir1, Lr1)) else (if x1 = 15 then (some (1, Ir1, Lr1)) else (bndI (f_X8_takes_31 Ir1 Lr1 44) (fun r3 Ir3 Lr3 => if r3 = 0 then (some (1, Ir3, Lr3)) else (lt (x1 + Int32.ofInt 1) (fun v5 => f_X8_readRoads_31_l2 n v5 Ir3 Lr3)))))))
theorem ok_X8_readRoads_31_l2 {d : Nat} (hd : 3 ≤ d) : ∀ (n : Nat) (x1 : Int32) (I : mI) (L : mL) (o : Int32 × mI × mL), f_X8_readRoads_31_l2 n x1 I L = some o → RR mX8_readRoads d 2 [some (.ref 31), some (.int x1)] [] I L (retQ (some (.int o.1)) o.2.1 o.2.2) := by
  intro n
  induction n with
  | zero => intro x1 I L o h; rw [f_X8_readRoads_31_l2] at h; cases h
  | succ n ih =>
    intro x1 I L o h
    rw [f_X8_readRoads_31_l2] at h
    refine r_iload_n (i := 1) dX8_readRoads_2 rfl rfl ?_
    refine r_bipush (v := 15) dX8_readRoads_3 (by decide) ?_
    refine r_icmp_gt (tgt := 40) dX8_readRoads_5 (by decide) (fun c => ?_) (fun c => ?_)
    · rw [if_pos c] at h
      refine r_iconst (v := 1) dX8_readRoads_40 (by decide) ?_
      refine r_iret (by first | rfl | decide) dX8_readRoads_41 ?_
      obtain rfl := Option.some.inj h
      exact ⟨rfl, rfl, rfl⟩
    · rw [if_neg c] at h
      refine r_aload_n (i := 0) dX8_readRoads_8 rfl rfl ?_
      obtain ⟨⟨r1, Ir1, Lr1⟩, hr, h⟩ := bind_some h
      refine r_V (d' := 2) k_X8_68 dX8_readRoads_9 (by omega) rfl rfl rfl (Nat.le_of_ble_eq_true rfl) (Nat.le_of_ble_eq_true rfl) (ok_X8_readRoad_31 (Nat.le_refl _) hr) (fun v I' L' hq => ?_)
      obtain ⟨rfl, rfl, rfl⟩ := hq
      simp only [Option.toList_some, Option.toList_none, List.drop_succ_cons, List.drop_zero, List.drop_nil, List.cons_append, List.nil_append]
      dsimp only at h
      refine r_if_ne (tgt := 17) dX8_readRoads_12 (by decide) (fun c => ?_) (fun c => ?_)
      · rw [if_neg c] at h
        refine r_iload_n (i := 1) dX8_readRoads_17 rfl rfl ?_
        refine r_bipush (v := 15) dX8_readRoads_18 (by decide) ?_
        refine r_icmp_eq (tgt := 32) dX8_readRoads_20 (by decide) (fun c => ?_) (fun c => ?_)
        · rw [if_pos c] at h
          refine r_iconst (v := 1) dX8_readRoads_32 (by decide) ?_
          refine r_iret (by first | rfl | decide) dX8_readRoads_33 ?_
          obtain rfl := Option.some.inj h
          exact ⟨rfl, rfl, rfl⟩
        · rw [if_neg c] at h
          refine r_aload_n (i := 0) dX8_readRoads_23 rfl rfl ?_
          refine r_bipush (v := 44) dX8_readRoads_24 (by decide) ?_
          obtain ⟨⟨r3, Ir3, Lr3⟩, hr, h⟩ := bind_some h
          refine r_V (d' := 1) k_X8_36 dX8_readRoads_26 (by omega) rfl rfl rfl (Nat.le_of_ble_eq_true rfl) (Nat.le_of_ble_eq_true rfl) (ok_X8_takes_31 (Nat.le_refl _) hr) (fun v I' L' hq => ?_)
          obtain ⟨rfl, rfl, rfl⟩ := hq
          simp only [Option.toList_some, Option.toList_none, List.drop_succ_cons, List.drop_zero, List.drop_nil, List.cons_append, List.nil_append]
          dsimp only at h
          refine r_if_ne (tgt := 34) dX8_readRoads_29 (by decide) (fun c => ?_) (fun c => ?_)
          · rw [if_neg c] at h
            refine r_iinc (v := _) dX8_readRoads_34 rfl rfl (by decide) rfl ?_
            simp only [List.set_cons_zero, List.set_cons_succ]
            replace h := lt_some h
            refine r_goto (tgt := 2) dX8_readRoads_37 (by decide) ?_
            exact RR.wk (ih _ _ _ _ h) (And.intro rfl (And.intro rfl (trivial)))
          · rw [if_pos c] at h
            refine r_iconst (v := 1) dX8_readRoads_32 (by decide) ?_
            refine r_iret (by first | rfl | decide) dX8_readRoads_33 ?_
            obtain rfl := Option.some.inj h
            exact ⟨rfl, rfl, rfl⟩
      · rw [if_pos c] at h
        refine r_iconst (v := 0) dX8_readRoads_15 (by decide) ?_
        refine r_iret (by first | rfl | decide) dX8_readRoads_16 ?_
        obtain rfl := Option.some.inj h
        exact ⟨rfl, rfl, rfl⟩
def f_X8_readRoads_31 (I : mI) (L : mL) : rI := f_X8_readRoads_31_l2 fuel 1 I L
theorem ok_X8_readRoads_31 {d : Nat} (hd : 3 ≤ d) {I : mI} {L : mL} {o : Int32 × mI × mL} (h : f_X8_readRoads_31 I L = some o) : RR mX8_readRoads d 0 [some (.ref 31), none] [] I L (retQ (some (.int o.1)) o.2.1 o.2.2) := by
  unfold f_X8_readRoads_31 at h
  refine r_iconst (v := 1) dX8_readRoads_0 (by decide) ?_
  refine r_istore_n (i := 1) dX8_readRoads_1 rfl (by decide) rfl ?_
  simp only [List.set_cons_zero, List.set_cons_succ]
  exact RR.wk (ok_X8_readRoads_31_l2 hd _ _ _ _ _ h) (And.intro rfl (And.intro rfl (trivial)))
def f_X8_read_31_b39 (I : mI) (L : mL) : rI := bndV (f_X8_skipBlanks_31 I L) (fun Ir8 Lr8 => if (Ir8 31 3) < (Ir8 31 2) then (some (0, Ir8, Lr8)) else (some (1, Ir8, Lr8)))
theorem ok_X8_read_31_b39 {d : Nat} (hd : 10 ≤ d){I : mI} {L : mL} {o : Int32 × mI × mL} (h : f_X8_read_31_b39 I L = some o) : RR mX8_read d 39 [some (.ref 31)] [] I L (retQ (some (.int o.1)) o.2.1 o.2.2) := by
  unfold f_X8_read_31_b39 at h
  refine r_aload_n (i := 0) dX8_read_39 rfl rfl ?_
  obtain ⟨⟨Ir8, Lr8⟩, hr, h⟩ := bind_some h
  refine r_V (d' := 0) k_X8_43 dX8_read_40 (by omega) rfl rfl rfl (Nat.le_of_ble_eq_true rfl) (Nat.le_of_ble_eq_true rfl) (ok_X8_skipBlanks_31 (Nat.le_refl _) hr) (fun v I' L' hq => ?_)
  obtain ⟨rfl, rfl, rfl⟩ := hq
  simp only [Option.toList_some, Option.toList_none, List.drop_succ_cons, List.drop_zero, List.drop_nil, List.cons_append, List.nil_append]
  dsimp only at h
  refine r_aload_n (i := 0) dX8_read_43 rfl rfl ?_
  refine r_getI f_X8_26 dX8_read_44 rfl rfl ?_
  refine r_aload_n (i := 0) dX8_read_47 rfl rfl ?_
  refine r_getI f_X8_22 dX8_read_48 rfl rfl ?_
  refine r_icmp_lt (tgt := 58) dX8_read_51 (by decide) (fun c => ?_) (fun c => ?_)
  · rw [if_pos c] at h
    refine r_iconst (v := 0) dX8_read_58 (by decide) ?_
    refine r_iret (by first | rfl | decide) dX8_read_59 ?_
    obtain rfl := Option.some.inj h
    exact ⟨rfl, rfl, rfl⟩
  · rw [if_neg c] at h
    refine r_iconst (v := 1) dX8_read_54 (by decide) ?_
    refine r_goto (tgt := 59) dX8_read_55 (by decide) ?_
    refine r_iret (by first | rfl | decide) dX8_read_59 ?_
    obtain rfl := Option.some.inj h
    exact ⟨rfl, rfl, rfl⟩
def f_X8_read_31 (I : mI) (L : mL) : rI := lt (uI I 31 3 0) (fun M1 => bndV (f_X3_clear_33 M1 L) (fun Ir2 Lr2 => bndI (f_X8_readParishes_31 Ir2 Lr2) (fun r4 Ir4 Lr4 => if r4 = 0 then (some (0, Ir4, Lr4)) else (bndI (f_X8_takes_31 Ir4 Lr4 59) (fun r6 Ir6 Lr6 => if r6 = 0 then (f_X8_read_31_b39 Ir6 Lr6) else (bndI (f_X8_readRoads_31 Ir6 Lr6) (fun r10 Ir10 Lr10 => if r10 = 0 then (some (0, Ir10, Lr10)) else (f_X8_read_31_b39 Ir10 Lr10))))))))
theorem ok_X8_read_31 {d : Nat} (hd : 10 ≤ d) {I : mI} {L : mL} {o : Int32 × mI × mL} (h : f_X8_read_31 I L = some o) : RR mX8_read d 0 [some (.ref 31)] [] I L (retQ (some (.int o.1)) o.2.1 o.2.2) := by
  unfold f_X8_read_31 at h
  refine r_aload_n (i := 0) dX8_read_0 rfl rfl ?_
  refine r_iconst (v := 0) dX8_read_1 (by decide) ?_
  refine r_putI f_X8_26 rfl rfl dX8_read_2 rfl rfl ?_
  replace h := lt_some h
  refine r_aload_n (i := 0) dX8_read_5 rfl rfl ?_
  refine r_getR f_X8_18 dX8_read_6 rfl rfl ?_
  obtain ⟨⟨Ir2, Lr2⟩, hr, h⟩ := bind_some h
  refine r_V (d' := 0) k_X8_29 dX8_read_9 (by omega) rfl rfl rfl (Nat.le_of_ble_eq_true rfl) (Nat.le_of_ble_eq_true rfl) (ok_X3_clear_33 (Nat.le_refl _) hr) (fun v I' L' hq => ?_)
  obtain ⟨rfl, rfl, rfl⟩ := hq
  simp only [Option.toList_some, Option.toList_none, List.drop_succ_cons, List.drop_zero, List.drop_nil, List.cons_append, List.nil_append]
  dsimp only at h
  refine r_aload_n (i := 0) dX8_read_12 rfl rfl ?_
  obtain ⟨⟨r4, Ir4, Lr4⟩, hr, h⟩ := bind_some h
  refine r_V (d' := 9) k_X8_32 dX8_read_13 (by omega) rfl rfl rfl (Nat.le_of_ble_eq_true rfl) (Nat.le_of_ble_eq_true rfl) (ok_X8_readParishes_31 (Nat.le_refl _) hr) (fun v I' L' hq => ?_)
  obtain ⟨rfl, rfl, rfl⟩ := hq
  simp only [Option.toList_some, Option.toList_none, List.drop_succ_cons, List.drop_zero, List.drop_nil, List.cons_append, List.nil_append]
  dsimp only at h
  refine r_if_ne (tgt := 21) dX8_read_16 (by decide) (fun c => ?_) (fun c => ?_)
  · rw [if_neg c] at h
    refine r_aload_n (i := 0) dX8_read_21 rfl rfl ?_
    refine r_bipush (v := 59) dX8_read_22 (by decide) ?_
    obtain ⟨⟨r6, Ir6, Lr6⟩, hr, h⟩ := bind_some h
    refine r_V (d' := 1) k_X8_36 dX8_read_24 (by omega) rfl rfl rfl (Nat.le_of_ble_eq_true rfl) (Nat.le_of_ble_eq_true rfl) (ok_X8_takes_31 (Nat.le_refl _) hr) (fun v I' L' hq => ?_)
    obtain ⟨rfl, rfl, rfl⟩ := hq
    simp only [Option.toList_some, Option.toList_none, List.drop_succ_cons, List.drop_zero, List.drop_nil, List.cons_append, List.nil_append]
    dsimp only at h
    refine r_if_eq (tgt := 39) dX8_read_27 (by decide) (fun c => ?_) (fun c => ?_)
    · rw [if_pos c] at h
      exact RR.wk (ok_X8_read_31_b39 hd h) (And.intro rfl (trivial))
    · rw [if_neg c] at h
      refine r_aload_n (i := 0) dX8_read_30 rfl rfl ?_
      obtain ⟨⟨r10, Ir10, Lr10⟩, hr, h⟩ := bind_some h
      refine r_V (d' := 3) k_X8_40 dX8_read_31 (by omega) rfl rfl rfl (Nat.le_of_ble_eq_true rfl) (Nat.le_of_ble_eq_true rfl) (ok_X8_readRoads_31 (Nat.le_refl _) hr) (fun v I' L' hq => ?_)
      obtain ⟨rfl, rfl, rfl⟩ := hq
      simp only [Option.toList_some, Option.toList_none, List.drop_succ_cons, List.drop_zero, List.drop_nil, List.cons_append, List.nil_append]
      dsimp only at h
      refine r_if_ne (tgt := 39) dX8_read_34 (by decide) (fun c => ?_) (fun c => ?_)
      · rw [if_neg c] at h
        exact RR.wk (ok_X8_read_31_b39 hd h) (And.intro rfl (trivial))
      · rw [if_pos c] at h
        refine r_iconst (v := 0) dX8_read_37 (by decide) ?_
        refine r_iret (by first | rfl | decide) dX8_read_38 ?_
        obtain rfl := Option.some.inj h
        exact ⟨rfl, rfl, rfl⟩
  · rw [if_pos c] at h
    refine r_iconst (v := 0) dX8_read_19 (by decide) ?_
    refine r_iret (by first | rfl | decide) dX8_read_20 ?_
    obtain rfl := Option.some.inj h
    exact ⟨rfl, rfl, rfl⟩
def f_X8_clear_31 (I : mI) (L : mL) : rV := lt (uI I 31 2 0) (fun M1 => some (M1, L))
theorem ok_X8_clear_31 {d : Nat} (hd : 0 ≤ d) {I : mI} {L : mL} {o : mI × mL} (h : f_X8_clear_31 I L = some o) : RR mX8_clear d 0 [some (.ref 31)] [] I L (retQ none o.1 o.2) := by
  unfold f_X8_clear_31 at h
  refine r_aload_n (i := 0) dX8_clear_0 rfl rfl ?_
  refine r_iconst (v := 0) dX8_clear_1 (by decide) ?_
  refine r_putI f_X8_22 rfl rfl dX8_clear_2 rfl rfl ?_
  replace h := lt_some h
  refine r_vret dX8_clear_5 ?_
  obtain rfl := Option.some.inj h
  exact ⟨rfl, rfl, rfl⟩
def f_X3_copyFrom_2_33 (I : mI) (L : mL) : rV := ck (cpk 0 0 8 8 8) (lt (pI I 3 (va_cpy (I 34) (I 3) (0 : Int32).toNatClampNeg (0 : Int32).toNatClampNeg (8 : Int32).toNatClampNeg)) (fun M1 => ck (cpk 0 0 32 32 32) (lt (pI M1 4 (va_cpy (M1 35) (M1 4) (0 : Int32).toNatClampNeg (0 : Int32).toNatClampNeg (32 : Int32).toNatClampNeg)) (fun M2 => ck (cpk 0 0 15 15 15) (lt (pI M2 5 (va_cpy (M2 36) (M2 5) (0 : Int32).toNatClampNeg (0 : Int32).toNatClampNeg (15 : Int32).toNatClampNeg)) (fun M3 => ck (cpk 0 0 15 15 15) (lt (pI M3 6 (va_cpy (M3 37) (M3 6) (0 : Int32).toNatClampNeg (0 : Int32).toNatClampNeg (15 : Int32).toNatClampNeg)) (fun M4 => ck (cpk 0 0 15 15 15) (lt (pI M4 7 (va_cpy (M4 38) (M4 7) (0 : Int32).toNatClampNeg (0 : Int32).toNatClampNeg (15 : Int32).toNatClampNeg)) (fun M5 => lt (uI M5 2 5 (M5 33 5)) (fun M6 => lt (uI M6 2 6 (M6 33 6)) (fun M7 => some (M7, L)))))))))))))
theorem ok_X3_copyFrom_2_33 {d : Nat} (hd : 1 ≤ d) {I : mI} {L : mL} {o : mI × mL} (h : f_X3_copyFrom_2_33 I L = some o) : RR mX3_copyFrom d 0 [some (.ref 2), some (.ref 33)] [] I L (retQ none o.1 o.2) := by
  unfold f_X3_copyFrom_2_33 at h
  refine r_aload_n (i := 1) dX3_copyFrom_0 rfl rfl ?_
  refine r_getR f_X3_9 dX3_copyFrom_1 rfl rfl ?_
  refine r_iconst (v := 0) dX3_copyFrom_4 (by decide) ?_
  refine r_aload_n (i := 0) dX3_copyFrom_5 rfl rfl ?_
  refine r_getR f_X3_9 dX3_copyFrom_6 rfl rfl ?_
  refine r_iconst (v := 0) dX3_copyFrom_9 (by decide) ?_
  refine r_bipush (v := 8) dX3_copyFrom_10 (by decide) ?_
  obtain ⟨hb, h⟩ := ck_some h
  obtain ⟨hc1, hc2, hc3, hc4, hc5⟩ := cpk_spec hb
  refine r_copyI k_X3_46 rfl rfl hc1 hc2 hc3 hc4 hc5 dX3_copyFrom_12 (by omega) (Nat.le_of_ble_eq_true rfl) ?_
  replace h := lt_some h
  refine r_aload_n (i := 1) dX3_copyFrom_15 rfl rfl ?_
  refine r_getR f_X3_15 dX3_copyFrom_16 rfl rfl ?_
  refine r_iconst (v := 0) dX3_copyFrom_19 (by decide) ?_
  refine r_aload_n (i := 0) dX3_copyFrom_20 rfl rfl ?_
  refine r_getR f_X3_15 dX3_copyFrom_21 rfl rfl ?_
  refine r_iconst (v := 0) dX3_copyFrom_24 (by decide) ?_
  refine r_bipush (v := 32) dX3_copyFrom_25 (by decide) ?_
  obtain ⟨hb, h⟩ := ck_some h
  obtain ⟨hc1, hc2, hc3, hc4, hc5⟩ := cpk_spec hb
  refine r_copyI k_X3_46 rfl rfl hc1 hc2 hc3 hc4 hc5 dX3_copyFrom_27 (by omega) (Nat.le_of_ble_eq_true rfl) ?_
  replace h := lt_some h
  refine r_aload_n (i := 1) dX3_copyFrom_30 rfl rfl ?_
  refine r_getR f_X3_18 dX3_copyFrom_31 rfl rfl ?_
  refine r_iconst (v := 0) dX3_copyFrom_34 (by decide) ?_
  refine r_aload_n (i := 0) dX3_copyFrom_35 rfl rfl ?_
  refine r_getR f_X3_18 dX3_copyFrom_36 rfl rfl ?_
  refine r_iconst (v := 0) dX3_copyFrom_39 (by decide) ?_
  refine r_bipush (v := 15) dX3_copyFrom_40 (by decide) ?_
  obtain ⟨hb, h⟩ := ck_some h
  obtain ⟨hc1, hc2, hc3, hc4, hc5⟩ := cpk_spec hb
  refine r_copyI k_X3_46 rfl rfl hc1 hc2 hc3 hc4 hc5 dX3_copyFrom_42 (by omega) (Nat.le_of_ble_eq_true rfl) ?_
  replace h := lt_some h
  refine r_aload_n (i := 1) dX3_copyFrom_45 rfl rfl ?_
  refine r_getR f_X3_21 dX3_copyFrom_46 rfl rfl ?_
  refine r_iconst (v := 0) dX3_copyFrom_49 (by decide) ?_
  refine r_aload_n (i := 0) dX3_copyFrom_50 rfl rfl ?_
  refine r_getR f_X3_21 dX3_copyFrom_51 rfl rfl ?_
  refine r_iconst (v := 0) dX3_copyFrom_54 (by decide) ?_
  refine r_bipush (v := 15) dX3_copyFrom_55 (by decide) ?_
  obtain ⟨hb, h⟩ := ck_some h
  obtain ⟨hc1, hc2, hc3, hc4, hc5⟩ := cpk_spec hb
  refine r_copyI k_X3_46 rfl rfl hc1 hc2 hc3 hc4 hc5 dX3_copyFrom_57 (by omega) (Nat.le_of_ble_eq_true rfl) ?_
  replace h := lt_some h
  refine r_aload_n (i := 1) dX3_copyFrom_60 rfl rfl ?_
  refine r_getR f_X3_24 dX3_copyFrom_61 rfl rfl ?_
  refine r_iconst (v := 0) dX3_copyFrom_64 (by decide) ?_
  refine r_aload_n (i := 0) dX3_copyFrom_65 rfl rfl ?_
  refine r_getR f_X3_24 dX3_copyFrom_66 rfl rfl ?_
  refine r_iconst (v := 0) dX3_copyFrom_69 (by decide) ?_
  refine r_bipush (v := 15) dX3_copyFrom_70 (by decide) ?_
  obtain ⟨hb, h⟩ := ck_some h
  obtain ⟨hc1, hc2, hc3, hc4, hc5⟩ := cpk_spec hb
  refine r_copyI k_X3_46 rfl rfl hc1 hc2 hc3 hc4 hc5 dX3_copyFrom_72 (by omega) (Nat.le_of_ble_eq_true rfl) ?_
  replace h := lt_some h
  refine r_aload_n (i := 0) dX3_copyFrom_75 rfl rfl ?_
  refine r_aload_n (i := 1) dX3_copyFrom_76 rfl rfl ?_
  refine r_getI f_X3_27 dX3_copyFrom_77 rfl rfl ?_
  refine r_putI f_X3_27 rfl rfl dX3_copyFrom_80 rfl rfl ?_
  replace h := lt_some h
  refine r_aload_n (i := 0) dX3_copyFrom_83 rfl rfl ?_
  refine r_aload_n (i := 1) dX3_copyFrom_84 rfl rfl ?_
  refine r_getI f_X3_31 dX3_copyFrom_85 rfl rfl ?_
  refine r_putI f_X3_31 rfl rfl dX3_copyFrom_88 rfl rfl ?_
  replace h := lt_some h
  refine r_vret dX3_copyFrom_91 ?_
  obtain rfl := Option.some.inj h
  exact ⟨rfl, rfl, rfl⟩
def f_X7_settle_1_33 (I : mI) (L : mL) : rV := bndV (f_X3_copyFrom_2_33 I L) (fun Ir1 Lr1 => lt (uI Ir1 1 10 0) (fun M3 => lt (uI M3 1 11 0) (fun M4 => some (M4, Lr1))))
theorem ok_X7_settle_1_33 {d : Nat} (hd : 2 ≤ d) {I : mI} {L : mL} {o : mI × mL} (h : f_X7_settle_1_33 I L = some o) : RR mX7_settle d 0 [some (.ref 1), some (.ref 33)] [] I L (retQ none o.1 o.2) := by
  unfold f_X7_settle_1_33 at h
  refine r_aload_n (i := 0) dX7_settle_0 rfl rfl ?_
  refine r_getR f_X7_12 dX7_settle_1 rfl rfl ?_
  refine r_aload_n (i := 1) dX7_settle_4 rfl rfl ?_
  obtain ⟨⟨Ir1, Lr1⟩, hr, h⟩ := bind_some h
  refine r_V (d' := 1) k_X7_90 dX7_settle_5 (by omega) rfl rfl rfl (Nat.le_of_ble_eq_true rfl) (Nat.le_of_ble_eq_true rfl) (ok_X3_copyFrom_2_33 (Nat.le_refl _) hr) (fun v I' L' hq => ?_)
  obtain ⟨rfl, rfl, rfl⟩ := hq
  simp only [Option.toList_some, Option.toList_none, List.drop_succ_cons, List.drop_zero, List.drop_nil, List.cons_append, List.nil_append]
  dsimp only at h
  refine r_aload_n (i := 0) dX7_settle_8 rfl rfl ?_
  refine r_iconst (v := 0) dX7_settle_9 (by decide) ?_
  refine r_putI f_X7_72 rfl rfl dX7_settle_10 rfl rfl ?_
  replace h := lt_some h
  refine r_aload_n (i := 0) dX7_settle_13 rfl rfl ?_
  refine r_iconst (v := 0) dX7_settle_14 (by decide) ?_
  refine r_putI f_X7_75 rfl rfl dX7_settle_15 rfl rfl ?_
  replace h := lt_some h
  refine r_vret dX7_settle_18 ?_
  obtain rfl := Option.some.inj h
  exact ⟨rfl, rfl, rfl⟩
def f_X10_land_0 (I : mI) (L : mL) : rI := bndI (f_X8_read_31 I L) (fun r1 Ir1 Lr1 => lt ((-20) - (Ir1 31 3)) (fun v3 => bndV (f_X8_clear_31 Ir1 Lr1) (fun Ir4 Lr4 => if r1 = 0 then (some (v3, Ir4, Lr4)) else (bndV (f_X7_settle_1_33 Ir4 Lr4) (fun Ir6 Lr6 => some (Ir6 2 5, Ir6, Lr6))))))
theorem ok_X10_land_0 {d : Nat} (hd : 11 ≤ d) {I : mI} {L : mL} {o : Int32 × mI × mL} (h : f_X10_land_0 I L = some o) : RR mX10_land d 0 [some (.ref 0), none, none] [] I L (retQ (some (.int o.1)) o.2.1 o.2.2) := by
  unfold f_X10_land_0 at h
  refine r_aload_n (i := 0) dX10_land_0 rfl rfl ?_
  refine r_getR f_X10_22 dX10_land_1 rfl rfl ?_
  obtain ⟨⟨r1, Ir1, Lr1⟩, hr, h⟩ := bind_some h
  refine r_V (d' := 10) k_X10_181 dX10_land_4 (by omega) rfl rfl rfl (Nat.le_of_ble_eq_true rfl) (Nat.le_of_ble_eq_true rfl) (ok_X8_read_31 (Nat.le_refl _) hr) (fun v I' L' hq => ?_)
  obtain ⟨rfl, rfl, rfl⟩ := hq
  simp only [Option.toList_some, Option.toList_none, List.drop_succ_cons, List.drop_zero, List.drop_nil, List.cons_append, List.nil_append]
  dsimp only at h
  refine r_istore_n (i := 1) dX10_land_7 rfl (by decide) rfl ?_
  simp only [List.set_cons_zero, List.set_cons_succ]
  refine r_bipush (v := (-20)) dX10_land_8 (by decide) ?_
  refine r_aload_n (i := 0) dX10_land_10 rfl rfl ?_
  refine r_getR f_X10_22 dX10_land_11 rfl rfl ?_
  refine r_getI f_X10_184 dX10_land_14 rfl rfl ?_
  refine r_isub dX10_land_17 ?_
  refine r_istore_n (i := 2) dX10_land_18 rfl (by decide) rfl ?_
  simp only [List.set_cons_zero, List.set_cons_succ]
  replace h := lt_some h
  refine r_aload_n (i := 0) dX10_land_19 rfl rfl ?_
  refine r_getR f_X10_22 dX10_land_20 rfl rfl ?_
  obtain ⟨⟨Ir4, Lr4⟩, hr, h⟩ := bind_some h
  refine r_V (d' := 0) k_X10_187 dX10_land_23 (by omega) rfl rfl rfl (Nat.le_of_ble_eq_true rfl) (Nat.le_of_ble_eq_true rfl) (ok_X8_clear_31 (Nat.le_refl _) hr) (fun v I' L' hq => ?_)
  obtain ⟨rfl, rfl, rfl⟩ := hq
  simp only [Option.toList_some, Option.toList_none, List.drop_succ_cons, List.drop_zero, List.drop_nil, List.cons_append, List.nil_append]
  dsimp only at h
  refine r_iload_n (i := 1) dX10_land_26 rfl rfl ?_
  refine r_if_ne (tgt := 32) dX10_land_27 (by decide) (fun c => ?_) (fun c => ?_)
  · rw [if_neg c] at h
    refine r_aload_n (i := 0) dX10_land_32 rfl rfl ?_
    refine r_getR f_X10_10 dX10_land_33 rfl rfl ?_
    refine r_aload_n (i := 0) dX10_land_36 rfl rfl ?_
    refine r_getR f_X10_22 dX10_land_37 rfl rfl ?_
    refine r_getR f_X10_190 dX10_land_40 rfl rfl ?_
    obtain ⟨⟨Ir6, Lr6⟩, hr, h⟩ := bind_some h
    refine r_V (d' := 2) k_X10_193 dX10_land_43 (by omega) rfl rfl rfl (Nat.le_of_ble_eq_true rfl) (Nat.le_of_ble_eq_true rfl) (ok_X7_settle_1_33 (Nat.le_refl _) hr) (fun v I' L' hq => ?_)
    obtain ⟨rfl, rfl, rfl⟩ := hq
    simp only [Option.toList_some, Option.toList_none, List.drop_succ_cons, List.drop_zero, List.drop_nil, List.cons_append, List.nil_append]
    dsimp only at h
    refine r_aload_n (i := 0) dX10_land_46 rfl rfl ?_
    refine r_getR f_X10_10 dX10_land_47 rfl rfl ?_
    refine r_getR f_X10_76 dX10_land_50 rfl rfl ?_
    refine r_getI f_X10_80 dX10_land_53 rfl rfl ?_
    refine r_iret (by first | rfl | decide) dX10_land_56 ?_
    obtain rfl := Option.some.inj h
    exact ⟨rfl, rfl, rfl⟩
  · rw [if_pos c] at h
    refine r_iload_n (i := 2) dX10_land_30 rfl rfl ?_
    refine r_iret (by first | rfl | decide) dX10_land_31 ?_
    obtain rfl := Option.some.inj h
    exact ⟨rfl, rfl, rfl⟩
