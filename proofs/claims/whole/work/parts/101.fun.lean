def f_X10_toldOfCart_0 (I : mI) (L : mL) (a1 : Int32) (a2 : Int32) : Option Int32 := (f_X7_hasCart_1 I L a1).bind (fun r1 => if r1 = 0 then (some (-1)) else (if a2 = 3 then (ck (inb a1 4) (some (I 8 a1.toNatClampNeg))) else (ck (inb a1 4) (some (I 9 a1.toNatClampNeg)))))
theorem ok_X10_toldOfCart_0 {d : Nat} (hd : 1 ≤ d) {I : mI} {L : mL} {a1 : Int32} {a2 : Int32} {o : Int32} (h : f_X10_toldOfCart_0 I L a1 a2 = some o) : RR mX10_toldOfCart d 0 [some (.ref 0), some (.int a1), some (.int a2)] [] I L (retQ (some (.int o)) I L) := by
  unfold f_X10_toldOfCart_0 at h
  refine r_aload_n (i := 0) dX10_toldOfCart_0 rfl rfl ?_
  refine r_getR f_X10_10 dX10_toldOfCart_1 rfl rfl ?_
  refine r_iload_n (i := 1) dX10_toldOfCart_4 rfl rfl ?_
  obtain ⟨r1, hr, h⟩ := bind_some h
  refine r_V (d' := 0) k_X10_210 dX10_toldOfCart_5 (by omega) rfl rfl rfl (Nat.le_of_ble_eq_true rfl) (Nat.le_of_ble_eq_true rfl) (ok_X7_hasCart_1 (Nat.le_refl _) hr) (fun v I' L' hq => ?_)
  obtain ⟨rfl, rfl, rfl⟩ := hq
  simp only [Option.toList_some, Option.toList_none, List.drop_succ_cons, List.drop_zero, List.drop_nil, List.cons_append, List.nil_append]
  refine r_if_ne (tgt := 13) dX10_toldOfCart_8 (by decide) (fun c => ?_) (fun c => ?_)
  · rw [if_neg c] at h
    refine r_iload_n (i := 2) dX10_toldOfCart_13 rfl rfl ?_
    refine r_iconst (v := 3) dX10_toldOfCart_14 (by decide) ?_
    refine r_icmp_ne (tgt := 30) dX10_toldOfCart_15 (by decide) (fun c => ?_) (fun c => ?_)
    · rw [if_neg c] at h
      refine r_aload_n (i := 0) dX10_toldOfCart_30 rfl rfl ?_
      refine r_getR f_X10_10 dX10_toldOfCart_31 rfl rfl ?_
      refine r_getR f_X10_389 dX10_toldOfCart_34 rfl rfl ?_
      refine r_iload_n (i := 1) dX10_toldOfCart_37 rfl rfl ?_
      obtain ⟨hb, h⟩ := ck_some h
      refine r_iald rfl (inb_vp hb) dX10_toldOfCart_38 ?_
      refine r_iret (by first | rfl | decide) dX10_toldOfCart_39 ?_
      obtain rfl := Option.some.inj h
      exact ⟨rfl, rfl, rfl⟩
    · rw [if_pos c] at h
      refine r_aload_n (i := 0) dX10_toldOfCart_18 rfl rfl ?_
      refine r_getR f_X10_10 dX10_toldOfCart_19 rfl rfl ?_
      refine r_getR f_X10_386 dX10_toldOfCart_22 rfl rfl ?_
      refine r_iload_n (i := 1) dX10_toldOfCart_25 rfl rfl ?_
      obtain ⟨hb, h⟩ := ck_some h
      refine r_iald rfl (inb_vp hb) dX10_toldOfCart_26 ?_
      refine r_goto (tgt := 39) dX10_toldOfCart_27 (by decide) ?_
      refine r_iret (by first | rfl | decide) dX10_toldOfCart_39 ?_
      obtain rfl := Option.some.inj h
      exact ⟨rfl, rfl, rfl⟩
  · rw [if_pos c] at h
    refine r_iconst (v := (-1)) dX10_toldOfCart_11 (by decide) ?_
    refine r_iret (by first | rfl | decide) dX10_toldOfCart_12 ?_
    obtain rfl := Option.some.inj h
    exact ⟨rfl, rfl, rfl⟩
def f_X10_toldOfRoad_0 (I : mI) (L : mL) (a1 : Int32) (a2 : Int32) : Option Int32 := (f_X3_hasRoad_2 I L a1).bind (fun r1 => if r1 = 0 then (some (-1)) else (if a2 = 0 then (ck (inb a1 15) (some (I 5 a1.toNatClampNeg))) else (if a2 = 1 then (ck (inb a1 15) (some (I 6 a1.toNatClampNeg))) else (ck (inb a1 15) (some (I 7 a1.toNatClampNeg))))))
theorem ok_X10_toldOfRoad_0 {d : Nat} (hd : 1 ≤ d) {I : mI} {L : mL} {a1 : Int32} {a2 : Int32} {o : Int32} (h : f_X10_toldOfRoad_0 I L a1 a2 = some o) : RR mX10_toldOfRoad d 0 [some (.ref 0), some (.int a1), some (.int a2)] [] I L (retQ (some (.int o)) I L) := by
  unfold f_X10_toldOfRoad_0 at h
  refine r_aload_n (i := 0) dX10_toldOfRoad_0 rfl rfl ?_
  refine r_getR f_X10_10 dX10_toldOfRoad_1 rfl rfl ?_
  refine r_getR f_X10_76 dX10_toldOfRoad_4 rfl rfl ?_
  refine r_iload_n (i := 1) dX10_toldOfRoad_7 rfl rfl ?_
  obtain ⟨r1, hr, h⟩ := bind_some h
  refine r_V (d' := 0) k_X10_109 dX10_toldOfRoad_8 (by omega) rfl rfl rfl (Nat.le_of_ble_eq_true rfl) (Nat.le_of_ble_eq_true rfl) (ok_X3_hasRoad_2 (Nat.le_refl _) hr) (fun v I' L' hq => ?_)
  obtain ⟨rfl, rfl, rfl⟩ := hq
  simp only [Option.toList_some, Option.toList_none, List.drop_succ_cons, List.drop_zero, List.drop_nil, List.cons_append, List.nil_append]
  refine r_if_ne (tgt := 16) dX10_toldOfRoad_11 (by decide) (fun c => ?_) (fun c => ?_)
  · rw [if_neg c] at h
    refine r_iload_n (i := 2) dX10_toldOfRoad_16 rfl rfl ?_
    refine r_if_ne (tgt := 33) dX10_toldOfRoad_17 (by decide) (fun c => ?_) (fun c => ?_)
    · rw [if_neg c] at h
      refine r_iload_n (i := 2) dX10_toldOfRoad_33 rfl rfl ?_
      refine r_iconst (v := 1) dX10_toldOfRoad_34 (by decide) ?_
      refine r_icmp_ne (tgt := 53) dX10_toldOfRoad_35 (by decide) (fun c => ?_) (fun c => ?_)
      · rw [if_neg c] at h
        refine r_aload_n (i := 0) dX10_toldOfRoad_53 rfl rfl ?_
        refine r_getR f_X10_10 dX10_toldOfRoad_54 rfl rfl ?_
        refine r_getR f_X10_76 dX10_toldOfRoad_57 rfl rfl ?_
        refine r_getR f_X10_112 dX10_toldOfRoad_60 rfl rfl ?_
        refine r_iload_n (i := 1) dX10_toldOfRoad_63 rfl rfl ?_
        obtain ⟨hb, h⟩ := ck_some h
        refine r_iald rfl (inb_vp hb) dX10_toldOfRoad_64 ?_
        refine r_iret (by first | rfl | decide) dX10_toldOfRoad_65 ?_
        obtain rfl := Option.some.inj h
        exact ⟨rfl, rfl, rfl⟩
      · rw [if_pos c] at h
        refine r_aload_n (i := 0) dX10_toldOfRoad_38 rfl rfl ?_
        refine r_getR f_X10_10 dX10_toldOfRoad_39 rfl rfl ?_
        refine r_getR f_X10_76 dX10_toldOfRoad_42 rfl rfl ?_
        refine r_getR f_X10_383 dX10_toldOfRoad_45 rfl rfl ?_
        refine r_iload_n (i := 1) dX10_toldOfRoad_48 rfl rfl ?_
        obtain ⟨hb, h⟩ := ck_some h
        refine r_iald rfl (inb_vp hb) dX10_toldOfRoad_49 ?_
        refine r_goto (tgt := 65) dX10_toldOfRoad_50 (by decide) ?_
        refine r_iret (by first | rfl | decide) dX10_toldOfRoad_65 ?_
        obtain rfl := Option.some.inj h
        exact ⟨rfl, rfl, rfl⟩
    · rw [if_pos c] at h
      refine r_aload_n (i := 0) dX10_toldOfRoad_20 rfl rfl ?_
      refine r_getR f_X10_10 dX10_toldOfRoad_21 rfl rfl ?_
      refine r_getR f_X10_76 dX10_toldOfRoad_24 rfl rfl ?_
      refine r_getR f_X10_380 dX10_toldOfRoad_27 rfl rfl ?_
      refine r_iload_n (i := 1) dX10_toldOfRoad_30 rfl rfl ?_
      obtain ⟨hb, h⟩ := ck_some h
      refine r_iald rfl (inb_vp hb) dX10_toldOfRoad_31 ?_
      refine r_iret (by first | rfl | decide) dX10_toldOfRoad_32 ?_
      obtain rfl := Option.some.inj h
      exact ⟨rfl, rfl, rfl⟩
  · rw [if_pos c] at h
    refine r_iconst (v := (-1)) dX10_toldOfRoad_14 (by decide) ?_
    refine r_iret (by first | rfl | decide) dX10_toldOfRoad_15 ?_
    obtain rfl := Option.some.inj h
    exact ⟨rfl, rfl, rfl⟩
def f_X10_told_0 (I : mI) (L : mL) (a1 : Int32) (a2 : Int32) : Option Int32 := (f_X10_within I L a2 0 2).bind (fun r1 => if r1 = 0 then ((f_X10_within I L a2 3 4).bind (fun r2 => if r2 = 0 then ((f_X10_within I L a2 5 8).bind (fun r3 => if r3 = 0 then ((f_X10_within I L a2 9 10).bind (fun r4 => if r4 = 0 then (some (-1)) else ((f_X10_toldOfPerson_0 I L a1 a2).bind (fun r5 => some r5)))) else ((f_X10_toldOfGood_0 I L a1 a2).bind (fun r6 => some r6)))) else ((f_X10_toldOfCart_0 I L a1 a2).bind (fun r7 => some r7)))) else ((f_X10_toldOfRoad_0 I L a1 a2).bind (fun r8 => some r8)))
theorem ok_X10_told_0 {d : Nat} (hd : 2 ≤ d) {I : mI} {L : mL} {a1 : Int32} {a2 : Int32} {o : Int32} (h : f_X10_told_0 I L a1 a2 = some o) : RR mX10_told d 0 [some (.ref 0), some (.int a1), some (.int a2)] [] I L (retQ (some (.int o)) I L) := by
  unfold f_X10_told_0 at h
  refine r_iload_n (i := 2) dX10_told_0 rfl rfl ?_
  refine r_iconst (v := 0) dX10_told_1 (by decide) ?_
  refine r_iconst (v := 2) dX10_told_2 (by decide) ?_
  obtain ⟨r1, hr, h⟩ := bind_some h
  refine r_S (d' := 0) k_X10_72 dX10_told_3 (by omega) rfl (Nat.le_of_ble_eq_true rfl) (Nat.le_of_ble_eq_true rfl) (ok_X10_within (Nat.le_refl _) hr) (fun v I' L' hq => ?_)
  obtain ⟨rfl, rfl, rfl⟩ := hq
  simp only [Option.toList_some, Option.toList_none, List.drop_succ_cons, List.drop_zero, List.drop_nil, List.cons_append, List.nil_append]
  refine r_if_eq (tgt := 16) dX10_told_6 (by decide) (fun c => ?_) (fun c => ?_)
  · rw [if_pos c] at h
    refine r_iload_n (i := 2) dX10_told_16 rfl rfl ?_
    refine r_iconst (v := 3) dX10_told_17 (by decide) ?_
    refine r_iconst (v := 4) dX10_told_18 (by decide) ?_
    obtain ⟨r2, hr, h⟩ := bind_some h
    refine r_S (d' := 0) k_X10_72 dX10_told_19 (by omega) rfl (Nat.le_of_ble_eq_true rfl) (Nat.le_of_ble_eq_true rfl) (ok_X10_within (Nat.le_refl _) hr) (fun v I' L' hq => ?_)
    obtain ⟨rfl, rfl, rfl⟩ := hq
    simp only [Option.toList_some, Option.toList_none, List.drop_succ_cons, List.drop_zero, List.drop_nil, List.cons_append, List.nil_append]
    refine r_if_eq (tgt := 32) dX10_told_22 (by decide) (fun c => ?_) (fun c => ?_)
    · rw [if_pos c] at h
      refine r_iload_n (i := 2) dX10_told_32 rfl rfl ?_
      refine r_iconst (v := 5) dX10_told_33 (by decide) ?_
      refine r_bipush (v := 8) dX10_told_34 (by decide) ?_
      obtain ⟨r3, hr, h⟩ := bind_some h
      refine r_S (d' := 0) k_X10_72 dX10_told_36 (by omega) rfl (Nat.le_of_ble_eq_true rfl) (Nat.le_of_ble_eq_true rfl) (ok_X10_within (Nat.le_refl _) hr) (fun v I' L' hq => ?_)
      obtain ⟨rfl, rfl, rfl⟩ := hq
      simp only [Option.toList_some, Option.toList_none, List.drop_succ_cons, List.drop_zero, List.drop_nil, List.cons_append, List.nil_append]
      refine r_if_eq (tgt := 49) dX10_told_39 (by decide) (fun c => ?_) (fun c => ?_)
      · rw [if_pos c] at h
        refine r_iload_n (i := 2) dX10_told_49 rfl rfl ?_
        refine r_bipush (v := 9) dX10_told_50 (by decide) ?_
        refine r_bipush (v := 10) dX10_told_52 (by decide) ?_
        obtain ⟨r4, hr, h⟩ := bind_some h
        refine r_S (d' := 0) k_X10_72 dX10_told_54 (by omega) rfl (Nat.le_of_ble_eq_true rfl) (Nat.le_of_ble_eq_true rfl) (ok_X10_within (Nat.le_refl _) hr) (fun v I' L' hq => ?_)
        obtain ⟨rfl, rfl, rfl⟩ := hq
        simp only [Option.toList_some, Option.toList_none, List.drop_succ_cons, List.drop_zero, List.drop_nil, List.cons_append, List.nil_append]
        refine r_if_eq (tgt := 69) dX10_told_57 (by decide) (fun c => ?_) (fun c => ?_)
        · rw [if_pos c] at h
          refine r_iconst (v := (-1)) dX10_told_69 (by decide) ?_
          refine r_iret (by first | rfl | decide) dX10_told_70 ?_
          obtain rfl := Option.some.inj h
          exact ⟨rfl, rfl, rfl⟩
        · rw [if_neg c] at h
          refine r_aload_n (i := 0) dX10_told_60 rfl rfl ?_
          refine r_iload_n (i := 1) dX10_told_61 rfl rfl ?_
          refine r_iload_n (i := 2) dX10_told_62 rfl rfl ?_
          obtain ⟨r5, hr, h⟩ := bind_some h
          refine r_V (d' := 0) k_X10_168 dX10_told_63 (by omega) rfl rfl rfl (Nat.le_of_ble_eq_true rfl) (Nat.le_of_ble_eq_true rfl) (ok_X10_toldOfPerson_0 (Nat.le_refl _) hr) (fun v I' L' hq => ?_)
          obtain ⟨rfl, rfl, rfl⟩ := hq
          simp only [Option.toList_some, Option.toList_none, List.drop_succ_cons, List.drop_zero, List.drop_nil, List.cons_append, List.nil_append]
          refine r_goto (tgt := 70) dX10_told_66 (by decide) ?_
          refine r_iret (by first | rfl | decide) dX10_told_70 ?_
          obtain rfl := Option.some.inj h
          exact ⟨rfl, rfl, rfl⟩
      · rw [if_neg c] at h
        refine r_aload_n (i := 0) dX10_told_42 rfl rfl ?_
        refine r_iload_n (i := 1) dX10_told_43 rfl rfl ?_
        refine r_iload_n (i := 2) dX10_told_44 rfl rfl ?_
        obtain ⟨r6, hr, h⟩ := bind_some h
        refine r_V (d' := 1) k_X10_165 dX10_told_45 (by omega) rfl rfl rfl (Nat.le_of_ble_eq_true rfl) (Nat.le_of_ble_eq_true rfl) (ok_X10_toldOfGood_0 (Nat.le_refl _) hr) (fun v I' L' hq => ?_)
        obtain ⟨rfl, rfl, rfl⟩ := hq
        simp only [Option.toList_some, Option.toList_none, List.drop_succ_cons, List.drop_zero, List.drop_nil, List.cons_append, List.nil_append]
        refine r_iret (by first | rfl | decide) dX10_told_48 ?_
        obtain rfl := Option.some.inj h
        exact ⟨rfl, rfl, rfl⟩
    · rw [if_neg c] at h
      refine r_aload_n (i := 0) dX10_told_25 rfl rfl ?_
      refine r_iload_n (i := 1) dX10_told_26 rfl rfl ?_
      refine r_iload_n (i := 2) dX10_told_27 rfl rfl ?_
      obtain ⟨r7, hr, h⟩ := bind_some h
      refine r_V (d' := 1) k_X10_162 dX10_told_28 (by omega) rfl rfl rfl (Nat.le_of_ble_eq_true rfl) (Nat.le_of_ble_eq_true rfl) (ok_X10_toldOfCart_0 (Nat.le_refl _) hr) (fun v I' L' hq => ?_)
      obtain ⟨rfl, rfl, rfl⟩ := hq
      simp only [Option.toList_some, Option.toList_none, List.drop_succ_cons, List.drop_zero, List.drop_nil, List.cons_append, List.nil_append]
      refine r_iret (by first | rfl | decide) dX10_told_31 ?_
      obtain rfl := Option.some.inj h
      exact ⟨rfl, rfl, rfl⟩
  · rw [if_neg c] at h
    refine r_aload_n (i := 0) dX10_told_9 rfl rfl ?_
    refine r_iload_n (i := 1) dX10_told_10 rfl rfl ?_
    refine r_iload_n (i := 2) dX10_told_11 rfl rfl ?_
    obtain ⟨r8, hr, h⟩ := bind_some h
    refine r_V (d' := 1) k_X10_159 dX10_told_12 (by omega) rfl rfl rfl (Nat.le_of_ble_eq_true rfl) (Nat.le_of_ble_eq_true rfl) (ok_X10_toldOfRoad_0 (Nat.le_refl _) hr) (fun v I' L' hq => ?_)
    obtain ⟨rfl, rfl, rfl⟩ := hq
    simp only [Option.toList_some, Option.toList_none, List.drop_succ_cons, List.drop_zero, List.drop_nil, List.cons_append, List.nil_append]
    refine r_iret (by first | rfl | decide) dX10_told_15 ?_
    obtain rfl := Option.some.inj h
    exact ⟨rfl, rfl, rfl⟩
def f_X10_weighs_0 (I : mI) (L : mL) (a1 : Int32) (a2 : Int32) : Option Int32 := (f_X3_hasParish_2 I L a1).bind (fun r1 => if r1 = 0 then (some (-1)) else ((f_X10_within I L a2 1 99).bind (fun r2 => if r2 = 0 then (some (-1)) else ((f_X7_weightAt_1 I L a1 a2).bind (fun r3 => some r3)))))
theorem ok_X10_weighs_0 {d : Nat} (hd : 3 ≤ d) {I : mI} {L : mL} {a1 : Int32} {a2 : Int32} {o : Int32} (h : f_X10_weighs_0 I L a1 a2 = some o) : RR mX10_weighs d 0 [some (.ref 0), some (.int a1), some (.int a2)] [] I L (retQ (some (.int o)) I L) := by
  unfold f_X10_weighs_0 at h
  refine r_aload_n (i := 0) dX10_weighs_0 rfl rfl ?_
  refine r_getR f_X10_10 dX10_weighs_1 rfl rfl ?_
  refine r_getR f_X10_76 dX10_weighs_4 rfl rfl ?_
  refine r_iload_n (i := 1) dX10_weighs_7 rfl rfl ?_
  obtain ⟨r1, hr, h⟩ := bind_some h
  refine r_V (d' := 0) k_X10_90 dX10_weighs_8 (by omega) rfl rfl rfl (Nat.le_of_ble_eq_true rfl) (Nat.le_of_ble_eq_true rfl) (ok_X3_hasParish_2 (Nat.le_refl _) hr) (fun v I' L' hq => ?_)
  obtain ⟨rfl, rfl, rfl⟩ := hq
  simp only [Option.toList_some, Option.toList_none, List.drop_succ_cons, List.drop_zero, List.drop_nil, List.cons_append, List.nil_append]
  refine r_if_eq (tgt := 24) dX10_weighs_11 (by decide) (fun c => ?_) (fun c => ?_)
  · rw [if_pos c] at h
    refine r_iconst (v := (-1)) dX10_weighs_24 (by decide) ?_
    refine r_iret (by first | rfl | decide) dX10_weighs_25 ?_
    obtain rfl := Option.some.inj h
    exact ⟨rfl, rfl, rfl⟩
  · rw [if_neg c] at h
    refine r_iload_n (i := 2) dX10_weighs_14 rfl rfl ?_
    refine r_iconst (v := 1) dX10_weighs_15 (by decide) ?_
    refine r_bipush (v := 99) dX10_weighs_16 (by decide) ?_
    obtain ⟨r2, hr, h⟩ := bind_some h
    refine r_S (d' := 0) k_X10_72 dX10_weighs_18 (by omega) rfl (Nat.le_of_ble_eq_true rfl) (Nat.le_of_ble_eq_true rfl) (ok_X10_within (Nat.le_refl _) hr) (fun v I' L' hq => ?_)
    obtain ⟨rfl, rfl, rfl⟩ := hq
    simp only [Option.toList_some, Option.toList_none, List.drop_succ_cons, List.drop_zero, List.drop_nil, List.cons_append, List.nil_append]
    refine r_if_ne (tgt := 26) dX10_weighs_21 (by decide) (fun c => ?_) (fun c => ?_)
    · rw [if_neg c] at h
      refine r_aload_n (i := 0) dX10_weighs_26 rfl rfl ?_
      refine r_getR f_X10_10 dX10_weighs_27 rfl rfl ?_
      refine r_iload_n (i := 1) dX10_weighs_30 rfl rfl ?_
      refine r_iload_n (i := 2) dX10_weighs_31 rfl rfl ?_
      obtain ⟨r3, hr, h⟩ := bind_some h
      refine r_V (d' := 2) k_X10_171 dX10_weighs_32 (by omega) rfl rfl rfl (Nat.le_of_ble_eq_true rfl) (Nat.le_of_ble_eq_true rfl) (ok_X7_weightAt_1 (Nat.le_refl _) hr) (fun v I' L' hq => ?_)
      obtain ⟨rfl, rfl, rfl⟩ := hq
      simp only [Option.toList_some, Option.toList_none, List.drop_succ_cons, List.drop_zero, List.drop_nil, List.cons_append, List.nil_append]
      refine r_iret (by first | rfl | decide) dX10_weighs_35 ?_
      obtain rfl := Option.some.inj h
      exact ⟨rfl, rfl, rfl⟩
    · rw [if_pos c] at h
      refine r_iconst (v := (-1)) dX10_weighs_24 (by decide) ?_
      refine r_iret (by first | rfl | decide) dX10_weighs_25 ?_
      obtain rfl := Option.some.inj h
      exact ⟨rfl, rfl, rfl⟩
def f_X8_isFull_31 (I : mI) (L : mL) : Option Int32 := if (I 31 2) < 120 then (some 0) else (some 1)
theorem ok_X8_isFull_31 {d : Nat} (hd : 0 ≤ d) {I : mI} {L : mL} {o : Int32} (h : f_X8_isFull_31 I L = some o) : RR mX8_isFull d 0 [some (.ref 31)] [] I L (retQ (some (.int o)) I L) := by
  unfold f_X8_isFull_31 at h
  refine r_aload_n (i := 0) dX8_isFull_0 rfl rfl ?_
  refine r_getI f_X8_22 dX8_isFull_1 rfl rfl ?_
  refine r_bipush (v := 120) dX8_isFull_4 (by decide) ?_
  refine r_icmp_lt (tgt := 13) dX8_isFull_6 (by decide) (fun c => ?_) (fun c => ?_)
  · rw [if_pos c] at h
    refine r_iconst (v := 0) dX8_isFull_13 (by decide) ?_
    refine r_iret (by first | rfl | decide) dX8_isFull_14 ?_
    obtain rfl := Option.some.inj h
    exact ⟨rfl, rfl, rfl⟩
  · rw [if_neg c] at h
    refine r_iconst (v := 1) dX8_isFull_9 (by decide) ?_
    refine r_goto (tgt := 14) dX8_isFull_10 (by decide) ?_
    refine r_iret (by first | rfl | decide) dX8_isFull_14 ?_
    obtain rfl := Option.some.inj h
    exact ⟨rfl, rfl, rfl⟩
def f_X8_add_31 (I : mI) (L : mL) (a1 : Int32) : rI := ck (inb (I 31 2) 120) (lt (uI I 32 (I 31 2).toNatClampNeg (vp_nar .char ((a1.toUInt32 % 65536).toInt32))) (fun M1 => lt (uI M1 31 2 ((M1 31 2) + 1)) (fun M2 => some (M2 31 2, M2, L))))
theorem ok_X8_add_31 {d : Nat} (hd : 0 ≤ d) {I : mI} {L : mL} {a1 : Int32} {o : Int32 × mI × mL} (h : f_X8_add_31 I L a1 = some o) : RR mX8_add d 0 [some (.ref 31), some (.int a1)] [] I L (retQ (some (.int o.1)) o.2.1 o.2.2) := by
  unfold f_X8_add_31 at h
  refine r_aload_n (i := 0) dX8_add_0 rfl rfl ?_
  refine r_getR f_X8_11 dX8_add_1 rfl rfl ?_
  refine r_aload_n (i := 0) dX8_add_4 rfl rfl ?_
  refine r_getI f_X8_22 dX8_add_5 rfl rfl ?_
  refine r_iload_n (i := 1) dX8_add_8 rfl rfl ?_
  refine r_i2c dX8_add_9 ?_
  obtain ⟨hb, h⟩ := ck_some h
  refine r_cast rfl (inb_vp hb) dX8_add_10 ?_
  replace h := lt_some h
  refine r_aload_n (i := 0) dX8_add_11 rfl rfl ?_
  refine r_dup dX8_add_12 rfl ?_
  refine r_getI f_X8_22 dX8_add_13 rfl rfl ?_
  refine r_iconst (v := 1) dX8_add_16 (by decide) ?_
  refine r_iadd dX8_add_17 ?_
  refine r_putI f_X8_22 rfl rfl dX8_add_18 rfl rfl ?_
  replace h := lt_some h
  refine r_aload_n (i := 0) dX8_add_21 rfl rfl ?_
  refine r_getI f_X8_22 dX8_add_22 rfl rfl ?_
  refine r_iret (by first | rfl | decide) dX8_add_25 ?_
  obtain rfl := Option.some.inj h
  exact ⟨rfl, rfl, rfl⟩
def f_X10_type_0 (I : mI) (L : mL) (a1 : Int32) : rI := (f_X10_within I L a1 32 126).bind (fun r1 => if r1 = 0 then (some ((-1), I, L)) else ((f_X8_isFull_31 I L).bind (fun r2 => if r2 = 0 then (bndI (f_X8_add_31 I L a1) (fun r3 Ir3 Lr3 => some (r3, Ir3, Lr3))) else (some ((-3), I, L)))))
theorem ok_X10_type_0 {d : Nat} (hd : 1 ≤ d) {I : mI} {L : mL} {a1 : Int32} {o : Int32 × mI × mL} (h : f_X10_type_0 I L a1 = some o) : RR mX10_type d 0 [some (.ref 0), some (.int a1)] [] I L (retQ (some (.int o.1)) o.2.1 o.2.2) := by
  unfold f_X10_type_0 at h
  refine r_iload_n (i := 1) dX10_type_0 rfl rfl ?_
  refine r_bipush (v := 32) dX10_type_1 (by decide) ?_
  refine r_bipush (v := 126) dX10_type_3 (by decide) ?_
  obtain ⟨r1, hr, h⟩ := bind_some h
  refine r_S (d' := 0) k_X10_72 dX10_type_5 (by omega) rfl (Nat.le_of_ble_eq_true rfl) (Nat.le_of_ble_eq_true rfl) (ok_X10_within (Nat.le_refl _) hr) (fun v I' L' hq => ?_)
  obtain ⟨rfl, rfl, rfl⟩ := hq
  simp only [Option.toList_some, Option.toList_none, List.drop_succ_cons, List.drop_zero, List.drop_nil, List.cons_append, List.nil_append]
  refine r_if_ne (tgt := 13) dX10_type_8 (by decide) (fun c => ?_) (fun c => ?_)
  · rw [if_neg c] at h
    refine r_aload_n (i := 0) dX10_type_13 rfl rfl ?_
    refine r_getR f_X10_22 dX10_type_14 rfl rfl ?_
    obtain ⟨r2, hr, h⟩ := bind_some h
    refine r_V (d' := 0) k_X10_174 dX10_type_17 (by omega) rfl rfl rfl (Nat.le_of_ble_eq_true rfl) (Nat.le_of_ble_eq_true rfl) (ok_X8_isFull_31 (Nat.le_refl _) hr) (fun v I' L' hq => ?_)
    obtain ⟨rfl, rfl, rfl⟩ := hq
    simp only [Option.toList_some, Option.toList_none, List.drop_succ_cons, List.drop_zero, List.drop_nil, List.cons_append, List.nil_append]
    refine r_if_eq (tgt := 28) dX10_type_20 (by decide) (fun c => ?_) (fun c => ?_)
    · rw [if_pos c] at h
      refine r_aload_n (i := 0) dX10_type_28 rfl rfl ?_
      refine r_getR f_X10_22 dX10_type_29 rfl rfl ?_
      refine r_iload_n (i := 1) dX10_type_32 rfl rfl ?_
      obtain ⟨⟨r3, Ir3, Lr3⟩, hr, h⟩ := bind_some h
      refine r_V (d' := 0) k_X10_178 dX10_type_33 (by omega) rfl rfl rfl (Nat.le_of_ble_eq_true rfl) (Nat.le_of_ble_eq_true rfl) (ok_X8_add_31 (Nat.le_refl _) hr) (fun v I' L' hq => ?_)
      obtain ⟨rfl, rfl, rfl⟩ := hq
      simp only [Option.toList_some, Option.toList_none, List.drop_succ_cons, List.drop_zero, List.drop_nil, List.cons_append, List.nil_append]
      dsimp only at h
      refine r_iret (by first | rfl | decide) dX10_type_36 ?_
      obtain rfl := Option.some.inj h
      exact ⟨rfl, rfl, rfl⟩
    · rw [if_neg c] at h
      refine r_bipush (v := (-3)) dX10_type_23 (by decide) ?_
      refine r_goto (tgt := 36) dX10_type_25 (by decide) ?_
      refine r_iret (by first | rfl | decide) dX10_type_36 ?_
      obtain rfl := Option.some.inj h
      exact ⟨rfl, rfl, rfl⟩
  · rw [if_pos c] at h
    refine r_iconst (v := (-1)) dX10_type_11 (by decide) ?_
    refine r_iret (by first | rfl | decide) dX10_type_12 ?_
    obtain rfl := Option.some.inj h
    exact ⟨rfl, rfl, rfl⟩
def f_X3_clear_33 (I : mI) (L : mL) : rV := lt (uI I 33 5 0) (fun M1 => lt (uI M1 33 6 0) (fun M2 => some (M2, L)))
theorem ok_X3_clear_33 {d : Nat} (hd : 0 ≤ d) {I : mI} {L : mL} {o : mI × mL} (h : f_X3_clear_33 I L = some o) : RR mX3_clear d 0 [some (.ref 33)] [] I L (retQ none o.1 o.2) := by
  unfold f_X3_clear_33 at h
  refine r_aload_n (i := 0) dX3_clear_0 rfl rfl ?_
  refine r_iconst (v := 0) dX3_clear_1 (by decide) ?_
  refine r_putI f_X3_27 rfl rfl dX3_clear_2 rfl rfl ?_
  replace h := lt_some h
  refine r_aload_n (i := 0) dX3_clear_5 rfl rfl ?_
  refine r_iconst (v := 0) dX3_clear_6 (by decide) ?_
  refine r_putI f_X3_31 rfl rfl dX3_clear_7 rfl rfl ?_
  replace h := lt_some h
  refine r_vret dX3_clear_10 ?_
  obtain rfl := Option.some.inj h
  exact ⟨rfl, rfl, rfl⟩
def f_X8_skipBlanks_31_l0 : Nat → mI → mL → rV
  | 0, _, _ => none
  | n + 1, I, L => if (I 31 2) ≤ (I 31 3) then (some (I, L)) else (ck (inb (I 31 3) 120) (if (I 32 (I 31 3).toNatClampNeg) = 32 then (lt (uI I 31 3 ((I 31 3) + 1)) (fun M1 => f_X8_skipBlanks_31_l0 n M1 L)) else (some (I, L))))
theorem ok_X8_skipBlanks_31_l0 {d : Nat} (hd : 0 ≤ d) : ∀ (n : Nat) (I : mI) (L : mL) (o : mI × mL), f_X8_skipBlanks_31_l0 n I L = some o → RR mX8_skipBlanks d 0 [some (.ref 31)] [] I L (retQ none o.1 o.2) := by
  intro n
  induction n with
  | zero => intro I L o h; rw [f_X8_skipBlanks_31_l0] at h; cases h
  | succ n ih =>
    intro I L o h
    rw [f_X8_skipBlanks_31_l0] at h
    refine r_aload_n (i := 0) dX8_skipBlanks_0 rfl rfl ?_
    refine r_getI f_X8_26 dX8_skipBlanks_1 rfl rfl ?_
    refine r_aload_n (i := 0) dX8_skipBlanks_4 rfl rfl ?_
    refine r_getI f_X8_22 dX8_skipBlanks_5 rfl rfl ?_
    refine r_icmp_ge (tgt := 38) dX8_skipBlanks_8 (by decide) (fun c => ?_) (fun c => ?_)
    · rw [if_pos c] at h
      refine r_vret dX8_skipBlanks_38 ?_
      obtain rfl := Option.some.inj h
      exact ⟨rfl, rfl, rfl⟩
    · rw [if_neg c] at h
      refine r_aload_n (i := 0) dX8_skipBlanks_11 rfl rfl ?_
      refine r_getR f_X8_11 dX8_skipBlanks_12 rfl rfl ?_
      refine r_aload_n (i := 0) dX8_skipBlanks_15 rfl rfl ?_
      refine r_getI f_X8_26 dX8_skipBlanks_16 rfl rfl ?_
      obtain ⟨hb, h⟩ := ck_some h
      refine r_cald rfl (inb_vp hb) dX8_skipBlanks_19 ?_
      refine r_bipush (v := 32) dX8_skipBlanks_20 (by decide) ?_
      refine r_icmp_ne (tgt := 38) dX8_skipBlanks_22 (by decide) (fun c => ?_) (fun c => ?_)
      · rw [if_neg c] at h
        refine r_vret dX8_skipBlanks_38 ?_
        obtain rfl := Option.some.inj h
        exact ⟨rfl, rfl, rfl⟩
      · rw [if_pos c] at h
        refine r_aload_n (i := 0) dX8_skipBlanks_25 rfl rfl ?_
        refine r_dup dX8_skipBlanks_26 rfl ?_
        refine r_getI f_X8_26 dX8_skipBlanks_27 rfl rfl ?_
        refine r_iconst (v := 1) dX8_skipBlanks_30 (by decide) ?_
        refine r_iadd dX8_skipBlanks_31 ?_
        refine r_putI f_X8_26 rfl rfl dX8_skipBlanks_32 rfl rfl ?_
        replace h := lt_some h
        refine r_goto (tgt := 0) dX8_skipBlanks_35 (by decide) ?_
        exact RR.wk (ih _ _ _ h) (And.intro rfl (trivial))
def f_X8_skipBlanks_31 (I : mI) (L : mL) : rV := f_X8_skipBlanks_31_l0 fuel I L
theorem ok_X8_skipBlanks_31 {d : Nat} (hd : 0 ≤ d) {I : mI} {L : mL} {o : mI × mL} (h : f_X8_skipBlanks_31 I L = some o) : RR mX8_skipBlanks d 0 [some (.ref 31)] [] I L (retQ none o.1 o.2) := by
  unfold f_X8_skipBlanks_31 at h
  exact RR.wk (ok_X8_skipBlanks_31_l0 hd _ _ _ _ h) (And.intro rfl (trivial))
def f_X3_addParish_33_l14 : Nat → Int32 → Int32 → mI → mL → rI
  | 0, _, _, _, _ => none
  | n + 1, x2, x3, I, L => if 4 ≤ x3 then (lt (uI I 33 5 ((I 33 5) + 1)) (fun M3 => some (x2, M3, L))) else (ck (inb ((x2 * 4) + x3) 32) (lt (uI I 35 ((x2 * 4) + x3).toNatClampNeg 5) (fun M4 => lt (x3 + Int32.ofInt 1) (fun v5 => f_X3_addParish_33_l14 n x2 v5 M4 L))))
theorem ok_X3_addParish_33_l14 {d : Nat} (hd : 0 ≤ d) : ∀ (n : Nat) (x2 : Int32) (x3 : Int32) (I : mI) (L : mL) (o : Int32 × mI × mL), f_X3_addParish_33_l14 n x2 x3 I L = some o → RR mX3_addParish d 14 [some (.ref 33), none, some (.int x2), some (.int x3)] [] I L (retQ (some (.int o.1)) o.2.1 o.2.2) := by
  intro n
  induction n with
  | zero => intro x2 x3 I L o h; rw [f_X3_addParish_33_l14] at h; cases h
  | succ n ih =>
    intro x2 x3 I L o h
    rw [f_X3_addParish_33_l14] at h
    refine r_iload_n (i := 3) dX3_addParish_14 rfl rfl ?_
    refine r_iconst (v := 4) dX3_addParish_15 (by decide) ?_
    refine r_icmp_ge (tgt := 36) dX3_addParish_16 (by decide) (fun c => ?_) (fun c => ?_)
    · rw [if_pos c] at h
      refine r_aload_n (i := 0) dX3_addParish_36 rfl rfl ?_
      refine r_dup dX3_addParish_37 rfl ?_
      refine r_getI f_X3_27 dX3_addParish_38 rfl rfl ?_
      refine r_iconst (v := 1) dX3_addParish_41 (by decide) ?_
      refine r_iadd dX3_addParish_42 ?_
      refine r_putI f_X3_27 rfl rfl dX3_addParish_43 rfl rfl ?_
      replace h := lt_some h
      refine r_iload_n (i := 2) dX3_addParish_46 rfl rfl ?_
      refine r_iret (by first | rfl | decide) dX3_addParish_47 ?_
      obtain rfl := Option.some.inj h
      exact ⟨rfl, rfl, rfl⟩
    · rw [if_neg c] at h
      refine r_aload_n (i := 0) dX3_addParish_19 rfl rfl ?_
      refine r_getR f_X3_15 dX3_addParish_20 rfl rfl ?_
      refine r_iload_n (i := 2) dX3_addParish_23 rfl rfl ?_
      refine r_iconst (v := 4) dX3_addParish_24 (by decide) ?_
      refine r_imul dX3_addParish_25 ?_
      refine r_iload_n (i := 3) dX3_addParish_26 rfl rfl ?_
      refine r_iadd dX3_addParish_27 ?_
      refine r_iconst (v := 5) dX3_addParish_28 (by decide) ?_
      obtain ⟨hb, h⟩ := ck_some h
      refine r_iast rfl (inb_vp hb) dX3_addParish_29 ?_
      replace h := lt_some h
      refine r_iinc (v := _) dX3_addParish_30 rfl rfl (by decide) rfl ?_
      simp only [List.set_cons_zero, List.set_cons_succ]
      replace h := lt_some h
      refine r_goto (tgt := 14) dX3_addParish_33 (by decide) ?_
      exact RR.wk (ih _ _ _ _ _ h) (And.intro rfl (And.intro rfl (And.intro rfl (trivial))))
def f_X3_addParish_33 (I : mI) (L : mL) (a1 : Int32) : rI := lt (I 33 5) (fun v1 => ck (inb v1 8) (lt (uI I 34 v1.toNatClampNeg a1) (fun M2 => f_X3_addParish_33_l14 fuel v1 0 M2 L)))
theorem ok_X3_addParish_33 {d : Nat} (hd : 0 ≤ d) {I : mI} {L : mL} {a1 : Int32} {o : Int32 × mI × mL} (h : f_X3_addParish_33 I L a1 = some o) : RR mX3_addParish d 0 [some (.ref 33), some (.int a1), none, none] [] I L (retQ (some (.int o.1)) o.2.1 o.2.2) := by
  unfold f_X3_addParish_33 at h
  refine r_aload_n (i := 0) dX3_addParish_0 rfl rfl ?_
  refine r_getI f_X3_27 dX3_addParish_1 rfl rfl ?_
  refine r_istore_n (i := 2) dX3_addParish_4 rfl (by decide) rfl ?_
  simp only [List.set_cons_zero, List.set_cons_succ]
  replace h := lt_some h
  refine r_aload_n (i := 0) dX3_addParish_5 rfl rfl ?_
  refine r_getR f_X3_9 dX3_addParish_6 rfl rfl ?_
  refine r_iload_n (i := 2) dX3_addParish_9 rfl rfl ?_
  refine r_iload_n (i := 1) dX3_addParish_10 rfl rfl ?_
  obtain ⟨hb, h⟩ := ck_some h
  refine r_iast rfl (inb_vp hb) dX3_addParish_11 ?_
  replace h := lt_some h
  refine r_iconst (v := 0) dX3_addParish_12 (by decide) ?_
  refine r_istore_n (i := 3) dX3_addParish_13 rfl (by decide) rfl ?_
  simp only [List.set_cons_zero, List.set_cons_succ]
  exact RR.wk (ok_X3_addParish_33_l14 hd _ _ _ _ _ _ h) (And.intro rfl (And.intro rfl (And.intro rfl (trivial))))
def f_X8_digit_31 (I : mI) (L : mL) (a1 : Int32) (a2 : Int32) : rI := bndV (f_X8_skipBlanks_31 I L) (fun Ir1 Lr1 => if (Ir1 31 3) < (Ir1 31 2) then (ck (inb (Ir1 31 3) 120) (lt ((Ir1 32 (Ir1 31 3).toNatClampNeg) - 48) (fun v3 => if v3 < a1 then (some ((-1), Ir1, Lr1)) else (if a2 < v3 then (some ((-1), Ir1, Lr1)) else (some (v3, Ir1, Lr1)))))) else (some ((-1), Ir1, Lr1)))
theorem ok_X8_digit_31 {d : Nat} (hd : 1 ≤ d) {I : mI} {L : mL} {a1 : Int32} {a2 : Int32} {o : Int32 × mI × mL} (h : f_X8_digit_31 I L a1 a2 = some o) : RR mX8_digit d 0 [some (.ref 31), some (.int a1), some (.int a2), none] [] I L (retQ (some (.int o.1)) o.2.1 o.2.2) := by
  unfold f_X8_digit_31 at h
  refine r_aload_n (i := 0) dX8_digit_0 rfl rfl ?_
  obtain ⟨⟨Ir1, Lr1⟩, hr, h⟩ := bind_some h
  refine r_V (d' := 0) k_X8_43 dX8_digit_1 (by omega) rfl rfl rfl (Nat.le_of_ble_eq_true rfl) (Nat.le_of_ble_eq_true rfl) (ok_X8_skipBlanks_31 (Nat.le_refl _) hr) (fun v I' L' hq => ?_)
  obtain ⟨rfl, rfl, rfl⟩ := hq
  simp only [Option.toList_some, Option.toList_none, List.drop_succ_cons, List.drop_zero, List.drop_nil, List.cons_append, List.nil_append]
  dsimp only at h
  refine r_aload_n (i := 0) dX8_digit_4 rfl rfl ?_
  refine r_getI f_X8_26 dX8_digit_5 rfl rfl ?_
  refine r_aload_n (i := 0) dX8_digit_8 rfl rfl ?_
  refine r_getI f_X8_22 dX8_digit_9 rfl rfl ?_
  refine r_icmp_lt (tgt := 17) dX8_digit_12 (by decide) (fun c => ?_) (fun c => ?_)
  · rw [if_pos c] at h
    refine r_aload_n (i := 0) dX8_digit_17 rfl rfl ?_
    refine r_getR f_X8_11 dX8_digit_18 rfl rfl ?_
    refine r_aload_n (i := 0) dX8_digit_21 rfl rfl ?_
    refine r_getI f_X8_26 dX8_digit_22 rfl rfl ?_
    obtain ⟨hb, h⟩ := ck_some h
    refine r_cald rfl (inb_vp hb) dX8_digit_25 ?_
    refine r_bipush (v := 48) dX8_digit_26 (by decide) ?_
    refine r_isub dX8_digit_28 ?_
    refine r_istore_n (i := 3) dX8_digit_29 rfl (by decide) rfl ?_
    simp only [List.set_cons_zero, List.set_cons_succ]
    replace h := lt_some h
    refine r_iload_n (i := 3) dX8_digit_30 rfl rfl ?_
    refine r_iload_n (i := 1) dX8_digit_31 rfl rfl ?_
    refine r_icmp_lt (tgt := 44) dX8_digit_32 (by decide) (fun c => ?_) (fun c => ?_)
    · rw [if_pos c] at h
      refine r_iconst (v := (-1)) dX8_digit_44 (by decide) ?_
      refine r_iret (by first | rfl | decide) dX8_digit_45 ?_
      obtain rfl := Option.some.inj h
      exact ⟨rfl, rfl, rfl⟩
    · rw [if_neg c] at h
      refine r_iload_n (i := 3) dX8_digit_35 rfl rfl ?_
      refine r_iload_n (i := 2) dX8_digit_36 rfl rfl ?_
      refine r_icmp_gt (tgt := 44) dX8_digit_37 (by decide) (fun c => ?_) (fun c => ?_)
      · rw [if_pos c] at h
        refine r_iconst (v := (-1)) dX8_digit_44 (by decide) ?_
        refine r_iret (by first | rfl | decide) dX8_digit_45 ?_
        obtain rfl := Option.some.inj h
        exact ⟨rfl, rfl, rfl⟩
      · rw [if_neg c] at h
        refine r_iload_n (i := 3) dX8_digit_40 rfl rfl ?_
        refine r_goto (tgt := 45) dX8_digit_41 (by decide) ?_
        refine r_iret (by first | rfl | decide) dX8_digit_45 ?_
        obtain rfl := Option.some.inj h
        exact ⟨rfl, rfl, rfl⟩
  · rw [if_neg c] at h
    refine r_iconst (v := (-1)) dX8_digit_15 (by decide) ?_
    refine r_iret (by first | rfl | decide) dX8_digit_16 ?_
    obtain rfl := Option.some.inj h
    exact ⟨rfl, rfl, rfl⟩
def f_J0_isLatin1_aae02_S (I : mI) (L : mL) : Option Int32 := if (1 : Int32) = 0 then (some 0) else (if (0 : Int32) = 0 then (some 1) else (some 0))
theorem ok_J0_isLatin1_aae02_S {d : Nat} (hd : 0 ≤ d) {I : mI} {L : mL} {o : Int32} (h : f_J0_isLatin1_aae02_S I L = some o) : RR mJ0_isLatin1_aae02 d 0 [some (.ref 82)] [] I L (retQ (some (.int o)) I L) := by
  unfold f_J0_isLatin1_aae02_S at h
  refine r_cs f_J0_38 dJ0_isLatin1_aae02_0 ?_
  refine r_if_eq (tgt := 17) dJ0_isLatin1_aae02_3 (by decide) (fun c => ?_) (fun c => ?_)
  · rw [if_pos c] at h
    refine r_iconst (v := 0) dJ0_isLatin1_aae02_17 (by decide) ?_
    refine r_iret (by first | rfl | decide) dJ0_isLatin1_aae02_18 ?_
    obtain rfl := Option.some.inj h
    exact ⟨rfl, rfl, rfl⟩
  · rw [if_neg c] at h
    refine r_aload_n (i := 0) dJ0_isLatin1_aae02_6 rfl rfl ?_
    refine r_strC f_J0_15 dJ0_isLatin1_aae02_7 ?_
    refine r_if_ne (tgt := 17) dJ0_isLatin1_aae02_10 (by decide) (fun c => ?_) (fun c => ?_)
    · rw [if_neg c] at h
      refine r_iconst (v := 0) dJ0_isLatin1_aae02_17 (by decide) ?_
      refine r_iret (by first | rfl | decide) dJ0_isLatin1_aae02_18 ?_
      obtain rfl := Option.some.inj h
      exact ⟨rfl, rfl, rfl⟩
    · rw [if_pos c] at h
      refine r_iconst (v := 1) dJ0_isLatin1_aae02_13 (by decide) ?_
      refine r_goto (tgt := 18) dJ0_isLatin1_aae02_14 (by decide) ?_
      refine r_iret (by first | rfl | decide) dJ0_isLatin1_aae02_18 ?_
      obtain rfl := Option.some.inj h
      exact ⟨rfl, rfl, rfl⟩
def f_J0_coder_7d493_S (I : mI) (L : mL) : Option Int32 := if (1 : Int32) = 0 then (some 1) else (some 0)
theorem ok_J0_coder_7d493_S {d : Nat} (hd : 0 ≤ d) {I : mI} {L : mL} {o : Int32} (h : f_J0_coder_7d493_S I L = some o) : RR mJ0_coder_7d493 d 0 [some (.ref 82)] [] I L (retQ (some (.int o)) I L) := by
  unfold f_J0_coder_7d493_S at h
  refine r_cs f_J0_38 dJ0_coder_7d493_0 ?_
  refine r_if_eq (tgt := 13) dJ0_coder_7d493_3 (by decide) (fun c => ?_) (fun c => ?_)
  · rw [if_pos c] at h
    refine r_iconst (v := 1) dJ0_coder_7d493_13 (by decide) ?_
    refine r_iret (by first | rfl | decide) dJ0_coder_7d493_14 ?_
    obtain rfl := Option.some.inj h
    exact ⟨rfl, rfl, rfl⟩
  · rw [if_neg c] at h
    refine r_aload_n (i := 0) dJ0_coder_7d493_6 rfl rfl ?_
    refine r_strC f_J0_15 dJ0_coder_7d493_7 ?_
    refine r_goto (tgt := 14) dJ0_coder_7d493_10 (by decide) ?_
    refine r_iret (by first | rfl | decide) dJ0_coder_7d493_14 ?_
    obtain rfl := Option.some.inj h
    exact ⟨rfl, rfl, rfl⟩
def f_J0_length_8abf5_S (I : mI) (L : mL) : Option Int32 := (f_J0_coder_7d493_S I L).bind (fun r1 => some ((4 : Int32) >>> (r1 &&& 31)))
theorem ok_J0_length_8abf5_S {d : Nat} (hd : 1 ≤ d) {I : mI} {L : mL} {o : Int32} (h : f_J0_length_8abf5_S I L = some o) : RR mJ0_length_8abf5 d 0 [some (.ref 82)] [] I L (retQ (some (.int o)) I L) := by
  unfold f_J0_length_8abf5_S at h
  refine r_aload_n (i := 0) dJ0_length_8abf5_0 rfl rfl ?_
  refine r_strV f_J0_9 dJ0_length_8abf5_1 ?_
  refine r_alenB (v := 4) (by decide) dJ0_length_8abf5_4 ?_
  refine r_aload_n (i := 0) dJ0_length_8abf5_5 rfl rfl ?_
  obtain ⟨r1, hr, h⟩ := bind_some h
  refine r_T (d' := 0) k_J0_335 dJ0_length_8abf5_6 (by omega) rfl rfl (Nat.le_of_ble_eq_true rfl) (Nat.le_of_ble_eq_true rfl) (ok_J0_coder_7d493_S (Nat.le_refl _) hr) (fun v I' L' hq => ?_)
  obtain ⟨rfl, rfl, rfl⟩ := hq
  simp only [Option.toList_some, Option.toList_none, List.drop_succ_cons, List.drop_zero, List.drop_nil, List.cons_append, List.nil_append]
  refine r_ishr dJ0_length_8abf5_9 ?_
  refine r_iret (by first | rfl | decide) dJ0_length_8abf5_10 ?_
  obtain rfl := Option.some.inj h
  exact ⟨rfl, rfl, rfl⟩
def f_J11_isValidCodePoint_9a6ad (I : mI) (L : mL) (a0 : Int32) : Option Int32 := lt ((a0.toUInt32 >>> ((16 : Int32).toUInt32 &&& Int32.toUInt32 31)).toInt32) (fun v1 => if 17 ≤ v1 then (some 0) else (some 1))
theorem ok_J11_isValidCodePoint_9a6ad {d : Nat} (hd : 0 ≤ d) {I : mI} {L : mL} {a0 : Int32} {o : Int32} (h : f_J11_isValidCodePoint_9a6ad I L a0 = some o) : RR mJ11_isValidCodePoint_9a6ad d 0 [some (.int a0), none] [] I L (retQ (some (.int o)) I L) := by
  unfold f_J11_isValidCodePoint_9a6ad at h
  refine r_iload_n (i := 0) dJ11_isValidCodePoint_9a6ad_0 rfl rfl ?_
  refine r_bipush (v := 16) dJ11_isValidCodePoint_9a6ad_1 (by decide) ?_
  refine r_iushr dJ11_isValidCodePoint_9a6ad_3 ?_
  refine r_istore_n (i := 1) dJ11_isValidCodePoint_9a6ad_4 rfl (by decide) rfl ?_
  simp only [List.set_cons_zero, List.set_cons_succ]
  replace h := lt_some h
  refine r_iload_n (i := 1) dJ11_isValidCodePoint_9a6ad_5 rfl rfl ?_
  refine r_bipush (v := 17) dJ11_isValidCodePoint_9a6ad_6 (by decide) ?_
  refine r_icmp_ge (tgt := 15) dJ11_isValidCodePoint_9a6ad_8 (by decide) (fun c => ?_) (fun c => ?_)
  · rw [if_pos c] at h
    refine r_iconst (v := 0) dJ11_isValidCodePoint_9a6ad_15 (by decide) ?_
    refine r_iret (by first | rfl | decide) dJ11_isValidCodePoint_9a6ad_16 ?_
    obtain rfl := Option.some.inj h
    exact ⟨rfl, rfl, rfl⟩
  · rw [if_neg c] at h
    refine r_iconst (v := 1) dJ11_isValidCodePoint_9a6ad_11 (by decide) ?_
    refine r_goto (tgt := 16) dJ11_isValidCodePoint_9a6ad_12 (by decide) ?_
    refine r_iret (by first | rfl | decide) dJ11_isValidCodePoint_9a6ad_16 ?_
    obtain rfl := Option.some.inj h
    exact ⟨rfl, rfl, rfl⟩
def f_J11_highSurrogate_5068e (I : mI) (L : mL) (a0 : Int32) : Option Int32 := some (((((a0.toUInt32 >>> ((10 : Int32).toUInt32 &&& Int32.toUInt32 31)).toInt32) + 55232).toUInt32 % 65536).toInt32)
theorem ok_J11_highSurrogate_5068e {d : Nat} (hd : 0 ≤ d) {I : mI} {L : mL} {a0 : Int32} {o : Int32} (h : f_J11_highSurrogate_5068e I L a0 = some o) : RR mJ11_highSurrogate_5068e d 0 [some (.int a0)] [] I L (retQ (some (.int o)) I L) := by
  unfold f_J11_highSurrogate_5068e at h
  refine r_iload_n (i := 0) dJ11_highSurrogate_5068e_0 rfl rfl ?_
  refine r_bipush (v := 10) dJ11_highSurrogate_5068e_1 (by decide) ?_
  refine r_iushr dJ11_highSurrogate_5068e_3 ?_
  refine r_ldc n_J11_110 dJ11_highSurrogate_5068e_4 ?_
  refine r_iadd dJ11_highSurrogate_5068e_6 ?_
  refine r_i2c dJ11_highSurrogate_5068e_7 ?_
  refine r_iret (by first | rfl | decide) dJ11_highSurrogate_5068e_8 ?_
  obtain rfl := Option.some.inj h
  exact ⟨rfl, rfl, rfl⟩
def f_J11_lowSurrogate_5068e (I : mI) (L : mL) (a0 : Int32) : Option Int32 := some ((((a0 &&& 1023) + 56320).toUInt32 % 65536).toInt32)
theorem ok_J11_lowSurrogate_5068e {d : Nat} (hd : 0 ≤ d) {I : mI} {L : mL} {a0 : Int32} {o : Int32} (h : f_J11_lowSurrogate_5068e I L a0 = some o) : RR mJ11_lowSurrogate_5068e d 0 [some (.int a0)] [] I L (retQ (some (.int o)) I L) := by
  unfold f_J11_lowSurrogate_5068e at h
  refine r_iload_n (i := 0) dJ11_lowSurrogate_5068e_0 rfl rfl ?_
  refine r_sipush (v := 1023) dJ11_lowSurrogate_5068e_1 (by decide) ?_
  refine r_iand dJ11_lowSurrogate_5068e_4 ?_
  refine r_ldc n_J11_76 dJ11_lowSurrogate_5068e_5 ?_
  refine r_iadd dJ11_lowSurrogate_5068e_7 ?_
  refine r_i2c dJ11_lowSurrogate_5068e_8 ?_
  refine r_iret (by first | rfl | decide) dJ11_lowSurrogate_5068e_9 ?_
  obtain rfl := Option.some.inj h
  exact ⟨rfl, rfl, rfl⟩
def f_J2_length_9d52b_B (I : mI) (L : mL) : Option Int32 := some ((4 : Int32) >>> ((1 : Int32) &&& 31))
theorem ok_J2_length_9d52b_B {d : Nat} (hd : 0 ≤ d) {I : mI} {L : mL} {o : Int32} (h : f_J2_length_9d52b_B I L = some o) : RR mJ2_length_9d52b d 0 [some (.ref 83)] [] I L (retQ (some (.int o)) I L) := by
  unfold f_J2_length_9d52b_B at h
  refine r_aload_n (i := 0) dJ2_length_9d52b_0 rfl rfl ?_
  refine r_alenB (v := 4) (by decide) dJ2_length_9d52b_1 ?_
  refine r_iconst (v := 1) dJ2_length_9d52b_2 (by decide) ?_
  refine r_ishr dJ2_length_9d52b_3 ?_
  refine r_iret (by first | rfl | decide) dJ2_length_9d52b_4 ?_
  obtain rfl := Option.some.inj h
  exact ⟨rfl, rfl, rfl⟩
def f_X7_hanging_1_l4 (I : mI) (L : mL) : Nat → Int32 → Int32 → Option Int32
  | 0, _, _ => none
  | n + 1, x1, x2 => if (I 1 10) ≤ x2 then (some x1) else (ck (inb x2 6) (if (I 13 x2.toNatClampNeg) ≤ 0 then (lt (x2 + Int32.ofInt 1) (fun v1 => f_X7_hanging_1_l4 I L n x1 v1)) else (lt (x1 + Int32.ofInt 1) (fun v2 => lt (x2 + Int32.ofInt 1) (fun v3 => f_X7_hanging_1_l4 I L n v2 v3)))))
theorem ok_X7_hanging_1_l4 {d : Nat} (hd : 0 ≤ d){I : mI} {L : mL} : ∀ (n : Nat) (x1 : Int32) (x2 : Int32) (o : Int32), f_X7_hanging_1_l4 I L n x1 x2 = some o → RR mX7_hanging d 4 [some (.ref 1), some (.int x1), some (.int x2)] [] I L (retQ (some (.int o)) I L) := by
  intro n
  induction n with
  | zero => intro x1 x2 o h; rw [f_X7_hanging_1_l4] at h; cases h
  | succ n ih =>
    intro x1 x2 o h
    rw [f_X7_hanging_1_l4] at h
    refine r_iload_n (i := 2) dX7_hanging_4 rfl rfl ?_
    refine r_aload_n (i := 0) dX7_hanging_5 rfl rfl ?_
    refine r_getI f_X7_72 dX7_hanging_6 rfl rfl ?_
    refine r_icmp_ge (tgt := 30) dX7_hanging_9 (by decide) (fun c => ?_) (fun c => ?_)
    · rw [if_pos c] at h
      refine r_iload_n (i := 1) dX7_hanging_30 rfl rfl ?_
      refine r_iret (by first | rfl | decide) dX7_hanging_31 ?_
      obtain rfl := Option.some.inj h
      exact ⟨rfl, rfl, rfl⟩
    · rw [if_neg c] at h
      refine r_aload_n (i := 0) dX7_hanging_12 rfl rfl ?_
      refine r_getR f_X7_34 dX7_hanging_13 rfl rfl ?_
      refine r_iload_n (i := 2) dX7_hanging_16 rfl rfl ?_
      obtain ⟨hb, h⟩ := ck_some h
      refine r_iald rfl (inb_vp hb) dX7_hanging_17 ?_
      refine r_if_le (tgt := 24) dX7_hanging_18 (by decide) (fun c => ?_) (fun c => ?_)
      · rw [if_pos c] at h
        refine r_iinc (v := _) dX7_hanging_24 rfl rfl (by decide) rfl ?_
        simp only [List.set_cons_zero, List.set_cons_succ]
        replace h := lt_some h
        refine r_goto (tgt := 4) dX7_hanging_27 (by decide) ?_
        exact RR.wk (ih _ _ _ h) (And.intro rfl (And.intro rfl (And.intro rfl (trivial))))
      · rw [if_neg c] at h
        refine r_iinc (v := _) dX7_hanging_21 rfl rfl (by decide) rfl ?_
        simp only [List.set_cons_zero, List.set_cons_succ]
        replace h := lt_some h
        refine r_iinc (v := _) dX7_hanging_24 rfl rfl (by decide) rfl ?_
        simp only [List.set_cons_zero, List.set_cons_succ]
        replace h := lt_some h
        refine r_goto (tgt := 4) dX7_hanging_27 (by decide) ?_
        exact RR.wk (ih _ _ _ h) (And.intro rfl (And.intro rfl (And.intro rfl (trivial))))
def f_X7_hanging_1 (I : mI) (L : mL) : Option Int32 := f_X7_hanging_1_l4 I L fuel 0 0
theorem ok_X7_hanging_1 {d : Nat} (hd : 0 ≤ d) {I : mI} {L : mL} {o : Int32} (h : f_X7_hanging_1 I L = some o) : RR mX7_hanging d 0 [some (.ref 1), none, none] [] I L (retQ (some (.int o)) I L) := by
  unfold f_X7_hanging_1 at h
  refine r_iconst (v := 0) dX7_hanging_0 (by decide) ?_
  refine r_istore_n (i := 1) dX7_hanging_1 rfl (by decide) rfl ?_
  simp only [List.set_cons_zero, List.set_cons_succ]
  refine r_iconst (v := 0) dX7_hanging_2 (by decide) ?_
  refine r_istore_n (i := 2) dX7_hanging_3 rfl (by decide) rfl ?_
  simp only [List.set_cons_zero, List.set_cons_succ]
  exact RR.wk (ok_X7_hanging_1_l4 hd _ _ _ _ h) (And.intro rfl (And.intro rfl (And.intro rfl (trivial))))
def f_X10_count_0 (I : mI) (L : mL) (a1 : Int32) : Option Int32 := if a1 = 0 then (some (I 2 5)) else (if a1 = 1 then (some (I 2 6)) else (if a1 = 2 then (some (I 1 9)) else (if a1 = 3 then (some (I 1 10)) else (if a1 = 4 then (some (I 1 11)) else (if a1 = 5 then (some (I 1 12)) else (if a1 = 6 then ((f_X7_season_1 I L).bind (fun r1 => some r1)) else (if a1 = 7 then ((f_X7_hanging_1 I L).bind (fun r2 => some r2)) else (some (-1)))))))))
theorem ok_X10_count_0 {d : Nat} (hd : 2 ≤ d) {I : mI} {L : mL} {a1 : Int32} {o : Int32} (h : f_X10_count_0 I L a1 = some o) : RR mX10_count d 0 [some (.ref 0), some (.int a1)] [] I L (retQ (some (.int o)) I L) := by
  unfold f_X10_count_0 at h
  refine r_iload_n (i := 1) dX10_count_0 rfl rfl ?_
  by_cases c0 : a1 = 0
  · rw [if_pos c0] at h
    refine r_tabIn (tgt := 48) (off := 47) dX10_count_1 (by rw [c0]; decide) (by rw [c0]; decide) (by rw [c0]; rfl) (by decide) ?_
    refine r_aload_n (i := 0) dX10_count_48 rfl rfl ?_
    refine r_getR f_X10_10 dX10_count_49 rfl rfl ?_
    refine r_getR f_X10_76 dX10_count_52 rfl rfl ?_
    refine r_getI f_X10_80 dX10_count_55 rfl rfl ?_
    refine r_iret (by first | rfl | decide) dX10_count_58 ?_
    obtain rfl := Option.some.inj h
    exact ⟨rfl, rfl, rfl⟩
  rw [if_neg c0] at h
  by_cases c1 : a1 = 1
  · rw [if_pos c1] at h
    refine r_tabIn (tgt := 59) (off := 58) dX10_count_1 (by rw [c1]; decide) (by rw [c1]; decide) (by rw [c1]; rfl) (by decide) ?_
    refine r_aload_n (i := 0) dX10_count_59 rfl rfl ?_
    refine r_getR f_X10_10 dX10_count_60 rfl rfl ?_
    refine r_getR f_X10_76 dX10_count_63 rfl rfl ?_
    refine r_getI f_X10_102 dX10_count_66 rfl rfl ?_
    refine r_iret (by first | rfl | decide) dX10_count_69 ?_
    obtain rfl := Option.some.inj h
    exact ⟨rfl, rfl, rfl⟩
  rw [if_neg c1] at h
  by_cases c2 : a1 = 2
  · rw [if_pos c2] at h
    refine r_tabIn (tgt := 70) (off := 69) dX10_count_1 (by rw [c2]; decide) (by rw [c2]; decide) (by rw [c2]; rfl) (by decide) ?_
    refine r_aload_n (i := 0) dX10_count_70 rfl rfl ?_
    refine r_getR f_X10_10 dX10_count_71 rfl rfl ?_
    refine r_getI f_X10_115 dX10_count_74 rfl rfl ?_
    refine r_iret (by first | rfl | decide) dX10_count_77 ?_
    obtain rfl := Option.some.inj h
    exact ⟨rfl, rfl, rfl⟩
  rw [if_neg c2] at h
  by_cases c3 : a1 = 3
  · rw [if_pos c3] at h
    refine r_tabIn (tgt := 78) (off := 77) dX10_count_1 (by rw [c3]; decide) (by rw [c3]; decide) (by rw [c3]; rfl) (by decide) ?_
    refine r_aload_n (i := 0) dX10_count_78 rfl rfl ?_
    refine r_getR f_X10_10 dX10_count_79 rfl rfl ?_
    refine r_getI f_X10_122 dX10_count_82 rfl rfl ?_
    refine r_iret (by first | rfl | decide) dX10_count_85 ?_
    obtain rfl := Option.some.inj h
    exact ⟨rfl, rfl, rfl⟩
  rw [if_neg c3] at h
  by_cases c4 : a1 = 4
  · rw [if_pos c4] at h
    refine r_tabIn (tgt := 86) (off := 85) dX10_count_1 (by rw [c4]; decide) (by rw [c4]; decide) (by rw [c4]; rfl) (by decide) ?_
    refine r_aload_n (i := 0) dX10_count_86 rfl rfl ?_
    refine r_getR f_X10_10 dX10_count_87 rfl rfl ?_
    refine r_getI f_X10_137 dX10_count_90 rfl rfl ?_
    refine r_iret (by first | rfl | decide) dX10_count_93 ?_
    obtain rfl := Option.some.inj h
    exact ⟨rfl, rfl, rfl⟩
  rw [if_neg c4] at h
  by_cases c5 : a1 = 5
  · rw [if_pos c5] at h
    refine r_tabIn (tgt := 94) (off := 93) dX10_count_1 (by rw [c5]; decide) (by rw [c5]; decide) (by rw [c5]; rfl) (by decide) ?_
    refine r_aload_n (i := 0) dX10_count_94 rfl rfl ?_
    refine r_getR f_X10_10 dX10_count_95 rfl rfl ?_
    refine r_getI f_X10_197 dX10_count_98 rfl rfl ?_
    refine r_iret (by first | rfl | decide) dX10_count_101 ?_
    obtain rfl := Option.some.inj h
    exact ⟨rfl, rfl, rfl⟩
  rw [if_neg c5] at h
  by_cases c6 : a1 = 6
  · rw [if_pos c6] at h
    refine r_tabIn (tgt := 102) (off := 101) dX10_count_1 (by rw [c6]; decide) (by rw [c6]; decide) (by rw [c6]; rfl) (by decide) ?_
    refine r_aload_n (i := 0) dX10_count_102 rfl rfl ?_
    refine r_getR f_X10_10 dX10_count_103 rfl rfl ?_
    obtain ⟨r1, hr, h⟩ := bind_some h
    refine r_V (d' := 1) k_X10_200 dX10_count_106 (by omega) rfl rfl rfl (Nat.le_of_ble_eq_true rfl) (Nat.le_of_ble_eq_true rfl) (ok_X7_season_1 (Nat.le_refl _) hr) (fun v I' L' hq => ?_)
    obtain ⟨rfl, rfl, rfl⟩ := hq
    simp only [Option.toList_some, Option.toList_none, List.drop_succ_cons, List.drop_zero, List.drop_nil, List.cons_append, List.nil_append]
    refine r_iret (by first | rfl | decide) dX10_count_109 ?_
    obtain rfl := Option.some.inj h
    exact ⟨rfl, rfl, rfl⟩
  rw [if_neg c6] at h
  by_cases c7 : a1 = 7
  · rw [if_pos c7] at h
    refine r_tabIn (tgt := 110) (off := 109) dX10_count_1 (by rw [c7]; decide) (by rw [c7]; decide) (by rw [c7]; rfl) (by decide) ?_
    refine r_aload_n (i := 0) dX10_count_110 rfl rfl ?_
    refine r_getR f_X10_10 dX10_count_111 rfl rfl ?_
    obtain ⟨r2, hr, h⟩ := bind_some h
    refine r_V (d' := 0) k_X10_204 dX10_count_114 (by omega) rfl rfl rfl (Nat.le_of_ble_eq_true rfl) (Nat.le_of_ble_eq_true rfl) (ok_X7_hanging_1 (Nat.le_refl _) hr) (fun v I' L' hq => ?_)
    obtain ⟨rfl, rfl, rfl⟩ := hq
    simp only [Option.toList_some, Option.toList_none, List.drop_succ_cons, List.drop_zero, List.drop_nil, List.cons_append, List.nil_append]
    refine r_iret (by first | rfl | decide) dX10_count_117 ?_
    obtain rfl := Option.some.inj h
    exact ⟨rfl, rfl, rfl⟩
  rw [if_neg c7] at h
  refine r_tabOut (tgt := 118) dX10_count_1 (by have := lv_neT c0 (a := 0) (by decide); have := lv_neT c1 (a := 1) (by decide); have := lv_neT c2 (a := 2) (by decide); have := lv_neT c3 (a := 3) (by decide); have := lv_neT c4 (a := 4) (by decide); have := lv_neT c5 (a := 5) (by decide); have := lv_neT c6 (a := 6) (by decide); have := lv_neT c7 (a := 7) (by decide); omega) (by decide) ?_
  refine r_iconst (v := (-1)) dX10_count_118 (by decide) ?_
  refine r_iret (by first | rfl | decide) dX10_count_119 ?_
  obtain rfl := Option.some.inj h
  exact ⟨rfl, rfl, rfl⟩
def f_X7_lighterParish_1_l25 (I : mI) (L : mL) : Nat → Int32 → Int32 → Int32 → Int32 → Int32 → Option Int32
  | 0, _, _, _, _, _ => none
  | n + 1, x1, x2, x3, x4, x5 => if (I 2 6) ≤ x5 then (some x3) else ((f_X3_otherEnd_2 I L x5 x2).bind (fun r3 => if r3 < 0 then (lt (x5 + Int32.ofInt 1) (fun v4 => f_X7_lighterParish_1_l25 I L n x1 x2 x3 x4 v4)) else (ck (inb x1 6) ((f_X7_weightAt_1 I L r3 (I 14 x1.toNatClampNeg)).bind (fun r5 => if r5 < x4 then (lt (x5 + Int32.ofInt 1) (fun v6 => f_X7_lighterParish_1_l25 I L n x1 x2 r3 r5 v6)) else (if r5 = x4 then (if x3 = x2 then (lt (x5 + Int32.ofInt 1) (fun v8 => f_X7_lighterParish_1_l25 I L n x1 x2 x3 x4 v8)) else (if x3 ≤ r3 then (lt (x5 + Int32.ofInt 1) (fun v9 => f_X7_lighterParish_1_l25 I L n x1 x2 x3 x4 v9)) else (lt (x5 + Int32.ofInt 1) (fun v10 => f_X7_lighterParish_1_l25 I L n x1 x2 r3 r5 v10)))) else (lt (x5 + Int32.ofInt 1) (fun v7 => f_X7_lighterParish_1_l25 I L n x1 x2 x3 x4 v7))))))))
theorem ok_X7_lighterParish_1_l25 {d : Nat} (hd : 3 ≤ d){I : mI} {L : mL} : ∀ (n : Nat) (x1 : Int32) (x2 : Int32) (x3 : Int32) (x4 : Int32) (x5 : Int32) (o : Int32), f_X7_lighterParish_1_l25 I L n x1 x2 x3 x4 x5 = some o → RR mX7_lighterParish d 25 [some (.ref 1), some (.int x1), some (.int x2), some (.int x3), some (.int x4), some (.int x5), none, none] [] I L (retQ (some (.int o)) I L) := by
  intro n
  induction n with
  | zero => intro x1 x2 x3 x4 x5 o h; rw [f_X7_lighterParish_1_l25] at h; cases h
  | succ n ih =>
    intro x1 x2 x3 x4 x5 o h
    rw [f_X7_lighterParish_1_l25] at h
    refine r_iload dX7_lighterParish_25 rfl ?_
    refine r_aload_n (i := 0) dX7_lighterParish_27 rfl rfl ?_
    refine r_getR f_X7_12 dX7_lighterParish_28 rfl rfl ?_
    refine r_getI f_X7_84 dX7_lighterParish_31 rfl rfl ?_
    refine r_icmp_ge (tgt := 106) dX7_lighterParish_34 (by decide) (fun c => ?_) (fun c => ?_)
    · rw [if_pos c] at h
      refine r_iload_n (i := 3) dX7_lighterParish_106 rfl rfl ?_
      refine r_iret (by first | rfl | decide) dX7_lighterParish_107 ?_
      obtain rfl := Option.some.inj h
      exact ⟨rfl, rfl, rfl⟩
    · rw [if_neg c] at h
      refine r_aload_n (i := 0) dX7_lighterParish_37 rfl rfl ?_
      refine r_getR f_X7_12 dX7_lighterParish_38 rfl rfl ?_
      refine r_iload dX7_lighterParish_41 rfl ?_
      refine r_iload_n (i := 2) dX7_lighterParish_43 rfl rfl ?_
      obtain ⟨r3, hr, h⟩ := bind_some h
      refine r_V (d' := 0) k_X7_87 dX7_lighterParish_44 (by omega) rfl rfl rfl (Nat.le_of_ble_eq_true rfl) (Nat.le_of_ble_eq_true rfl) (ok_X3_otherEnd_2 (Nat.le_refl _) hr) (fun v I' L' hq => ?_)
      obtain ⟨rfl, rfl, rfl⟩ := hq
      simp only [Option.toList_some, Option.toList_none, List.drop_succ_cons, List.drop_zero, List.drop_nil, List.cons_append, List.nil_append]
      refine r_istore dX7_lighterParish_47 (by decide) rfl ?_
      simp only [List.set_cons_zero, List.set_cons_succ]
      refine r_iload dX7_lighterParish_49 rfl ?_
      refine r_if_lt (tgt := 100) dX7_lighterParish_51 (by decide) (fun c => ?_) (fun c => ?_)
      · rw [if_pos c] at h
        refine r_iinc (v := _) dX7_lighterParish_100 rfl rfl (by decide) rfl ?_
        simp only [List.set_cons_zero, List.set_cons_succ]
        replace h := lt_some h
        refine r_goto (tgt := 25) dX7_lighterParish_103 (by decide) ?_
        exact RR.wk (ih _ _ _ _ _ _ h) (And.intro rfl (And.intro rfl (And.intro rfl (And.intro rfl (And.intro rfl (And.intro rfl (trivial)))))))
      · rw [if_neg c] at h
        refine r_aload_n (i := 0) dX7_lighterParish_54 rfl rfl ?_
        refine r_iload dX7_lighterParish_55 rfl ?_
        refine r_aload_n (i := 0) dX7_lighterParish_57 rfl rfl ?_
        refine r_getR f_X7_37 dX7_lighterParish_58 rfl rfl ?_
        refine r_iload_n (i := 1) dX7_lighterParish_61 rfl rfl ?_
        obtain ⟨hb, h⟩ := ck_some h
        refine r_iald rfl (inb_vp hb) dX7_lighterParish_62 ?_
        obtain ⟨r5, hr, h⟩ := bind_some h
        refine r_V (d' := 2) k_X7_65 dX7_lighterParish_63 (by omega) rfl rfl rfl (Nat.le_of_ble_eq_true rfl) (Nat.le_of_ble_eq_true rfl) (ok_X7_weightAt_1 (Nat.le_refl _) hr) (fun v I' L' hq => ?_)
        obtain ⟨rfl, rfl, rfl⟩ := hq
        simp only [Option.toList_some, Option.toList_none, List.drop_succ_cons, List.drop_zero, List.drop_nil, List.cons_append, List.nil_append]
        refine r_istore dX7_lighterParish_66 (by decide) rfl ?_
        simp only [List.set_cons_zero, List.set_cons_succ]
        refine r_iload dX7_lighterParish_68 rfl ?_
        refine r_iload dX7_lighterParish_70 rfl ?_
        refine r_icmp_lt (tgt := 93) dX7_lighterParish_72 (by decide) (fun c => ?_) (fun c => ?_)
        · rw [if_pos c] at h
          refine r_iload dX7_lighterParish_93 rfl ?_
          refine r_istore_n (i := 3) dX7_lighterParish_95 rfl (by decide) rfl ?_
          simp only [List.set_cons_zero, List.set_cons_succ]
          refine r_iload dX7_lighterParish_96 rfl ?_
          refine r_istore dX7_lighterParish_98 (by decide) rfl ?_
          simp only [List.set_cons_zero, List.set_cons_succ]
          refine r_iinc (v := _) dX7_lighterParish_100 rfl rfl (by decide) rfl ?_
          simp only [List.set_cons_zero, List.set_cons_succ]
          replace h := lt_some h
          refine r_goto (tgt := 25) dX7_lighterParish_103 (by decide) ?_
          exact RR.wk (ih _ _ _ _ _ _ h) (And.intro rfl (And.intro rfl (And.intro rfl (And.intro rfl (And.intro rfl (And.intro rfl (trivial)))))))
        · rw [if_neg c] at h
          refine r_iload dX7_lighterParish_75 rfl ?_
          refine r_iload dX7_lighterParish_77 rfl ?_
          refine r_icmp_ne (tgt := 100) dX7_lighterParish_79 (by decide) (fun c => ?_) (fun c => ?_)
          · rw [if_neg c] at h
            refine r_iinc (v := _) dX7_lighterParish_100 rfl rfl (by decide) rfl ?_
            simp only [List.set_cons_zero, List.set_cons_succ]
            replace h := lt_some h
            refine r_goto (tgt := 25) dX7_lighterParish_103 (by decide) ?_
            exact RR.wk (ih _ _ _ _ _ _ h) (And.intro rfl (And.intro rfl (And.intro rfl (And.intro rfl (And.intro rfl (And.intro rfl (trivial)))))))
          · rw [if_pos c] at h
            refine r_iload_n (i := 3) dX7_lighterParish_82 rfl rfl ?_
            refine r_iload_n (i := 2) dX7_lighterParish_83 rfl rfl ?_
            refine r_icmp_eq (tgt := 100) dX7_lighterParish_84 (by decide) (fun c => ?_) (fun c => ?_)
            · rw [if_pos c] at h
              refine r_iinc (v := _) dX7_lighterParish_100 rfl rfl (by decide) rfl ?_
              simp only [List.set_cons_zero, List.set_cons_succ]
              replace h := lt_some h
              refine r_goto (tgt := 25) dX7_lighterParish_103 (by decide) ?_
              exact RR.wk (ih _ _ _ _ _ _ h) (And.intro rfl (And.intro rfl (And.intro rfl (And.intro rfl (And.intro rfl (And.intro rfl (trivial)))))))
            · rw [if_neg c] at h
              refine r_iload dX7_lighterParish_87 rfl ?_
              refine r_iload_n (i := 3) dX7_lighterParish_89 rfl rfl ?_
              refine r_icmp_ge (tgt := 100) dX7_lighterParish_90 (by decide) (fun c => ?_) (fun c => ?_)
              · rw [if_pos c] at h
                refine r_iinc (v := _) dX7_lighterParish_100 rfl rfl (by decide) rfl ?_
                simp only [List.set_cons_zero, List.set_cons_succ]
                replace h := lt_some h
                refine r_goto (tgt := 25) dX7_lighterParish_103 (by decide) ?_
                exact RR.wk (ih _ _ _ _ _ _ h) (And.intro rfl (And.intro rfl (And.intro rfl (And.intro rfl (And.intro rfl (And.intro rfl (trivial)))))))
              · rw [if_neg c] at h
                refine r_iload dX7_lighterParish_93 rfl ?_
                refine r_istore_n (i := 3) dX7_lighterParish_95 rfl (by decide) rfl ?_
                simp only [List.set_cons_zero, List.set_cons_succ]
                refine r_iload dX7_lighterParish_96 rfl ?_
                refine r_istore dX7_lighterParish_98 (by decide) rfl ?_
                simp only [List.set_cons_zero, List.set_cons_succ]
                refine r_iinc (v := _) dX7_lighterParish_100 rfl rfl (by decide) rfl ?_
                simp only [List.set_cons_zero, List.set_cons_succ]
                replace h := lt_some h
                refine r_goto (tgt := 25) dX7_lighterParish_103 (by decide) ?_
                exact RR.wk (ih _ _ _ _ _ _ h) (And.intro rfl (And.intro rfl (And.intro rfl (And.intro rfl (And.intro rfl (And.intro rfl (trivial)))))))
def f_X7_lighterParish_1 (I : mI) (L : mL) (a1 : Int32) : Option Int32 := ck (inb a1 6) (lt (I 15 a1.toNatClampNeg) (fun v1 => ck (inb a1 6) ((f_X7_weightAt_1 I L v1 (I 14 a1.toNatClampNeg)).bind (fun r2 => f_X7_lighterParish_1_l25 I L fuel a1 v1 v1 r2 0))))
theorem ok_X7_lighterParish_1 {d : Nat} (hd : 3 ≤ d) {I : mI} {L : mL} {a1 : Int32} {o : Int32} (h : f_X7_lighterParish_1 I L a1 = some o) : RR mX7_lighterParish d 0 [some (.ref 1), some (.int a1), none, none, none, none, none, none] [] I L (retQ (some (.int o)) I L) := by
  unfold f_X7_lighterParish_1 at h
  refine r_aload_n (i := 0) dX7_lighterParish_0 rfl rfl ?_
  refine r_getR f_X7_40 dX7_lighterParish_1 rfl rfl ?_
  refine r_iload_n (i := 1) dX7_lighterParish_4 rfl rfl ?_
  obtain ⟨hb, h⟩ := ck_some h
  refine r_iald rfl (inb_vp hb) dX7_lighterParish_5 ?_
  refine r_istore_n (i := 2) dX7_lighterParish_6 rfl (by decide) rfl ?_
  simp only [List.set_cons_zero, List.set_cons_succ]
  replace h := lt_some h
  refine r_iload_n (i := 2) dX7_lighterParish_7 rfl rfl ?_
  refine r_istore_n (i := 3) dX7_lighterParish_8 rfl (by decide) rfl ?_
  simp only [List.set_cons_zero, List.set_cons_succ]
  refine r_aload_n (i := 0) dX7_lighterParish_9 rfl rfl ?_
  refine r_iload_n (i := 2) dX7_lighterParish_10 rfl rfl ?_
  refine r_aload_n (i := 0) dX7_lighterParish_11 rfl rfl ?_
  refine r_getR f_X7_37 dX7_lighterParish_12 rfl rfl ?_
  refine r_iload_n (i := 1) dX7_lighterParish_15 rfl rfl ?_
  obtain ⟨hb, h⟩ := ck_some h
  refine r_iald rfl (inb_vp hb) dX7_lighterParish_16 ?_
  obtain ⟨r2, hr, h⟩ := bind_some h
  refine r_V (d' := 2) k_X7_65 dX7_lighterParish_17 (by omega) rfl rfl rfl (Nat.le_of_ble_eq_true rfl) (Nat.le_of_ble_eq_true rfl) (ok_X7_weightAt_1 (Nat.le_refl _) hr) (fun v I' L' hq => ?_)
  obtain ⟨rfl, rfl, rfl⟩ := hq
  simp only [Option.toList_some, Option.toList_none, List.drop_succ_cons, List.drop_zero, List.drop_nil, List.cons_append, List.nil_append]
  refine r_istore dX7_lighterParish_20 (by decide) rfl ?_
  simp only [List.set_cons_zero, List.set_cons_succ]
  refine r_iconst (v := 0) dX7_lighterParish_22 (by decide) ?_
  refine r_istore dX7_lighterParish_23 (by decide) rfl ?_
  simp only [List.set_cons_zero, List.set_cons_succ]
  exact RR.wk (ok_X7_lighterParish_1_l25 hd _ _ _ _ _ _ _ h) (And.intro rfl (And.intro rfl (And.intro rfl (And.intro rfl (And.intro rfl (And.intro rfl (trivial)))))))
def f_X7_passWeek_1_l56 : Nat → Int32 → Int32 → mI → mL → rI
  | 0, _, _, _, _ => none
  | n + 1, x1, x2, I, L => if (I 1 10) ≤ x2 then (some (x1, I, L)) else (ck (inb x2 6) (if (I 13 x2.toNatClampNeg) ≤ 0 then (lt (x2 + Int32.ofInt 1) (fun v2 => f_X7_passWeek_1_l56 n x1 v2 I L)) else ((f_X7_weightOfGood_1 I L x2).bind (fun r3 => ck (inb x2 6) (if r3 ≤ (I 13 x2.toNatClampNeg) then (lt (x2 + Int32.ofInt 1) (fun v4 => f_X7_passWeek_1_l56 n x1 v4 I L)) else (ck (inb x2 6) (lt (uI I 13 x2.toNatClampNeg 0) (fun M5 => lt (x1 + Int32.ofInt 1) (fun v6 => lt (x2 + Int32.ofInt 1) (fun v7 => f_X7_passWeek_1_l56 n v6 v7 M5 L))))))))))
theorem ok_X7_passWeek_1_l56 {d : Nat} (hd : 4 ≤ d) : ∀ (n : Nat) (x1 : Int32) (x2 : Int32) (I : mI) (L : mL) (o : Int32 × mI × mL), f_X7_passWeek_1_l56 n x1 x2 I L = some o → RR mX7_passWeek d 56 [some (.ref 1), some (.int x1), some (.int x2), none] [] I L (retQ (some (.int o.1)) o.2.1 o.2.2) := by
  intro n
  induction n with
  | zero => intro x1 x2 I L o h; rw [f_X7_passWeek_1_l56] at h; cases h
  | succ n ih =>
    intro x1 x2 I L o h
    rw [f_X7_passWeek_1_l56] at h
    refine r_iload_n (i := 2) dX7_passWeek_56 rfl rfl ?_
    refine r_aload_n (i := 0) dX7_passWeek_57 rfl rfl ?_
    refine r_getI f_X7_72 dX7_passWeek_58 rfl rfl ?_
    refine r_icmp_ge (tgt := 103) dX7_passWeek_61 (by decide) (fun c => ?_) (fun c => ?_)
    · rw [if_pos c] at h
      refine r_iload_n (i := 1) dX7_passWeek_103 rfl rfl ?_
      refine r_iret (by first | rfl | decide) dX7_passWeek_104 ?_
      obtain rfl := Option.some.inj h
      exact ⟨rfl, rfl, rfl⟩
    · rw [if_neg c] at h
      refine r_aload_n (i := 0) dX7_passWeek_64 rfl rfl ?_
      refine r_getR f_X7_34 dX7_passWeek_65 rfl rfl ?_
      refine r_iload_n (i := 2) dX7_passWeek_68 rfl rfl ?_
      obtain ⟨hb, h⟩ := ck_some h
      refine r_iald rfl (inb_vp hb) dX7_passWeek_69 ?_
      refine r_if_le (tgt := 97) dX7_passWeek_70 (by decide) (fun c => ?_) (fun c => ?_)
      · rw [if_pos c] at h
        refine r_iinc (v := _) dX7_passWeek_97 rfl rfl (by decide) rfl ?_
        simp only [List.set_cons_zero, List.set_cons_succ]
        replace h := lt_some h
        refine r_goto (tgt := 56) dX7_passWeek_100 (by decide) ?_
        exact RR.wk (ih _ _ _ _ _ h) (And.intro rfl (And.intro rfl (And.intro rfl (trivial))))
      · rw [if_neg c] at h
        refine r_aload_n (i := 0) dX7_passWeek_73 rfl rfl ?_
        refine r_iload_n (i := 2) dX7_passWeek_74 rfl rfl ?_
        obtain ⟨r3, hr, h⟩ := bind_some h
        refine r_V (d' := 3) k_X7_81 dX7_passWeek_75 (by omega) rfl rfl rfl (Nat.le_of_ble_eq_true rfl) (Nat.le_of_ble_eq_true rfl) (ok_X7_weightOfGood_1 (Nat.le_refl _) hr) (fun v I' L' hq => ?_)
        obtain ⟨rfl, rfl, rfl⟩ := hq
        simp only [Option.toList_some, Option.toList_none, List.drop_succ_cons, List.drop_zero, List.drop_nil, List.cons_append, List.nil_append]
        refine r_aload_n (i := 0) dX7_passWeek_78 rfl rfl ?_
        refine r_getR f_X7_34 dX7_passWeek_79 rfl rfl ?_
        refine r_iload_n (i := 2) dX7_passWeek_82 rfl rfl ?_
        obtain ⟨hb, h⟩ := ck_some h
        refine r_iald rfl (inb_vp hb) dX7_passWeek_83 ?_
        refine r_icmp_le (tgt := 97) dX7_passWeek_84 (by decide) (fun c => ?_) (fun c => ?_)
        · rw [if_pos c] at h
          refine r_iinc (v := _) dX7_passWeek_97 rfl rfl (by decide) rfl ?_
          simp only [List.set_cons_zero, List.set_cons_succ]
          replace h := lt_some h
          refine r_goto (tgt := 56) dX7_passWeek_100 (by decide) ?_
          exact RR.wk (ih _ _ _ _ _ h) (And.intro rfl (And.intro rfl (And.intro rfl (trivial))))
        · rw [if_neg c] at h
          refine r_aload_n (i := 0) dX7_passWeek_87 rfl rfl ?_
          refine r_getR f_X7_34 dX7_passWeek_88 rfl rfl ?_
          refine r_iload_n (i := 2) dX7_passWeek_91 rfl rfl ?_
          refine r_iconst (v := 0) dX7_passWeek_92 (by decide) ?_
          obtain ⟨hb, h⟩ := ck_some h
          refine r_iast rfl (inb_vp hb) dX7_passWeek_93 ?_
          replace h := lt_some h
          refine r_iinc (v := _) dX7_passWeek_94 rfl rfl (by decide) rfl ?_
          simp only [List.set_cons_zero, List.set_cons_succ]
          replace h := lt_some h
          refine r_iinc (v := _) dX7_passWeek_97 rfl rfl (by decide) rfl ?_
          simp only [List.set_cons_zero, List.set_cons_succ]
          replace h := lt_some h
          refine r_goto (tgt := 56) dX7_passWeek_100 (by decide) ?_
          exact RR.wk (ih _ _ _ _ _ h) (And.intro rfl (And.intro rfl (And.intro rfl (trivial))))
def f_X7_passWeek_1_l14 : Nat → Int32 → Int32 → mI → mL → rI
  | 0, _, _, _, _ => none
  | n + 1, x1, x2, I, L => if (I 1 11) ≤ x2 then (f_X7_passWeek_1_l56 fuel x1 0 I L) else ((f_X7_lighterParish_1 I L x2).bind (fun r8 => ck (inb x2 6) (if r8 = (I 15 x2.toNatClampNeg) then (lt (x2 + Int32.ofInt 1) (fun v9 => f_X7_passWeek_1_l14 n x1 v9 I L)) else (ck (inb x2 6) (lt (uI I 15 x2.toNatClampNeg r8) (fun M10 => lt (x1 + Int32.ofInt 100) (fun v11 => lt (x2 + Int32.ofInt 1) (fun v12 => f_X7_passWeek_1_l14 n v11 v12 M10 L))))))))
theorem ok_X7_passWeek_1_l14 {d : Nat} (hd : 4 ≤ d) : ∀ (n : Nat) (x1 : Int32) (x2 : Int32) (I : mI) (L : mL) (o : Int32 × mI × mL), f_X7_passWeek_1_l14 n x1 x2 I L = some o → RR mX7_passWeek d 14 [some (.ref 1), some (.int x1), some (.int x2), none] [] I L (retQ (some (.int o.1)) o.2.1 o.2.2) := by
  intro n
  induction n with
  | zero => intro x1 x2 I L o h; rw [f_X7_passWeek_1_l14] at h; cases h
  | succ n ih =>
    intro x1 x2 I L o h
    rw [f_X7_passWeek_1_l14] at h
    refine r_iload_n (i := 2) dX7_passWeek_14 rfl rfl ?_
    refine r_aload_n (i := 0) dX7_passWeek_15 rfl rfl ?_
    refine r_getI f_X7_75 dX7_passWeek_16 rfl rfl ?_
    refine r_icmp_ge (tgt := 54) dX7_passWeek_19 (by decide) (fun c => ?_) (fun c => ?_)
    · rw [if_pos c] at h
      refine r_iconst (v := 0) dX7_passWeek_54 (by decide) ?_
      refine r_istore_n (i := 2) dX7_passWeek_55 rfl (by decide) rfl ?_
      simp only [List.set_cons_zero, List.set_cons_succ]
      exact RR.wk (ok_X7_passWeek_1_l56 hd _ _ _ _ _ _ h) (And.intro rfl (And.intro rfl (And.intro rfl (trivial))))
    · rw [if_neg c] at h
      refine r_aload_n (i := 0) dX7_passWeek_22 rfl rfl ?_
      refine r_iload_n (i := 2) dX7_passWeek_23 rfl rfl ?_
      obtain ⟨r8, hr, h⟩ := bind_some h
      refine r_V (d' := 3) k_X7_78 dX7_passWeek_24 (by omega) rfl rfl rfl (Nat.le_of_ble_eq_true rfl) (Nat.le_of_ble_eq_true rfl) (ok_X7_lighterParish_1 (Nat.le_refl _) hr) (fun v I' L' hq => ?_)
      obtain ⟨rfl, rfl, rfl⟩ := hq
      simp only [Option.toList_some, Option.toList_none, List.drop_succ_cons, List.drop_zero, List.drop_nil, List.cons_append, List.nil_append]
      refine r_istore_n (i := 3) dX7_passWeek_27 rfl (by decide) rfl ?_
      simp only [List.set_cons_zero, List.set_cons_succ]
      refine r_iload_n (i := 3) dX7_passWeek_28 rfl rfl ?_
      refine r_aload_n (i := 0) dX7_passWeek_29 rfl rfl ?_
      refine r_getR f_X7_40 dX7_passWeek_30 rfl rfl ?_
      refine r_iload_n (i := 2) dX7_passWeek_33 rfl rfl ?_
      obtain ⟨hb, h⟩ := ck_some h
      refine r_iald rfl (inb_vp hb) dX7_passWeek_34 ?_
      refine r_icmp_eq (tgt := 48) dX7_passWeek_35 (by decide) (fun c => ?_) (fun c => ?_)
      · rw [if_pos c] at h
        refine r_iinc (v := _) dX7_passWeek_48 rfl rfl (by decide) rfl ?_
        simp only [List.set_cons_zero, List.set_cons_succ]
        replace h := lt_some h
        refine r_goto (tgt := 14) dX7_passWeek_51 (by decide) ?_
        exact RR.wk (ih _ _ _ _ _ h) (And.intro rfl (And.intro rfl (And.intro rfl (trivial))))
      · rw [if_neg c] at h
        refine r_aload_n (i := 0) dX7_passWeek_38 rfl rfl ?_
        refine r_getR f_X7_40 dX7_passWeek_39 rfl rfl ?_
        refine r_iload_n (i := 2) dX7_passWeek_42 rfl rfl ?_
        refine r_iload_n (i := 3) dX7_passWeek_43 rfl rfl ?_
        obtain ⟨hb, h⟩ := ck_some h
        refine r_iast rfl (inb_vp hb) dX7_passWeek_44 ?_
        replace h := lt_some h
        refine r_iinc (v := _) dX7_passWeek_45 rfl rfl (by decide) rfl ?_
        simp only [List.set_cons_zero, List.set_cons_succ]
        replace h := lt_some h
        refine r_iinc (v := _) dX7_passWeek_48 rfl rfl (by decide) rfl ?_
        simp only [List.set_cons_zero, List.set_cons_succ]
        replace h := lt_some h
        refine r_goto (tgt := 14) dX7_passWeek_51 (by decide) ?_
        exact RR.wk (ih _ _ _ _ _ h) (And.intro rfl (And.intro rfl (And.intro rfl (trivial))))
def f_X7_passWeek_1 (I : mI) (L : mL) : rI := lt (uI I 1 12 ((I 1 12) + 1)) (fun M1 => f_X7_passWeek_1_l14 fuel 0 0 M1 L)
theorem ok_X7_passWeek_1 {d : Nat} (hd : 4 ≤ d) {I : mI} {L : mL} {o : Int32 × mI × mL} (h : f_X7_passWeek_1 I L = some o) : RR mX7_passWeek d 0 [some (.ref 1), none, none, none] [] I L (retQ (some (.int o.1)) o.2.1 o.2.2) := by
  unfold f_X7_passWeek_1 at h
  refine r_aload_n (i := 0) dX7_passWeek_0 rfl rfl ?_
  refine r_dup dX7_passWeek_1 rfl ?_
  refine r_getI f_X7_43 dX7_passWeek_2 rfl rfl ?_
  refine r_iconst (v := 1) dX7_passWeek_5 (by decide) ?_
  refine r_iadd dX7_passWeek_6 ?_
  refine r_putI f_X7_43 rfl rfl dX7_passWeek_7 rfl rfl ?_
  replace h := lt_some h
  refine r_iconst (v := 0) dX7_passWeek_10 (by decide) ?_
  refine r_istore_n (i := 1) dX7_passWeek_11 rfl (by decide) rfl ?_
  simp only [List.set_cons_zero, List.set_cons_succ]
  refine r_iconst (v := 0) dX7_passWeek_12 (by decide) ?_
  refine r_istore_n (i := 2) dX7_passWeek_13 rfl (by decide) rfl ?_
  simp only [List.set_cons_zero, List.set_cons_succ]
  exact RR.wk (ok_X7_passWeek_1_l14 hd _ _ _ _ _ _ h) (And.intro rfl (And.intro rfl (And.intro rfl (trivial))))
def f_X10_weeks_0_l34 : Nat → Int32 → Int32 → Int32 → mI → mL → rI
  | 0, _, _, _, _, _ => none
  | n + 1, x1, x2, x3, I, L => if x1 ≤ x3 then (some (x2, I, L)) else (bndI (f_X7_passWeek_1 I L) (fun r2 Ir2 Lr2 => lt (x2 + r2) (fun v4 => lt (x3 + Int32.ofInt 1) (fun v5 => f_X10_weeks_0_l34 n x1 v4 v5 Ir2 Lr2))))
theorem ok_X10_weeks_0_l34 {d : Nat} (hd : 5 ≤ d) : ∀ (n : Nat) (x1 : Int32) (x2 : Int32) (x3 : Int32) (I : mI) (L : mL) (o : Int32 × mI × mL), f_X10_weeks_0_l34 n x1 x2 x3 I L = some o → RR mX10_weeks d 34 [some (.ref 0), some (.int x1), some (.int x2), some (.int x3)] [] I L (retQ (some (.int o.1)) o.2.1 o.2.2) := by
  intro n
  induction n with
  | zero => intro x1 x2 x3 I L o h; rw [f_X10_weeks_0_l34] at h; cases h
  | succ n ih =>
    intro x1 x2 x3 I L o h
    rw [f_X10_weeks_0_l34] at h
    refine r_iload_n (i := 3) dX10_weeks_34 rfl rfl ?_
    refine r_iload_n (i := 1) dX10_weeks_35 rfl rfl ?_
    refine r_icmp_ge (tgt := 55) dX10_weeks_36 (by decide) (fun c => ?_) (fun c => ?_)
    · rw [if_pos c] at h
      refine r_iload_n (i := 2) dX10_weeks_55 rfl rfl ?_
      refine r_iret (by first | rfl | decide) dX10_weeks_56 ?_
      obtain rfl := Option.some.inj h
      exact ⟨rfl, rfl, rfl⟩
    · rw [if_neg c] at h
      refine r_iload_n (i := 2) dX10_weeks_39 rfl rfl ?_
      refine r_aload_n (i := 0) dX10_weeks_40 rfl rfl ?_
      refine r_getR f_X10_10 dX10_weeks_41 rfl rfl ?_
      obtain ⟨⟨r2, Ir2, Lr2⟩, hr, h⟩ := bind_some h
      refine r_V (d' := 4) k_X10_207 dX10_weeks_44 (by omega) rfl rfl rfl (Nat.le_of_ble_eq_true rfl) (Nat.le_of_ble_eq_true rfl) (ok_X7_passWeek_1 (Nat.le_refl _) hr) (fun v I' L' hq => ?_)
      obtain ⟨rfl, rfl, rfl⟩ := hq
      simp only [Option.toList_some, Option.toList_none, List.drop_succ_cons, List.drop_zero, List.drop_nil, List.cons_append, List.nil_append]
      dsimp only at h
      refine r_iadd dX10_weeks_47 ?_
      refine r_istore_n (i := 2) dX10_weeks_48 rfl (by decide) rfl ?_
      simp only [List.set_cons_zero, List.set_cons_succ]
      replace h := lt_some h
      refine r_iinc (v := _) dX10_weeks_49 rfl rfl (by decide) rfl ?_
      simp only [List.set_cons_zero, List.set_cons_succ]
      replace h := lt_some h
      refine r_goto (tgt := 34) dX10_weeks_52 (by decide) ?_
      exact RR.wk (ih _ _ _ _ _ _ h) (And.intro rfl (And.intro rfl (And.intro rfl (And.intro rfl (trivial)))))
def f_X10_weeks_0 (I : mI) (L : mL) (a1 : Int32) : rI := (f_X10_within I L a1 1 52).bind (fun r1 => if r1 = 0 then (some ((-1), I, L)) else (if ((I 1 12) + a1) ≤ 9999 then (f_X10_weeks_0_l34 fuel a1 0 0 I L) else (some ((-3), I, L))))
theorem ok_X10_weeks_0 {d : Nat} (hd : 5 ≤ d) {I : mI} {L : mL} {a1 : Int32} {o : Int32 × mI × mL} (h : f_X10_weeks_0 I L a1 = some o) : RR mX10_weeks d 0 [some (.ref 0), some (.int a1), none, none] [] I L (retQ (some (.int o.1)) o.2.1 o.2.2) := by
  unfold f_X10_weeks_0 at h
  refine r_iload_n (i := 1) dX10_weeks_0 rfl rfl ?_
  refine r_iconst (v := 1) dX10_weeks_1 (by decide) ?_
  refine r_bipush (v := 52) dX10_weeks_2 (by decide) ?_
  obtain ⟨r1, hr, h⟩ := bind_some h
  refine r_S (d' := 0) k_X10_72 dX10_weeks_4 (by omega) rfl (Nat.le_of_ble_eq_true rfl) (Nat.le_of_ble_eq_true rfl) (ok_X10_within (Nat.le_refl _) hr) (fun v I' L' hq => ?_)
  obtain ⟨rfl, rfl, rfl⟩ := hq
  simp only [Option.toList_some, Option.toList_none, List.drop_succ_cons, List.drop_zero, List.drop_nil, List.cons_append, List.nil_append]
  refine r_if_ne (tgt := 12) dX10_weeks_7 (by decide) (fun c => ?_) (fun c => ?_)
  · rw [if_neg c] at h
    refine r_aload_n (i := 0) dX10_weeks_12 rfl rfl ?_
    refine r_getR f_X10_10 dX10_weeks_13 rfl rfl ?_
    refine r_getI f_X10_197 dX10_weeks_16 rfl rfl ?_
    refine r_iload_n (i := 1) dX10_weeks_19 rfl rfl ?_
    refine r_iadd dX10_weeks_20 ?_
    refine r_sipush (v := 9999) dX10_weeks_21 (by decide) ?_
    refine r_icmp_le (tgt := 30) dX10_weeks_24 (by decide) (fun c => ?_) (fun c => ?_)
    · rw [if_pos c] at h
      refine r_iconst (v := 0) dX10_weeks_30 (by decide) ?_
      refine r_istore_n (i := 2) dX10_weeks_31 rfl (by decide) rfl ?_
      simp only [List.set_cons_zero, List.set_cons_succ]
      refine r_iconst (v := 0) dX10_weeks_32 (by decide) ?_
      refine r_istore_n (i := 3) dX10_weeks_33 rfl (by decide) rfl ?_
      simp only [List.set_cons_zero, List.set_cons_succ]
      exact RR.wk (ok_X10_weeks_0_l34 hd _ _ _ _ _ _ _ h) (And.intro rfl (And.intro rfl (And.intro rfl (And.intro rfl (trivial)))))
    · rw [if_neg c] at h
      refine r_bipush (v := (-3)) dX10_weeks_27 (by decide) ?_
      refine r_iret (by first | rfl | decide) dX10_weeks_29 ?_
      obtain rfl := Option.some.inj h
      exact ⟨rfl, rfl, rfl⟩
  · rw [if_pos c] at h
    refine r_iconst (v := (-1)) dX10_weeks_10 (by decide) ?_
    refine r_iret (by first | rfl | decide) dX10_weeks_11 ?_
    obtain rfl := Option.some.inj h
    exact ⟨rfl, rfl, rfl⟩
def f_J7_fill_53178_49_l5 : Nat → Int32 → Int32 → Int32 → mI → mL → rV
  | 0, _, _, _, _, _ => none
  | n + 1, x1, x2, x3, I, L => if x3 ≤ x2 then (some (I, L)) else (ck (inb x2 64) (lt (uI I 49 x2.toNatClampNeg x1) (fun M1 => lt (x2 + Int32.ofInt 1) (fun v2 => f_J7_fill_53178_49_l5 n x1 v2 x3 M1 L))))
theorem ok_J7_fill_53178_49_l5 {d : Nat} (hd : 0 ≤ d) : ∀ (n : Nat) (x1 : Int32) (x2 : Int32) (x3 : Int32) (I : mI) (L : mL) (o : mI × mL), f_J7_fill_53178_49_l5 n x1 x2 x3 I L = some o → RR mJ7_fill_53178 d 5 [some (.ref 49), some (.int x1), some (.int x2), some (.int x3)] [] I L (retQ none o.1 o.2) := by
  intro n
  induction n with
  | zero => intro x1 x2 x3 I L o h; rw [f_J7_fill_53178_49_l5] at h; cases h
  | succ n ih =>
    intro x1 x2 x3 I L o h
    rw [f_J7_fill_53178_49_l5] at h
    refine r_iload_n (i := 2) dJ7_fill_53178_5 rfl rfl ?_
    refine r_iload_n (i := 3) dJ7_fill_53178_6 rfl rfl ?_
    refine r_icmp_ge (tgt := 20) dJ7_fill_53178_7 (by decide) (fun c => ?_) (fun c => ?_)
    · rw [if_pos c] at h
      refine r_vret dJ7_fill_53178_20 ?_
      obtain rfl := Option.some.inj h
      exact ⟨rfl, rfl, rfl⟩
    · rw [if_neg c] at h
      refine r_aload_n (i := 0) dJ7_fill_53178_10 rfl rfl ?_
      refine r_iload_n (i := 2) dJ7_fill_53178_11 rfl rfl ?_
      refine r_iload_n (i := 1) dJ7_fill_53178_12 rfl rfl ?_
      obtain ⟨hb, h⟩ := ck_some h
      refine r_iast rfl (inb_vp hb) dJ7_fill_53178_13 ?_
      replace h := lt_some h
      refine r_iinc (v := _) dJ7_fill_53178_14 rfl rfl (by decide) rfl ?_
      simp only [List.set_cons_zero, List.set_cons_succ]
      replace h := lt_some h
      refine r_goto (tgt := 5) dJ7_fill_53178_17 (by decide) ?_
      exact RR.wk (ih _ _ _ _ _ _ h) (And.intro rfl (And.intro rfl (And.intro rfl (And.intro rfl (trivial)))))
def f_J7_fill_53178_49 (I : mI) (L : mL) (a1 : Int32) : rV := f_J7_fill_53178_49_l5 fuel a1 0 64 I L
theorem ok_J7_fill_53178_49 {d : Nat} (hd : 0 ≤ d) {I : mI} {L : mL} {a1 : Int32} {o : mI × mL} (h : f_J7_fill_53178_49 I L a1 = some o) : RR mJ7_fill_53178 d 0 [some (.ref 49), some (.int a1), none, none] [] I L (retQ none o.1 o.2) := by
  unfold f_J7_fill_53178_49 at h
  refine r_iconst (v := 0) dJ7_fill_53178_0 (by decide) ?_
  refine r_istore_n (i := 2) dJ7_fill_53178_1 rfl (by decide) rfl ?_
  simp only [List.set_cons_zero, List.set_cons_succ]
  refine r_aload_n (i := 0) dJ7_fill_53178_2 rfl rfl ?_
  refine r_alenI (v := 64) rfl (by decide) dJ7_fill_53178_3 ?_
  refine r_istore_n (i := 3) dJ7_fill_53178_4 rfl (by decide) rfl ?_
  simp only [List.set_cons_zero, List.set_cons_succ]
  exact RR.wk (ok_J7_fill_53178_49_l5 hd _ _ _ _ _ _ _ h) (And.intro rfl (And.intro rfl (And.intro rfl (And.intro rfl (trivial)))))
def f_X5_harness_48_l57 : Nat → Int32 → mI → mL → rV
  | 0, _, _, _ => none
  | n + 1, x3, I, L => if (I 2 6) ≤ x3 then (some (I, L)) else (ck (inb x3 15) (lt (I 5 x3.toNatClampNeg) (fun v7 => ck (inb x3 15) (lt (I 6 x3.toNatClampNeg) (fun v8 => ck (inb x3 15) (ck (inb ((v7 * 8) + v8) 64) (lt (uI I 49 ((v7 * 8) + v8).toNatClampNeg (I 7 x3.toNatClampNeg)) (fun M9 => ck (inb x3 15) (ck (inb ((v8 * 8) + v7) 64) (lt (uI M9 49 ((v8 * 8) + v7).toNatClampNeg (M9 7 x3.toNatClampNeg)) (fun M10 => lt (x3 + Int32.ofInt 1) (fun v11 => f_X5_harness_48_l57 n v11 M10 L))))))))))))
theorem ok_X5_harness_48_l57 {d : Nat} (hd : 1 ≤ d) : ∀ (n : Nat) (x3 : Int32) (I : mI) (L : mL) (o : mI × mL), f_X5_harness_48_l57 n x3 I L = some o → RR mX5_harness d 57 [some (.ref 48), none, some (.ref 2), some (.int x3), none, none] [] I L (retQ none o.1 o.2) := by
  intro n
  induction n with
  | zero => intro x3 I L o h; rw [f_X5_harness_48_l57] at h; cases h
  | succ n ih =>
    intro x3 I L o h
    rw [f_X5_harness_48_l57] at h
    refine r_iload_n (i := 3) dX5_harness_57 rfl rfl ?_
    refine r_aload_n (i := 2) dX5_harness_58 rfl rfl ?_
    refine r_getI f_X5_66 dX5_harness_59 rfl rfl ?_
    refine r_icmp_ge (tgt := 125) dX5_harness_62 (by decide) (fun c => ?_) (fun c => ?_)
    · rw [if_pos c] at h
      refine r_vret dX5_harness_125 ?_
      obtain rfl := Option.some.inj h
      exact ⟨rfl, rfl, rfl⟩
    · rw [if_neg c] at h
      refine r_aload_n (i := 2) dX5_harness_65 rfl rfl ?_
      refine r_getR f_X5_69 dX5_harness_66 rfl rfl ?_
      refine r_iload_n (i := 3) dX5_harness_69 rfl rfl ?_
      obtain ⟨hb, h⟩ := ck_some h
      refine r_iald rfl (inb_vp hb) dX5_harness_70 ?_
      refine r_istore dX5_harness_71 (by decide) rfl ?_
      simp only [List.set_cons_zero, List.set_cons_succ]
      replace h := lt_some h
      refine r_aload_n (i := 2) dX5_harness_73 rfl rfl ?_
      refine r_getR f_X5_72 dX5_harness_74 rfl rfl ?_
      refine r_iload_n (i := 3) dX5_harness_77 rfl rfl ?_
      obtain ⟨hb, h⟩ := ck_some h
      refine r_iald rfl (inb_vp hb) dX5_harness_78 ?_
      refine r_istore dX5_harness_79 (by decide) rfl ?_
      simp only [List.set_cons_zero, List.set_cons_succ]
      replace h := lt_some h
      refine r_aload_n (i := 0) dX5_harness_81 rfl rfl ?_
      refine r_getR f_X5_11 dX5_harness_82 rfl rfl ?_
      refine r_iload dX5_harness_85 rfl ?_
      refine r_bipush (v := 8) dX5_harness_87 (by decide) ?_
      refine r_imul dX5_harness_89 ?_
      refine r_iload dX5_harness_90 rfl ?_
      refine r_iadd dX5_harness_92 ?_
      refine r_aload_n (i := 2) dX5_harness_93 rfl rfl ?_
      refine r_getR f_X5_75 dX5_harness_94 rfl rfl ?_
      refine r_iload_n (i := 3) dX5_harness_97 rfl rfl ?_
      obtain ⟨hb, h⟩ := ck_some h
      refine r_iald rfl (inb_vp hb) dX5_harness_98 ?_
      obtain ⟨hb, h⟩ := ck_some h
      refine r_iast rfl (inb_vp hb) dX5_harness_99 ?_
      replace h := lt_some h
      refine r_aload_n (i := 0) dX5_harness_100 rfl rfl ?_
      refine r_getR f_X5_11 dX5_harness_101 rfl rfl ?_
      refine r_iload dX5_harness_104 rfl ?_
      refine r_bipush (v := 8) dX5_harness_106 (by decide) ?_
      refine r_imul dX5_harness_108 ?_
      refine r_iload dX5_harness_109 rfl ?_
      refine r_iadd dX5_harness_111 ?_
      refine r_aload_n (i := 2) dX5_harness_112 rfl rfl ?_
      refine r_getR f_X5_75 dX5_harness_113 rfl rfl ?_
      refine r_iload_n (i := 3) dX5_harness_116 rfl rfl ?_
      obtain ⟨hb, h⟩ := ck_some h
      refine r_iald rfl (inb_vp hb) dX5_harness_117 ?_
      obtain ⟨hb, h⟩ := ck_some h
      refine r_iast rfl (inb_vp hb) dX5_harness_118 ?_
      replace h := lt_some h
      refine r_iinc (v := _) dX5_harness_119 rfl rfl (by decide) rfl ?_
      simp only [List.set_cons_zero, List.set_cons_succ]
      replace h := lt_some h
      refine r_goto (tgt := 57) dX5_harness_122 (by decide) ?_
      exact RR.wk (ih _ _ _ _ h) (And.intro rfl (And.intro rfl (And.intro rfl (trivial))))
def f_X5_harness_48 (I : mI) (L : mL) (a1 : Int32) : rV := lt (uI I 48 8 (I 2 5)) (fun M1 => ck (inb a1 4) (lt (uI M1 48 9 (M1 8 a1.toNatClampNeg)) (fun M2 => ck (inb a1 4) (lt (uI M2 48 10 (M2 9 a1.toNatClampNeg)) (fun M3 => lt (uI M3 48 11 0) (fun M4 => bndV (f_J7_fill_53178_49 M4 L (-1)) (fun Ir5 Lr5 => f_X5_harness_48_l57 fuel 0 Ir5 Lr5)))))))
theorem ok_X5_harness_48 {d : Nat} (hd : 1 ≤ d) {I : mI} {L : mL} {a1 : Int32} {o : mI × mL} (h : f_X5_harness_48 I L a1 = some o) : RR mX5_harness d 0 [some (.ref 48), some (.int a1), none, none, none, none] [] I L (retQ none o.1 o.2) := by
  unfold f_X5_harness_48 at h
  refine r_aload_n (i := 0) dX5_harness_0 rfl rfl ?_
  refine r_getR f_X5_30 dX5_harness_1 rfl rfl ?_
  refine r_getR f_X5_34 dX5_harness_4 rfl rfl ?_
  refine r_astore_n (i := 2) dX5_harness_7 rfl (by decide) rfl ?_
  simp only [List.set_cons_zero, List.set_cons_succ]
  refine r_aload_n (i := 0) dX5_harness_8 rfl rfl ?_
  refine r_aload_n (i := 2) dX5_harness_9 rfl rfl ?_
  refine r_getI f_X5_40 dX5_harness_10 rfl rfl ?_
  refine r_putI f_X5_46 rfl rfl dX5_harness_13 rfl rfl ?_
  replace h := lt_some h
  refine r_aload_n (i := 0) dX5_harness_16 rfl rfl ?_
  refine r_aload_n (i := 0) dX5_harness_17 rfl rfl ?_
  refine r_getR f_X5_30 dX5_harness_18 rfl rfl ?_
  refine r_getR f_X5_47 dX5_harness_21 rfl rfl ?_
  refine r_iload_n (i := 1) dX5_harness_24 rfl rfl ?_
  obtain ⟨hb, h⟩ := ck_some h
  refine r_iald rfl (inb_vp hb) dX5_harness_25 ?_
  refine r_putI f_X5_50 rfl rfl dX5_harness_26 rfl rfl ?_
  replace h := lt_some h
  refine r_aload_n (i := 0) dX5_harness_29 rfl rfl ?_
  refine r_aload_n (i := 0) dX5_harness_30 rfl rfl ?_
  refine r_getR f_X5_30 dX5_harness_31 rfl rfl ?_
  refine r_getR f_X5_53 dX5_harness_34 rfl rfl ?_
  refine r_iload_n (i := 1) dX5_harness_37 rfl rfl ?_
  obtain ⟨hb, h⟩ := ck_some h
  refine r_iald rfl (inb_vp hb) dX5_harness_38 ?_
  refine r_putI f_X5_54 rfl rfl dX5_harness_39 rfl rfl ?_
  replace h := lt_some h
  refine r_aload_n (i := 0) dX5_harness_42 rfl rfl ?_
  refine r_iconst (v := 0) dX5_harness_43 (by decide) ?_
  refine r_putI f_X5_57 rfl rfl dX5_harness_44 rfl rfl ?_
  replace h := lt_some h
  refine r_aload_n (i := 0) dX5_harness_47 rfl rfl ?_
  refine r_getR f_X5_11 dX5_harness_48 rfl rfl ?_
  refine r_iconst (v := (-1)) dX5_harness_51 (by decide) ?_
  obtain ⟨⟨Ir5, Lr5⟩, hr, h⟩ := bind_some h
  refine r_S (d' := 0) k_X5_60 dX5_harness_52 (by omega) rfl (Nat.le_of_ble_eq_true rfl) (Nat.le_of_ble_eq_true rfl) (ok_J7_fill_53178_49 (Nat.le_refl _) hr) (fun v I' L' hq => ?_)
  obtain ⟨rfl, rfl, rfl⟩ := hq
  simp only [Option.toList_some, Option.toList_none, List.drop_succ_cons, List.drop_zero, List.drop_nil, List.cons_append, List.nil_append]
  dsimp only at h
  refine r_iconst (v := 0) dX5_harness_55 (by decide) ?_
  refine r_istore_n (i := 3) dX5_harness_56 rfl (by decide) rfl ?_
  simp only [List.set_cons_zero, List.set_cons_succ]
  exact RR.wk (ok_X5_harness_48_l57 hd _ _ _ _ _ h) (And.intro rfl (And.intro rfl (And.intro rfl (trivial))))
def f_X5_weigh_48_l2 : Nat → Int32 → Int32 → mI → mL → rV
  | 0, _, _, _, _ => none
  | n + 1, x1, x2, I, L => if (I 48 8) ≤ x2 then (some (I, L)) else ((f_X7_weightAt_1 I L x2 x1).bind (fun r1 => ck (inb x2 8) (lt (uI I 51 x2.toNatClampNeg r1) (fun M2 => lt (x2 + Int32.ofInt 1) (fun v3 => f_X5_weigh_48_l2 n x1 v3 M2 L)))))
theorem ok_X5_weigh_48_l2 {d : Nat} (hd : 3 ≤ d) : ∀ (n : Nat) (x1 : Int32) (x2 : Int32) (I : mI) (L : mL) (o : mI × mL), f_X5_weigh_48_l2 n x1 x2 I L = some o → RR mX5_weigh d 2 [some (.ref 48), some (.int x1), some (.int x2)] [] I L (retQ none o.1 o.2) := by
  intro n
  induction n with
  | zero => intro x1 x2 I L o h; rw [f_X5_weigh_48_l2] at h; cases h
  | succ n ih =>
    intro x1 x2 I L o h
    rw [f_X5_weigh_48_l2] at h
    refine r_iload_n (i := 2) dX5_weigh_2 rfl rfl ?_
    refine r_aload_n (i := 0) dX5_weigh_3 rfl rfl ?_
    refine r_getI f_X5_46 dX5_weigh_4 rfl rfl ?_
    refine r_icmp_ge (tgt := 31) dX5_weigh_7 (by decide) (fun c => ?_) (fun c => ?_)
    · rw [if_pos c] at h
      refine r_vret dX5_weigh_31 ?_
      obtain rfl := Option.some.inj h
      exact ⟨rfl, rfl, rfl⟩
    · rw [if_neg c] at h
      refine r_aload_n (i := 0) dX5_weigh_10 rfl rfl ?_
      refine r_getR f_X5_18 dX5_weigh_11 rfl rfl ?_
      refine r_iload_n (i := 2) dX5_weigh_14 rfl rfl ?_
      refine r_aload_n (i := 0) dX5_weigh_15 rfl rfl ?_
      refine r_getR f_X5_30 dX5_weigh_16 rfl rfl ?_
      refine r_iload_n (i := 2) dX5_weigh_19 rfl rfl ?_
      refine r_iload_n (i := 1) dX5_weigh_20 rfl rfl ?_
      obtain ⟨r1, hr, h⟩ := bind_some h
      refine r_V (d' := 2) k_X5_76 dX5_weigh_21 (by omega) rfl rfl rfl (Nat.le_of_ble_eq_true rfl) (Nat.le_of_ble_eq_true rfl) (ok_X7_weightAt_1 (Nat.le_refl _) hr) (fun v I' L' hq => ?_)
      obtain ⟨rfl, rfl, rfl⟩ := hq
      simp only [Option.toList_some, Option.toList_none, List.drop_succ_cons, List.drop_zero, List.drop_nil, List.cons_append, List.nil_append]
      obtain ⟨hb, h⟩ := ck_some h
      refine r_iast rfl (inb_vp hb) dX5_weigh_24 ?_
      replace h := lt_some h
      refine r_iinc (v := _) dX5_weigh_25 rfl rfl (by decide) rfl ?_
      simp only [List.set_cons_zero, List.set_cons_succ]
      replace h := lt_some h
      refine r_goto (tgt := 2) dX5_weigh_28 (by decide) ?_
      exact RR.wk (ih _ _ _ _ _ h) (And.intro rfl (And.intro rfl (And.intro rfl (trivial))))
def f_X5_weigh_48 (I : mI) (L : mL) (a1 : Int32) : rV := f_X5_weigh_48_l2 fuel a1 0 I L
theorem ok_X5_weigh_48 {d : Nat} (hd : 3 ≤ d) {I : mI} {L : mL} {a1 : Int32} {o : mI × mL} (h : f_X5_weigh_48 I L a1 = some o) : RR mX5_weigh d 0 [some (.ref 48), some (.int a1), none] [] I L (retQ none o.1 o.2) := by
  unfold f_X5_weigh_48 at h
  refine r_iconst (v := 0) dX5_weigh_0 (by decide) ?_
  refine r_istore_n (i := 2) dX5_weigh_1 rfl (by decide) rfl ?_
  simp only [List.set_cons_zero, List.set_cons_succ]
  exact RR.wk (ok_X5_weigh_48_l2 hd _ _ _ _ _ _ h) (And.intro rfl (And.intro rfl (And.intro rfl (trivial))))
def f_J7_fill_53178_52_l5 : Nat → Int32 → Int32 → Int32 → mI → mL → rV
  | 0, _, _, _, _, _ => none
  | n + 1, x1, x2, x3, I, L => if x3 ≤ x2 then (some (I, L)) else (ck (inb x2 8) (lt (uI I 52 x2.toNatClampNeg x1) (fun M1 => lt (x2 + Int32.ofInt 1) (fun v2 => f_J7_fill_53178_52_l5 n x1 v2 x3 M1 L))))
theorem ok_J7_fill_53178_52_l5 {d : Nat} (hd : 0 ≤ d) : ∀ (n : Nat) (x1 : Int32) (x2 : Int32) (x3 : Int32) (I : mI) (L : mL) (o : mI × mL), f_J7_fill_53178_52_l5 n x1 x2 x3 I L = some o → RR mJ7_fill_53178 d 5 [some (.ref 52), some (.int x1), some (.int x2), some (.int x3)] [] I L (retQ none o.1 o.2) := by
  intro n
  induction n with
  | zero => intro x1 x2 x3 I L o h; rw [f_J7_fill_53178_52_l5] at h; cases h
  | succ n ih =>
    intro x1 x2 x3 I L o h
    rw [f_J7_fill_53178_52_l5] at h
    refine r_iload_n (i := 2) dJ7_fill_53178_5 rfl rfl ?_
    refine r_iload_n (i := 3) dJ7_fill_53178_6 rfl rfl ?_
    refine r_icmp_ge (tgt := 20) dJ7_fill_53178_7 (by decide) (fun c => ?_) (fun c => ?_)
    · rw [if_pos c] at h
      refine r_vret dJ7_fill_53178_20 ?_
      obtain rfl := Option.some.inj h
      exact ⟨rfl, rfl, rfl⟩
    · rw [if_neg c] at h
      refine r_aload_n (i := 0) dJ7_fill_53178_10 rfl rfl ?_
      refine r_iload_n (i := 2) dJ7_fill_53178_11 rfl rfl ?_
      refine r_iload_n (i := 1) dJ7_fill_53178_12 rfl rfl ?_
      obtain ⟨hb, h⟩ := ck_some h
      refine r_iast rfl (inb_vp hb) dJ7_fill_53178_13 ?_
      replace h := lt_some h
      refine r_iinc (v := _) dJ7_fill_53178_14 rfl rfl (by decide) rfl ?_
      simp only [List.set_cons_zero, List.set_cons_succ]
      replace h := lt_some h
      refine r_goto (tgt := 5) dJ7_fill_53178_17 (by decide) ?_
      exact RR.wk (ih _ _ _ _ _ _ h) (And.intro rfl (And.intro rfl (And.intro rfl (And.intro rfl (trivial)))))
def f_J7_fill_53178_52 (I : mI) (L : mL) (a1 : Int32) : rV := f_J7_fill_53178_52_l5 fuel a1 0 8 I L
theorem ok_J7_fill_53178_52 {d : Nat} (hd : 0 ≤ d) {I : mI} {L : mL} {a1 : Int32} {o : mI × mL} (h : f_J7_fill_53178_52 I L a1 = some o) : RR mJ7_fill_53178 d 0 [some (.ref 52), some (.int a1), none, none] [] I L (retQ none o.1 o.2) := by
  unfold f_J7_fill_53178_52 at h
  refine r_iconst (v := 0) dJ7_fill_53178_0 (by decide) ?_
  refine r_istore_n (i := 2) dJ7_fill_53178_1 rfl (by decide) rfl ?_
  simp only [List.set_cons_zero, List.set_cons_succ]
  refine r_aload_n (i := 0) dJ7_fill_53178_2 rfl rfl ?_
  refine r_alenI (v := 8) rfl (by decide) dJ7_fill_53178_3 ?_
  refine r_istore_n (i := 3) dJ7_fill_53178_4 rfl (by decide) rfl ?_
  simp only [List.set_cons_zero, List.set_cons_succ]
  exact RR.wk (ok_J7_fill_53178_52_l5 hd _ _ _ _ _ _ _ h) (And.intro rfl (And.intro rfl (And.intro rfl (And.intro rfl (trivial)))))
def f_X5_start_48_l16 : Nat → Int32 → Int32 → mI → mL → rV
  | 0, _, _, _, _ => none
  | n + 1, x1, x2, I, L => if (I 48 8) ≤ x2 then (ck (inb x1 8) (if (I 48 9) < (I 51 x1.toNatClampNeg) then (some (I, L)) else (ck (inb x1 8) (lt (uI I 52 x1.toNatClampNeg 0) (fun M4 => some (M4, L)))))) else (ck (inb x2 8) (if (I 48 9) < (I 51 x2.toNatClampNeg) then (lt (x2 + Int32.ofInt 1) (fun v5 => f_X5_start_48_l16 n x1 v5 I L)) else (lt (uI I 48 12 ((I 48 12) ||| ((1 : Int32) <<< (x2 &&& 31)))) (fun M6 => lt (x2 + Int32.ofInt 1) (fun v7 => f_X5_start_48_l16 n x1 v7 M6 L)))))
theorem ok_X5_start_48_l16 {d : Nat} (hd : 1 ≤ d) : ∀ (n : Nat) (x1 : Int32) (x2 : Int32) (I : mI) (L : mL) (o : mI × mL), f_X5_start_48_l16 n x1 x2 I L = some o → RR mX5_start d 16 [some (.ref 48), some (.int x1), some (.int x2)] [] I L (retQ none o.1 o.2) := by
  intro n
  induction n with
  | zero => intro x1 x2 I L o h; rw [f_X5_start_48_l16] at h; cases h
  | succ n ih =>
    intro x1 x2 I L o h
    rw [f_X5_start_48_l16] at h
    refine r_iload_n (i := 2) dX5_start_16 rfl rfl ?_
    refine r_aload_n (i := 0) dX5_start_17 rfl rfl ?_
    refine r_getI f_X5_46 dX5_start_18 rfl rfl ?_
    refine r_icmp_ge (tgt := 55) dX5_start_21 (by decide) (fun c => ?_) (fun c => ?_)
    · rw [if_pos c] at h
      refine r_aload_n (i := 0) dX5_start_55 rfl rfl ?_
      refine r_getR f_X5_18 dX5_start_56 rfl rfl ?_
      refine r_iload_n (i := 1) dX5_start_59 rfl rfl ?_
      obtain ⟨hb, h⟩ := ck_some h
      refine r_iald rfl (inb_vp hb) dX5_start_60 ?_
      refine r_aload_n (i := 0) dX5_start_61 rfl rfl ?_
      refine r_getI f_X5_50 dX5_start_62 rfl rfl ?_
      refine r_icmp_gt (tgt := 75) dX5_start_65 (by decide) (fun c => ?_) (fun c => ?_)
      · rw [if_pos c] at h
        refine r_vret dX5_start_75 ?_
        obtain rfl := Option.some.inj h
        exact ⟨rfl, rfl, rfl⟩
      · rw [if_neg c] at h
        refine r_aload_n (i := 0) dX5_start_68 rfl rfl ?_
        refine r_getR f_X5_21 dX5_start_69 rfl rfl ?_
        refine r_iload_n (i := 1) dX5_start_72 rfl rfl ?_
        refine r_iconst (v := 0) dX5_start_73 (by decide) ?_
        obtain ⟨hb, h⟩ := ck_some h
        refine r_iast rfl (inb_vp hb) dX5_start_74 ?_
        replace h := lt_some h
        refine r_vret dX5_start_75 ?_
        obtain rfl := Option.some.inj h
        exact ⟨rfl, rfl, rfl⟩
    · rw [if_neg c] at h
      refine r_aload_n (i := 0) dX5_start_24 rfl rfl ?_
      refine r_getR f_X5_18 dX5_start_25 rfl rfl ?_
      refine r_iload_n (i := 2) dX5_start_28 rfl rfl ?_
      obtain ⟨hb, h⟩ := ck_some h
      refine r_iald rfl (inb_vp hb) dX5_start_29 ?_
      refine r_aload_n (i := 0) dX5_start_30 rfl rfl ?_
      refine r_getI f_X5_50 dX5_start_31 rfl rfl ?_
      refine r_icmp_gt (tgt := 49) dX5_start_34 (by decide) (fun c => ?_) (fun c => ?_)
      · rw [if_pos c] at h
        refine r_iinc (v := _) dX5_start_49 rfl rfl (by decide) rfl ?_
        simp only [List.set_cons_zero, List.set_cons_succ]
        replace h := lt_some h
        refine r_goto (tgt := 16) dX5_start_52 (by decide) ?_
        exact RR.wk (ih _ _ _ _ _ h) (And.intro rfl (And.intro rfl (And.intro rfl (trivial))))
      · rw [if_neg c] at h
        refine r_aload_n (i := 0) dX5_start_37 rfl rfl ?_
        refine r_dup dX5_start_38 rfl ?_
        refine r_getI f_X5_113 dX5_start_39 rfl rfl ?_
        refine r_iconst (v := 1) dX5_start_42 (by decide) ?_
        refine r_iload_n (i := 2) dX5_start_43 rfl rfl ?_
        refine r_ishl dX5_start_44 ?_
        refine r_ior dX5_start_45 ?_
        refine r_putI f_X5_113 rfl rfl dX5_start_46 rfl rfl ?_
        replace h := lt_some h
        refine r_iinc (v := _) dX5_start_49 rfl rfl (by decide) rfl ?_
        simp only [List.set_cons_zero, List.set_cons_succ]
        replace h := lt_some h
        refine r_goto (tgt := 16) dX5_start_52 (by decide) ?_
        exact RR.wk (ih _ _ _ _ _ h) (And.intro rfl (And.intro rfl (And.intro rfl (trivial))))
def f_X5_start_48 (I : mI) (L : mL) (a1 : Int32) : rV := bndV (f_J7_fill_53178_52 I L 536870912) (fun Ir1 Lr1 => lt (uI Ir1 48 12 0) (fun M3 => f_X5_start_48_l16 fuel a1 0 M3 Lr1))
theorem ok_X5_start_48 {d : Nat} (hd : 1 ≤ d) {I : mI} {L : mL} {a1 : Int32} {o : mI × mL} (h : f_X5_start_48 I L a1 = some o) : RR mX5_start d 0 [some (.ref 48), some (.int a1), none] [] I L (retQ none o.1 o.2) := by
  unfold f_X5_start_48 at h
  refine r_aload_n (i := 0) dX5_start_0 rfl rfl ?_
  refine r_getR f_X5_21 dX5_start_1 rfl rfl ?_
  refine r_ldc n_X5_112 dX5_start_4 ?_
  obtain ⟨⟨Ir1, Lr1⟩, hr, h⟩ := bind_some h
  refine r_S (d' := 0) k_X5_60 dX5_start_6 (by omega) rfl (Nat.le_of_ble_eq_true rfl) (Nat.le_of_ble_eq_true rfl) (ok_J7_fill_53178_52 (Nat.le_refl _) hr) (fun v I' L' hq => ?_)
  obtain ⟨rfl, rfl, rfl⟩ := hq
  simp only [Option.toList_some, Option.toList_none, List.drop_succ_cons, List.drop_zero, List.drop_nil, List.cons_append, List.nil_append]
  dsimp only at h
  refine r_aload_n (i := 0) dX5_start_9 rfl rfl ?_
  refine r_iconst (v := 0) dX5_start_10 (by decide) ?_
  refine r_putI f_X5_113 rfl rfl dX5_start_11 rfl rfl ?_
  replace h := lt_some h
  refine r_iconst (v := 0) dX5_start_14 (by decide) ?_
  refine r_istore_n (i := 2) dX5_start_15 rfl (by decide) rfl ?_
  simp only [List.set_cons_zero, List.set_cons_succ]
  exact RR.wk (ok_X5_start_48_l16 hd _ _ _ _ _ _ h) (And.intro rfl (And.intro rfl (And.intro rfl (trivial))))
def f_X5_nearest_48_l7 (I : mI) (L : mL) : Nat → Int32 → Int32 → Int32 → Option Int32
  | 0, _, _, _ => none
  | n + 1, x1, x2, x3 => if (I 48 8) ≤ x3 then (some x1) else (if (((I 48 12) >>> (x3 &&& 31)) &&& 1) = 0 then (lt (x3 + Int32.ofInt 1) (fun v1 => f_X5_nearest_48_l7 I L n x1 x2 v1)) else (ck (inb x3 8) (if x2 ≤ (I 52 x3.toNatClampNeg) then (lt (x3 + Int32.ofInt 1) (fun v2 => f_X5_nearest_48_l7 I L n x1 x2 v2)) else (ck (inb x3 8) (lt (I 52 x3.toNatClampNeg) (fun v3 => lt (x3 + Int32.ofInt 1) (fun v4 => f_X5_nearest_48_l7 I L n x3 v3 v4)))))))
theorem ok_X5_nearest_48_l7 {d : Nat} (hd : 0 ≤ d){I : mI} {L : mL} : ∀ (n : Nat) (x1 : Int32) (x2 : Int32) (x3 : Int32) (o : Int32), f_X5_nearest_48_l7 I L n x1 x2 x3 = some o → RR mX5_nearest d 7 [some (.ref 48), some (.int x1), some (.int x2), some (.int x3)] [] I L (retQ (some (.int o)) I L) := by
  intro n
  induction n with
  | zero => intro x1 x2 x3 o h; rw [f_X5_nearest_48_l7] at h; cases h
  | succ n ih =>
    intro x1 x2 x3 o h
    rw [f_X5_nearest_48_l7] at h
    refine r_iload_n (i := 3) dX5_nearest_7 rfl rfl ?_
    refine r_aload_n (i := 0) dX5_nearest_8 rfl rfl ?_
    refine r_getI f_X5_46 dX5_nearest_9 rfl rfl ?_
    refine r_icmp_ge (tgt := 51) dX5_nearest_12 (by decide) (fun c => ?_) (fun c => ?_)
    · rw [if_pos c] at h
      refine r_iload_n (i := 1) dX5_nearest_51 rfl rfl ?_
      refine r_iret (by first | rfl | decide) dX5_nearest_52 ?_
      obtain rfl := Option.some.inj h
      exact ⟨rfl, rfl, rfl⟩
    · rw [if_neg c] at h
      refine r_aload_n (i := 0) dX5_nearest_15 rfl rfl ?_
      refine r_getI f_X5_113 dX5_nearest_16 rfl rfl ?_
      refine r_iload_n (i := 3) dX5_nearest_19 rfl rfl ?_
      refine r_ishr dX5_nearest_20 ?_
      refine r_iconst (v := 1) dX5_nearest_21 (by decide) ?_
      refine r_iand dX5_nearest_22 ?_
      refine r_if_eq (tgt := 45) dX5_nearest_23 (by decide) (fun c => ?_) (fun c => ?_)
      · rw [if_pos c] at h
        refine r_iinc (v := _) dX5_nearest_45 rfl rfl (by decide) rfl ?_
        simp only [List.set_cons_zero, List.set_cons_succ]
        replace h := lt_some h
        refine r_goto (tgt := 7) dX5_nearest_48 (by decide) ?_
        exact RR.wk (ih _ _ _ _ h) (And.intro rfl (And.intro rfl (And.intro rfl (And.intro rfl (trivial)))))
      · rw [if_neg c] at h
        refine r_aload_n (i := 0) dX5_nearest_26 rfl rfl ?_
        refine r_getR f_X5_21 dX5_nearest_27 rfl rfl ?_
        refine r_iload_n (i := 3) dX5_nearest_30 rfl rfl ?_
        obtain ⟨hb, h⟩ := ck_some h
        refine r_iald rfl (inb_vp hb) dX5_nearest_31 ?_
        refine r_iload_n (i := 2) dX5_nearest_32 rfl rfl ?_
        refine r_icmp_ge (tgt := 45) dX5_nearest_33 (by decide) (fun c => ?_) (fun c => ?_)
        · rw [if_pos c] at h
          refine r_iinc (v := _) dX5_nearest_45 rfl rfl (by decide) rfl ?_
          simp only [List.set_cons_zero, List.set_cons_succ]
          replace h := lt_some h
          refine r_goto (tgt := 7) dX5_nearest_48 (by decide) ?_
          exact RR.wk (ih _ _ _ _ h) (And.intro rfl (And.intro rfl (And.intro rfl (And.intro rfl (trivial)))))
        · rw [if_neg c] at h
          refine r_iload_n (i := 3) dX5_nearest_36 rfl rfl ?_
          refine r_istore_n (i := 1) dX5_nearest_37 rfl (by decide) rfl ?_
          simp only [List.set_cons_zero, List.set_cons_succ]
          refine r_aload_n (i := 0) dX5_nearest_38 rfl rfl ?_
          refine r_getR f_X5_21 dX5_nearest_39 rfl rfl ?_
          refine r_iload_n (i := 3) dX5_nearest_42 rfl rfl ?_
          obtain ⟨hb, h⟩ := ck_some h
          refine r_iald rfl (inb_vp hb) dX5_nearest_43 ?_
          refine r_istore_n (i := 2) dX5_nearest_44 rfl (by decide) rfl ?_
          simp only [List.set_cons_zero, List.set_cons_succ]
          replace h := lt_some h
          refine r_iinc (v := _) dX5_nearest_45 rfl rfl (by decide) rfl ?_
          simp only [List.set_cons_zero, List.set_cons_succ]
          replace h := lt_some h
          refine r_goto (tgt := 7) dX5_nearest_48 (by decide) ?_
          exact RR.wk (ih _ _ _ _ h) (And.intro rfl (And.intro rfl (And.intro rfl (And.intro rfl (trivial)))))
def f_X5_nearest_48 (I : mI) (L : mL) : Option Int32 := f_X5_nearest_48_l7 I L fuel (-1) 536870912 0
theorem ok_X5_nearest_48 {d : Nat} (hd : 0 ≤ d) {I : mI} {L : mL} {o : Int32} (h : f_X5_nearest_48 I L = some o) : RR mX5_nearest d 0 [some (.ref 48), none, none, none] [] I L (retQ (some (.int o)) I L) := by
  unfold f_X5_nearest_48 at h
  refine r_iconst (v := (-1)) dX5_nearest_0 (by decide) ?_
  refine r_istore_n (i := 1) dX5_nearest_1 rfl (by decide) rfl ?_
  simp only [List.set_cons_zero, List.set_cons_succ]
  refine r_ldc n_X5_112 dX5_nearest_2 ?_
  refine r_istore_n (i := 2) dX5_nearest_4 rfl (by decide) rfl ?_
  simp only [List.set_cons_zero, List.set_cons_succ]
  refine r_iconst (v := 0) dX5_nearest_5 (by decide) ?_
  refine r_istore_n (i := 3) dX5_nearest_6 rfl (by decide) rfl ?_
  simp only [List.set_cons_zero, List.set_cons_succ]
  exact RR.wk (ok_X5_nearest_48_l7 hd _ _ _ _ _ h) (And.intro rfl (And.intro rfl (And.intro rfl (And.intro rfl (trivial)))))
