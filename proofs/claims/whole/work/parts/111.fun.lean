def f_X11_well_67 (I : mI) (L : mL) (a1 : Int32) (a2 : Int32) : Option Int32 := (f_X11_isParish_67 I L a1).bind (fun r1 => if r1 = 0 then (some (-1)) else ((f_X11_in I L (a2.toInt64) 1 999).bind (fun r2 => if r2 = 0 then (some (-1)) else (ck (inb (6 + a1) 135) (lt (I 68 (6 + a1).toNatClampNeg) (fun v3 => if v3 = 2 then (some (-4)) else ((f_X11_weight_67 I L a1 1).bind (fun r4 => some (a2 * r4)))))))))
theorem ok_X11_well_67 {d : Nat} (hd : 2 ≤ d) {I : mI} {L : mL} {a1 : Int32} {a2 : Int32} {o : Int32} (h : f_X11_well_67 I L a1 a2 = some o) : RR mX11_well d 0 [some (.ref 67), some (.int a1), some (.int a2), none] [] I L (retQ (some (.int o)) I L) := by
  unfold f_X11_well_67 at h
  refine r_aload_n (i := 0) dX11_well_0 rfl rfl ?_
  refine r_iload_n (i := 1) dX11_well_1 rfl rfl ?_
  obtain ⟨r1, hr, h⟩ := bind_some h
  refine r_V (d' := 1) k_X11_68 dX11_well_2 (by omega) rfl rfl rfl (Nat.le_of_ble_eq_true rfl) (Nat.le_of_ble_eq_true rfl) (ok_X11_isParish_67 (Nat.le_refl _) hr) (fun v I' L' hq => ?_)
  obtain ⟨rfl, rfl, rfl⟩ := hq
  simp only [Option.toList_some, Option.toList_none, List.drop_succ_cons, List.drop_zero, List.drop_nil, List.cons_append, List.nil_append]
  refine r_if_eq (tgt := 20) dX11_well_5 (by decide) (fun c => ?_) (fun c => ?_)
  · rw [if_pos c] at h
    refine r_iconst (v := (-1)) dX11_well_20 (by decide) ?_
    refine r_iret (by first | rfl | decide) dX11_well_21 ?_
    obtain rfl := Option.some.inj h
    exact ⟨rfl, rfl, rfl⟩
  · rw [if_neg c] at h
    refine r_iload_n (i := 2) dX11_well_8 rfl rfl ?_
    refine r_i2l dX11_well_9 ?_
    refine r_lconst (v := 1) dX11_well_10 (by decide) ?_
    refine r_ldc2 n_X11_81 dX11_well_11 ?_
    obtain ⟨r2, hr, h⟩ := bind_some h
    refine r_S (d' := 0) k_X11_50 dX11_well_14 (by omega) rfl (Nat.le_of_ble_eq_true rfl) (Nat.le_of_ble_eq_true rfl) (ok_X11_in (Nat.le_refl _) hr) (fun v I' L' hq => ?_)
    obtain ⟨rfl, rfl, rfl⟩ := hq
    simp only [Option.toList_some, Option.toList_none, List.drop_succ_cons, List.drop_zero, List.drop_nil, List.cons_append, List.nil_append]
    refine r_if_ne (tgt := 22) dX11_well_17 (by decide) (fun c => ?_) (fun c => ?_)
    · rw [if_neg c] at h
      refine r_aload_n (i := 0) dX11_well_22 rfl rfl ?_
      refine r_getR f_X11_7 dX11_well_23 rfl rfl ?_
      refine r_bipush (v := 6) dX11_well_26 (by decide) ?_
      refine r_iload_n (i := 1) dX11_well_28 rfl rfl ?_
      refine r_iadd dX11_well_29 ?_
      obtain ⟨hb, h⟩ := ck_some h
      refine r_iald rfl (inb_vp hb) dX11_well_30 ?_
      refine r_istore_n (i := 3) dX11_well_31 rfl (by decide) rfl ?_
      simp only [List.set_cons_zero, List.set_cons_succ]
      replace h := lt_some h
      refine r_iload_n (i := 3) dX11_well_32 rfl rfl ?_
      refine r_iconst (v := 2) dX11_well_33 (by decide) ?_
      refine r_icmp_ne (tgt := 42) dX11_well_34 (by decide) (fun c => ?_) (fun c => ?_)
      · rw [if_neg c] at h
        refine r_iload_n (i := 2) dX11_well_42 rfl rfl ?_
        refine r_aload_n (i := 0) dX11_well_43 rfl rfl ?_
        refine r_iload_n (i := 1) dX11_well_44 rfl rfl ?_
        refine r_iconst (v := 1) dX11_well_45 (by decide) ?_
        obtain ⟨r4, hr, h⟩ := bind_some h
        refine r_V (d' := 1) k_X11_88 dX11_well_46 (by omega) rfl rfl rfl (Nat.le_of_ble_eq_true rfl) (Nat.le_of_ble_eq_true rfl) (ok_X11_weight_67 (Nat.le_refl _) hr) (fun v I' L' hq => ?_)
        obtain ⟨rfl, rfl, rfl⟩ := hq
        simp only [Option.toList_some, Option.toList_none, List.drop_succ_cons, List.drop_zero, List.drop_nil, List.cons_append, List.nil_append]
        refine r_imul dX11_well_49 ?_
        refine r_iret (by first | rfl | decide) dX11_well_50 ?_
        obtain rfl := Option.some.inj h
        exact ⟨rfl, rfl, rfl⟩
      · rw [if_pos c] at h
        refine r_bipush (v := (-4)) dX11_well_37 (by decide) ?_
        refine r_goto (tgt := 50) dX11_well_39 (by decide) ?_
        refine r_iret (by first | rfl | decide) dX11_well_50 ?_
        obtain rfl := Option.some.inj h
        exact ⟨rfl, rfl, rfl⟩
    · rw [if_pos c] at h
      refine r_iconst (v := (-1)) dX11_well_20 (by decide) ?_
      refine r_iret (by first | rfl | decide) dX11_well_21 ?_
      obtain rfl := Option.some.inj h
      exact ⟨rfl, rfl, rfl⟩
def f_X11_image_67_l2 : Nat → Int32 → mI → mL → rI
  | 0, _, _, _ => none
  | n + 1, x1, I, L => if 135 ≤ x1 then (lt (uI I 67 2 1) (fun M1 => some (1, M1, L))) else (ck (inb x1 135) (ck (inb x1 135) (lt (uI I 69 x1.toNatClampNeg (I 68 x1.toNatClampNeg)) (fun M2 => lt (x1 + Int32.ofInt 1) (fun v3 => f_X11_image_67_l2 n v3 M2 L)))))
theorem ok_X11_image_67_l2 {d : Nat} (hd : 0 ≤ d) : ∀ (n : Nat) (x1 : Int32) (I : mI) (L : mL) (o : Int32 × mI × mL), f_X11_image_67_l2 n x1 I L = some o → RR mX11_image d 2 [some (.ref 67), some (.int x1)] [] I L (retQ (some (.int o.1)) o.2.1 o.2.2) := by
  intro n
  induction n with
  | zero => intro x1 I L o h; rw [f_X11_image_67_l2] at h; cases h
  | succ n ih =>
    intro x1 I L o h
    rw [f_X11_image_67_l2] at h
    refine r_iload_n (i := 1) dX11_image_2 rfl rfl ?_
    refine r_sipush (v := 135) dX11_image_3 (by decide) ?_
    refine r_icmp_ge (tgt := 27) dX11_image_6 (by decide) (fun c => ?_) (fun c => ?_)
    · rw [if_pos c] at h
      refine r_aload_n (i := 0) dX11_image_27 rfl rfl ?_
      refine r_iconst (v := 1) dX11_image_28 (by decide) ?_
      refine r_putI f_X11_216 rfl rfl dX11_image_29 rfl rfl ?_
      replace h := lt_some h
      refine r_iconst (v := 1) dX11_image_32 (by decide) ?_
      refine r_iret (by first | rfl | decide) dX11_image_33 ?_
      obtain rfl := Option.some.inj h
      exact ⟨rfl, rfl, rfl⟩
    · rw [if_neg c] at h
      refine r_aload_n (i := 0) dX11_image_9 rfl rfl ?_
      refine r_getR f_X11_13 dX11_image_10 rfl rfl ?_
      refine r_iload_n (i := 1) dX11_image_13 rfl rfl ?_
      refine r_aload_n (i := 0) dX11_image_14 rfl rfl ?_
      refine r_getR f_X11_7 dX11_image_15 rfl rfl ?_
      refine r_iload_n (i := 1) dX11_image_18 rfl rfl ?_
      obtain ⟨hb, h⟩ := ck_some h
      refine r_iald rfl (inb_vp hb) dX11_image_19 ?_
      obtain ⟨hb, h⟩ := ck_some h
      refine r_iast rfl (inb_vp hb) dX11_image_20 ?_
      replace h := lt_some h
      refine r_iinc (v := _) dX11_image_21 rfl rfl (by decide) rfl ?_
      simp only [List.set_cons_zero, List.set_cons_succ]
      replace h := lt_some h
      refine r_goto (tgt := 2) dX11_image_24 (by decide) ?_
      exact RR.wk (ih _ _ _ _ h) (And.intro rfl (And.intro rfl (trivial)))
def f_X11_image_67 (I : mI) (L : mL) : rI := f_X11_image_67_l2 fuel 0 I L
theorem ok_X11_image_67 {d : Nat} (hd : 0 ≤ d) {I : mI} {L : mL} {o : Int32 × mI × mL} (h : f_X11_image_67 I L = some o) : RR mX11_image d 0 [some (.ref 67), none] [] I L (retQ (some (.int o.1)) o.2.1 o.2.2) := by
  unfold f_X11_image_67 at h
  refine r_iconst (v := 0) dX11_image_0 (by decide) ?_
  refine r_istore_n (i := 1) dX11_image_1 rfl (by decide) rfl ?_
  simp only [List.set_cons_zero, List.set_cons_succ]
  exact RR.wk (ok_X11_image_67_l2 hd _ _ _ _ _ h) (And.intro rfl (And.intro rfl (trivial)))
def f_X11_restore_67_l12 : Nat → Int32 → mI → mL → rI
  | 0, _, _, _ => none
  | n + 1, x1, I, L => if 135 ≤ x1 then (some (1, I, L)) else (ck (inb x1 135) (ck (inb x1 135) (lt (uI I 68 x1.toNatClampNeg (I 69 x1.toNatClampNeg)) (fun M1 => lt (x1 + Int32.ofInt 1) (fun v2 => f_X11_restore_67_l12 n v2 M1 L)))))
theorem ok_X11_restore_67_l12 {d : Nat} (hd : 0 ≤ d) : ∀ (n : Nat) (x1 : Int32) (I : mI) (L : mL) (o : Int32 × mI × mL), f_X11_restore_67_l12 n x1 I L = some o → RR mX11_restore d 12 [some (.ref 67), some (.int x1)] [] I L (retQ (some (.int o.1)) o.2.1 o.2.2) := by
  intro n
  induction n with
  | zero => intro x1 I L o h; rw [f_X11_restore_67_l12] at h; cases h
  | succ n ih =>
    intro x1 I L o h
    rw [f_X11_restore_67_l12] at h
    refine r_iload_n (i := 1) dX11_restore_12 rfl rfl ?_
    refine r_sipush (v := 135) dX11_restore_13 (by decide) ?_
    refine r_icmp_ge (tgt := 37) dX11_restore_16 (by decide) (fun c => ?_) (fun c => ?_)
    · rw [if_pos c] at h
      refine r_iconst (v := 1) dX11_restore_37 (by decide) ?_
      refine r_iret (by first | rfl | decide) dX11_restore_38 ?_
      obtain rfl := Option.some.inj h
      exact ⟨rfl, rfl, rfl⟩
    · rw [if_neg c] at h
      refine r_aload_n (i := 0) dX11_restore_19 rfl rfl ?_
      refine r_getR f_X11_7 dX11_restore_20 rfl rfl ?_
      refine r_iload_n (i := 1) dX11_restore_23 rfl rfl ?_
      refine r_aload_n (i := 0) dX11_restore_24 rfl rfl ?_
      refine r_getR f_X11_13 dX11_restore_25 rfl rfl ?_
      refine r_iload_n (i := 1) dX11_restore_28 rfl rfl ?_
      obtain ⟨hb, h⟩ := ck_some h
      refine r_iald rfl (inb_vp hb) dX11_restore_29 ?_
      obtain ⟨hb, h⟩ := ck_some h
      refine r_iast rfl (inb_vp hb) dX11_restore_30 ?_
      replace h := lt_some h
      refine r_iinc (v := _) dX11_restore_31 rfl rfl (by decide) rfl ?_
      simp only [List.set_cons_zero, List.set_cons_succ]
      replace h := lt_some h
      refine r_goto (tgt := 12) dX11_restore_34 (by decide) ?_
      exact RR.wk (ih _ _ _ _ h) (And.intro rfl (And.intro rfl (trivial)))
def f_X11_restore_67 (I : mI) (L : mL) : rI := if (I 67 2) = 0 then (some ((-4), I, L)) else (f_X11_restore_67_l12 fuel 0 I L)
theorem ok_X11_restore_67 {d : Nat} (hd : 0 ≤ d) {I : mI} {L : mL} {o : Int32 × mI × mL} (h : f_X11_restore_67 I L = some o) : RR mX11_restore d 0 [some (.ref 67), none] [] I L (retQ (some (.int o.1)) o.2.1 o.2.2) := by
  unfold f_X11_restore_67 at h
  refine r_aload_n (i := 0) dX11_restore_0 rfl rfl ?_
  refine r_getI f_X11_216 dX11_restore_1 rfl rfl ?_
  refine r_if_ne (tgt := 10) dX11_restore_4 (by decide) (fun c => ?_) (fun c => ?_)
  · rw [if_neg c] at h
    refine r_iconst (v := 0) dX11_restore_10 (by decide) ?_
    refine r_istore_n (i := 1) dX11_restore_11 rfl (by decide) rfl ?_
    simp only [List.set_cons_zero, List.set_cons_succ]
    exact RR.wk (ok_X11_restore_67_l12 hd _ _ _ _ _ h) (And.intro rfl (And.intro rfl (trivial)))
  · rw [if_pos c] at h
    refine r_bipush (v := (-4)) dX11_restore_7 (by decide) ?_
    refine r_iret (by first | rfl | decide) dX11_restore_9 ?_
    obtain rfl := Option.some.inj h
    exact ⟨rfl, rfl, rfl⟩
def f_X11_isSheet (I : mI) (L : mL) (a0 : Int32) : Option Int32 := (f_X11_in I L (a0.toInt64) 0 3).bind (fun r1 => ck (isb r1) (some r1))
theorem ok_X11_isSheet {d : Nat} (hd : 1 ≤ d) {I : mI} {L : mL} {a0 : Int32} {o : Int32} (h : f_X11_isSheet I L a0 = some o) : RR mX11_isSheet d 0 [some (.int a0)] [] I L (retQ (some (.int o)) I L) := by
  unfold f_X11_isSheet at h
  refine r_iload_n (i := 0) dX11_isSheet_0 rfl rfl ?_
  refine r_i2l dX11_isSheet_1 ?_
  refine r_lconst (v := 0) dX11_isSheet_2 (by decide) ?_
  refine r_ldc2 n_X11_62 dX11_isSheet_3 ?_
  obtain ⟨r1, hr, h⟩ := bind_some h
  refine r_S (d' := 0) k_X11_50 dX11_isSheet_6 (by omega) rfl (Nat.le_of_ble_eq_true rfl) (Nat.le_of_ble_eq_true rfl) (ok_X11_in (Nat.le_refl _) hr) (fun v I' L' hq => ?_)
  obtain ⟨rfl, rfl, rfl⟩ := hq
  simp only [Option.toList_some, Option.toList_none, List.drop_succ_cons, List.drop_zero, List.drop_nil, List.cons_append, List.nil_append]
  obtain ⟨hb, h⟩ := ck_some h
  refine r_iret (isb_nar hb) dX11_isSheet_9 ?_
  obtain rfl := Option.some.inj h
  exact ⟨rfl, rfl, rfl⟩
def f_X11_isLane (I : mI) (L : mL) (a0 : Int32) : Option Int32 := (f_X11_in I L (a0.toInt64) 0 2).bind (fun r1 => ck (isb r1) (some r1))
theorem ok_X11_isLane {d : Nat} (hd : 1 ≤ d) {I : mI} {L : mL} {a0 : Int32} {o : Int32} (h : f_X11_isLane I L a0 = some o) : RR mX11_isLane d 0 [some (.int a0)] [] I L (retQ (some (.int o)) I L) := by
  unfold f_X11_isLane at h
  refine r_iload_n (i := 0) dX11_isLane_0 rfl rfl ?_
  refine r_i2l dX11_isLane_1 ?_
  refine r_lconst (v := 0) dX11_isLane_2 (by decide) ?_
  refine r_ldc2 n_X11_93 dX11_isLane_3 ?_
  obtain ⟨r1, hr, h⟩ := bind_some h
  refine r_S (d' := 0) k_X11_50 dX11_isLane_6 (by omega) rfl (Nat.le_of_ble_eq_true rfl) (Nat.le_of_ble_eq_true rfl) (ok_X11_in (Nat.le_refl _) hr) (fun v I' L' hq => ?_)
  obtain ⟨rfl, rfl, rfl⟩ := hq
  simp only [Option.toList_some, Option.toList_none, List.drop_succ_cons, List.drop_zero, List.drop_nil, List.cons_append, List.nil_append]
  obtain ⟨hb, h⟩ := ck_some h
  refine r_iret (isb_nar hb) dX11_isLane_9 ?_
  obtain rfl := Option.some.inj h
  exact ⟨rfl, rfl, rfl⟩
def f_X11_finds_67 (I : mI) (L : mL) (a1 : Int32) (a2 : Int32) (a3 : Int32) (a4 : Int32) : Option Int32 := ck (inb a1 4) (if 0 ≤ (I 72 a1.toNatClampNeg) then (ck (inb a1 4) (if (I 71 a1.toNatClampNeg) = a2 then (if a3 < 0 then (some (-13)) else (if a4 < 0 then (some (-13)) else (ck (inb a1 4) (if (lg_cmp ((a3.toInt64) + (a4.toInt64)) ((I 72 a1.toNatClampNeg).toInt64)) ≤ 0 then (some 0) else (some (-13)))))) else (some (-12)))) else (some (-11)))
theorem ok_X11_finds_67 {d : Nat} (hd : 0 ≤ d) {I : mI} {L : mL} {a1 : Int32} {a2 : Int32} {a3 : Int32} {a4 : Int32} {o : Int32} (h : f_X11_finds_67 I L a1 a2 a3 a4 = some o) : RR mX11_finds d 0 [some (.ref 67), some (.int a1), some (.int a2), some (.int a3), some (.int a4)] [] I L (retQ (some (.int o)) I L) := by
  unfold f_X11_finds_67 at h
  refine r_aload_n (i := 0) dX11_finds_0 rfl rfl ?_
  refine r_getR f_X11_22 dX11_finds_1 rfl rfl ?_
  refine r_iload_n (i := 1) dX11_finds_4 rfl rfl ?_
  obtain ⟨hb, h⟩ := ck_some h
  refine r_iald rfl (inb_vp hb) dX11_finds_5 ?_
  refine r_if_ge (tgt := 14) dX11_finds_6 (by decide) (fun c => ?_) (fun c => ?_)
  · rw [if_pos c] at h
    refine r_aload_n (i := 0) dX11_finds_14 rfl rfl ?_
    refine r_getR f_X11_19 dX11_finds_15 rfl rfl ?_
    refine r_iload_n (i := 1) dX11_finds_18 rfl rfl ?_
    obtain ⟨hb, h⟩ := ck_some h
    refine r_iald rfl (inb_vp hb) dX11_finds_19 ?_
    refine r_iload_n (i := 2) dX11_finds_20 rfl rfl ?_
    refine r_icmp_eq (tgt := 29) dX11_finds_21 (by decide) (fun c => ?_) (fun c => ?_)
    · rw [if_pos c] at h
      refine r_iload_n (i := 3) dX11_finds_29 rfl rfl ?_
      refine r_if_lt (tgt := 55) dX11_finds_30 (by decide) (fun c => ?_) (fun c => ?_)
      · rw [if_pos c] at h
        refine r_bipush (v := (-13)) dX11_finds_55 (by decide) ?_
        refine r_goto (tgt := 61) dX11_finds_57 (by decide) ?_
        refine r_iret (by first | rfl | decide) dX11_finds_61 ?_
        obtain rfl := Option.some.inj h
        exact ⟨rfl, rfl, rfl⟩
      · rw [if_neg c] at h
        refine r_iload dX11_finds_33 rfl ?_
        refine r_if_lt (tgt := 55) dX11_finds_35 (by decide) (fun c => ?_) (fun c => ?_)
        · rw [if_pos c] at h
          refine r_bipush (v := (-13)) dX11_finds_55 (by decide) ?_
          refine r_goto (tgt := 61) dX11_finds_57 (by decide) ?_
          refine r_iret (by first | rfl | decide) dX11_finds_61 ?_
          obtain rfl := Option.some.inj h
          exact ⟨rfl, rfl, rfl⟩
        · rw [if_neg c] at h
          refine r_iload_n (i := 3) dX11_finds_38 rfl rfl ?_
          refine r_i2l dX11_finds_39 ?_
          refine r_iload dX11_finds_40 rfl ?_
          refine r_i2l dX11_finds_42 ?_
          refine r_ladd dX11_finds_43 ?_
          refine r_aload_n (i := 0) dX11_finds_44 rfl rfl ?_
          refine r_getR f_X11_22 dX11_finds_45 rfl rfl ?_
          refine r_iload_n (i := 1) dX11_finds_48 rfl rfl ?_
          obtain ⟨hb, h⟩ := ck_some h
          refine r_iald rfl (inb_vp hb) dX11_finds_49 ?_
          refine r_i2l dX11_finds_50 ?_
          refine r_lcmp dX11_finds_51 ?_
          refine r_if_le (tgt := 60) dX11_finds_52 (by decide) (fun c => ?_) (fun c => ?_)
          · rw [if_pos c] at h
            refine r_iconst (v := 0) dX11_finds_60 (by decide) ?_
            refine r_iret (by first | rfl | decide) dX11_finds_61 ?_
            obtain rfl := Option.some.inj h
            exact ⟨rfl, rfl, rfl⟩
          · rw [if_neg c] at h
            refine r_bipush (v := (-13)) dX11_finds_55 (by decide) ?_
            refine r_goto (tgt := 61) dX11_finds_57 (by decide) ?_
            refine r_iret (by first | rfl | decide) dX11_finds_61 ?_
            obtain rfl := Option.some.inj h
            exact ⟨rfl, rfl, rfl⟩
    · rw [if_neg c] at h
      refine r_bipush (v := (-12)) dX11_finds_24 (by decide) ?_
      refine r_goto (tgt := 61) dX11_finds_26 (by decide) ?_
      refine r_iret (by first | rfl | decide) dX11_finds_61 ?_
      obtain rfl := Option.some.inj h
      exact ⟨rfl, rfl, rfl⟩
  · rw [if_neg c] at h
    refine r_bipush (v := (-11)) dX11_finds_9 (by decide) ?_
    refine r_goto (tgt := 61) dX11_finds_11 (by decide) ?_
    refine r_iret (by first | rfl | decide) dX11_finds_61 ?_
    obtain rfl := Option.some.inj h
    exact ⟨rfl, rfl, rfl⟩
def f_X11_evens_67_b101 (I : mI) (L : mL) (k3 : Int32 → Int32 → Int32 → Int32 → Option Int32) (k13 : Int32 → Int32 → Int32 → Int32 → Int32 → Option Int32) (k24 : Int32 → Int32 → Int32 → Int32 → Int32 → Int32 → Option Int32) (x1 : Int32) (x2 : Int32) (x3 : Int32) (x4 : Int32) (x5 : Int32) (x6 : Int32) (s0 : Int32) : Option Int32 := if s0 = 0 then (lt (x6 + Int32.ofInt 1) (fun v5 => k24 x1 x2 x3 x4 x5 v5)) else (some x4)
theorem ok_X11_evens_67_b101 {d : Nat} (hd : 1 ≤ d){I : mI} {L : mL} {k3 : Int32 → Int32 → Int32 → Int32 → Option Int32} {k13 : Int32 → Int32 → Int32 → Int32 → Int32 → Option Int32} {k24 : Int32 → Int32 → Int32 → Int32 → Int32 → Int32 → Option Int32} (hk3 : ∀ (x1 : Int32) (x2 : Int32) (x3 : Int32) (x4 : Int32) (o : Int32), k3 x1 x2 x3 x4 = some o → RR mX11_evens d 3 [none, some (.int x1), some (.int x2), some (.int x3), some (.int x4), none, none, none, none, none] [] I L (retQ (some (.int o)) I L)) (hk13 : ∀ (x1 : Int32) (x2 : Int32) (x3 : Int32) (x4 : Int32) (x5 : Int32) (o : Int32), k13 x1 x2 x3 x4 x5 = some o → RR mX11_evens d 13 [none, some (.int x1), some (.int x2), some (.int x3), some (.int x4), some (.int x5), none, none, none, none] [] I L (retQ (some (.int o)) I L)) (hk24 : ∀ (x1 : Int32) (x2 : Int32) (x3 : Int32) (x4 : Int32) (x5 : Int32) (x6 : Int32) (o : Int32), k24 x1 x2 x3 x4 x5 x6 = some o → RR mX11_evens d 24 [none, some (.int x1), some (.int x2), some (.int x3), some (.int x4), some (.int x5), some (.int x6), none, none, none] [] I L (retQ (some (.int o)) I L)) (x1 : Int32) (x2 : Int32) (x3 : Int32) (x4 : Int32) (x5 : Int32) (x6 : Int32) (s0 : Int32) {o : Int32} (h : f_X11_evens_67_b101 I L k3 k13 k24 x1 x2 x3 x4 x5 x6 s0 = some o) : RR mX11_evens d 101 [none, some (.int x1), some (.int x2), some (.int x3), some (.int x4), some (.int x5), some (.int x6), none, none, none] [.int s0] I L (retQ (some (.int o)) I L) := by
  unfold f_X11_evens_67_b101 at h
  refine r_istore dX11_evens_101 (by decide) rfl ?_
  simp only [List.set_cons_zero, List.set_cons_succ]
  refine r_iload dX11_evens_103 rfl ?_
  refine r_if_eq (tgt := 111) dX11_evens_105 (by decide) (fun c => ?_) (fun c => ?_)
  · rw [if_pos c] at h
    refine r_iinc (v := _) dX11_evens_111 rfl rfl (by decide) rfl ?_
    simp only [List.set_cons_zero, List.set_cons_succ]
    replace h := lt_some h
    refine r_goto (tgt := 24) dX11_evens_114 (by decide) ?_
    exact RR.wk (hk24 _ _ _ _ _ _ _ h) (And.intro rfl (And.intro rfl (And.intro rfl (And.intro rfl (And.intro rfl (And.intro rfl (trivial)))))))
  · rw [if_neg c] at h
    refine r_iload dX11_evens_108 rfl ?_
    refine r_iret (by first | rfl | decide) dX11_evens_110 ?_
    obtain rfl := Option.some.inj h
    exact ⟨rfl, rfl, rfl⟩
def f_X11_evens_67_b100 (I : mI) (L : mL) (k3 : Int32 → Int32 → Int32 → Int32 → Option Int32) (k13 : Int32 → Int32 → Int32 → Int32 → Int32 → Option Int32) (k24 : Int32 → Int32 → Int32 → Int32 → Int32 → Int32 → Option Int32) (x1 : Int32) (x2 : Int32) (x3 : Int32) (x4 : Int32) (x5 : Int32) (x6 : Int32) : Option Int32 := f_X11_evens_67_b101 I L k3 k13 k24 x1 x2 x3 x4 x5 x6 0
theorem ok_X11_evens_67_b100 {d : Nat} (hd : 1 ≤ d){I : mI} {L : mL} {k3 : Int32 → Int32 → Int32 → Int32 → Option Int32} {k13 : Int32 → Int32 → Int32 → Int32 → Int32 → Option Int32} {k24 : Int32 → Int32 → Int32 → Int32 → Int32 → Int32 → Option Int32} (hk3 : ∀ (x1 : Int32) (x2 : Int32) (x3 : Int32) (x4 : Int32) (o : Int32), k3 x1 x2 x3 x4 = some o → RR mX11_evens d 3 [none, some (.int x1), some (.int x2), some (.int x3), some (.int x4), none, none, none, none, none] [] I L (retQ (some (.int o)) I L)) (hk13 : ∀ (x1 : Int32) (x2 : Int32) (x3 : Int32) (x4 : Int32) (x5 : Int32) (o : Int32), k13 x1 x2 x3 x4 x5 = some o → RR mX11_evens d 13 [none, some (.int x1), some (.int x2), some (.int x3), some (.int x4), some (.int x5), none, none, none, none] [] I L (retQ (some (.int o)) I L)) (hk24 : ∀ (x1 : Int32) (x2 : Int32) (x3 : Int32) (x4 : Int32) (x5 : Int32) (x6 : Int32) (o : Int32), k24 x1 x2 x3 x4 x5 x6 = some o → RR mX11_evens d 24 [none, some (.int x1), some (.int x2), some (.int x3), some (.int x4), some (.int x5), some (.int x6), none, none, none] [] I L (retQ (some (.int o)) I L)) (x1 : Int32) (x2 : Int32) (x3 : Int32) (x4 : Int32) (x5 : Int32) (x6 : Int32) {o : Int32} (h : f_X11_evens_67_b100 I L k3 k13 k24 x1 x2 x3 x4 x5 x6 = some o) : RR mX11_evens d 100 [none, some (.int x1), some (.int x2), some (.int x3), some (.int x4), some (.int x5), some (.int x6), none, none, none] [] I L (retQ (some (.int o)) I L) := by
  unfold f_X11_evens_67_b100 at h
  refine r_iconst (v := 0) dX11_evens_100 (by decide) ?_
  exact RR.wk (ok_X11_evens_67_b101 hd hk3 hk13 hk24 _ _ _ _ _ _ _ h) (And.intro rfl (And.intro rfl (And.intro rfl (And.intro rfl (And.intro rfl (And.intro rfl (trivial)))))))
def f_X11_evens_67_l24 (I : mI) (L : mL) (k3 : Int32 → Int32 → Int32 → Int32 → Option Int32) (k13 : Int32 → Int32 → Int32 → Int32 → Int32 → Option Int32) : Nat → Int32 → Int32 → Int32 → Int32 → Int32 → Int32 → Option Int32
  | 0, _, _, _, _, _, _ => none
  | n + 1, x1, x2, x3, x4, x5, x6 => if (6 * x5) < x6 then (lt (x5 + Int32.ofInt 1) (fun v2 => k13 x1 x2 x3 x4 v2)) else (lt (x1 + (x3 * x6)) (fun v3 => lt (6 * (x4 - x5)) (fun v4 => if x2 = 0 then (if v3 = 0 then (f_X11_evens_67_b101 I L k3 k13 (f_X11_evens_67_l24 I L k3 k13 n) x1 x2 x3 x4 x5 x6 1) else (f_X11_evens_67_b101 I L k3 k13 (f_X11_evens_67_l24 I L k3 k13 n) x1 x2 x3 x4 x5 x6 0)) else (ck (nz x2) (if (v3 - v3 / x2 * x2) = 0 then (ck (nz x2) ((f_X11_in I L ((v3 / x2).toInt64) ((x4 - x5).toInt64) (v4.toInt64)).bind (fun r6 => if r6 = 0 then (f_X11_evens_67_b100 I L k3 k13 (f_X11_evens_67_l24 I L k3 k13 n) x1 x2 x3 x4 x5 x6) else (f_X11_evens_67_b101 I L k3 k13 (f_X11_evens_67_l24 I L k3 k13 n) x1 x2 x3 x4 x5 x6 1)))) else (f_X11_evens_67_b100 I L k3 k13 (f_X11_evens_67_l24 I L k3 k13 n) x1 x2 x3 x4 x5 x6))))))
theorem ok_X11_evens_67_l24 {d : Nat} (hd : 1 ≤ d){I : mI} {L : mL} {k3 : Int32 → Int32 → Int32 → Int32 → Option Int32} {k13 : Int32 → Int32 → Int32 → Int32 → Int32 → Option Int32} (hk3 : ∀ (x1 : Int32) (x2 : Int32) (x3 : Int32) (x4 : Int32) (o : Int32), k3 x1 x2 x3 x4 = some o → RR mX11_evens d 3 [none, some (.int x1), some (.int x2), some (.int x3), some (.int x4), none, none, none, none, none] [] I L (retQ (some (.int o)) I L)) (hk13 : ∀ (x1 : Int32) (x2 : Int32) (x3 : Int32) (x4 : Int32) (x5 : Int32) (o : Int32), k13 x1 x2 x3 x4 x5 = some o → RR mX11_evens d 13 [none, some (.int x1), some (.int x2), some (.int x3), some (.int x4), some (.int x5), none, none, none, none] [] I L (retQ (some (.int o)) I L)) : ∀ (n : Nat) (x1 : Int32) (x2 : Int32) (x3 : Int32) (x4 : Int32) (x5 : Int32) (x6 : Int32) (o : Int32), f_X11_evens_67_l24 I L k3 k13 n x1 x2 x3 x4 x5 x6 = some o → RR mX11_evens d 24 [none, some (.int x1), some (.int x2), some (.int x3), some (.int x4), some (.int x5), some (.int x6), none, none, none] [] I L (retQ (some (.int o)) I L) := by
  intro n
  induction n with
  | zero => intro x1 x2 x3 x4 x5 x6 o h; rw [f_X11_evens_67_l24] at h; cases h
  | succ n ih =>
    intro x1 x2 x3 x4 x5 x6 o h
    rw [f_X11_evens_67_l24] at h
    refine r_iload dX11_evens_24 rfl ?_
    refine r_bipush (v := 6) dX11_evens_26 (by decide) ?_
    refine r_iload dX11_evens_28 rfl ?_
    refine r_imul dX11_evens_30 ?_
    refine r_icmp_gt (tgt := 117) dX11_evens_31 (by decide) (fun c => ?_) (fun c => ?_)
    · rw [if_pos c] at h
      refine r_iinc (v := _) dX11_evens_117 rfl rfl (by decide) rfl ?_
      simp only [List.set_cons_zero, List.set_cons_succ]
      replace h := lt_some h
      refine r_goto (tgt := 13) dX11_evens_120 (by decide) ?_
      exact RR.wk (hk13 _ _ _ _ _ _ h) (And.intro rfl (And.intro rfl (And.intro rfl (And.intro rfl (And.intro rfl (trivial))))))
    · rw [if_neg c] at h
      refine r_iload_n (i := 1) dX11_evens_34 rfl rfl ?_
      refine r_iload_n (i := 3) dX11_evens_35 rfl rfl ?_
      refine r_iload dX11_evens_36 rfl ?_
      refine r_imul dX11_evens_38 ?_
      refine r_iadd dX11_evens_39 ?_
      refine r_istore dX11_evens_40 (by decide) rfl ?_
      simp only [List.set_cons_zero, List.set_cons_succ]
      replace h := lt_some h
      refine r_bipush (v := 6) dX11_evens_42 (by decide) ?_
      refine r_iload dX11_evens_44 rfl ?_
      refine r_iload dX11_evens_46 rfl ?_
      refine r_isub dX11_evens_48 ?_
      refine r_imul dX11_evens_49 ?_
      refine r_istore dX11_evens_50 (by decide) rfl ?_
      simp only [List.set_cons_zero, List.set_cons_succ]
      replace h := lt_some h
      refine r_iload_n (i := 2) dX11_evens_52 rfl rfl ?_
      refine r_if_ne (tgt := 69) dX11_evens_53 (by decide) (fun c => ?_) (fun c => ?_)
      · rw [if_neg c] at h
        refine r_iload dX11_evens_69 rfl ?_
        refine r_iload_n (i := 2) dX11_evens_71 rfl rfl ?_
        obtain ⟨hb, h⟩ := ck_some h
        refine r_irem dX11_evens_72 (nz_ne hb) ?_
        refine r_if_ne (tgt := 100) dX11_evens_73 (by decide) (fun c => ?_) (fun c => ?_)
        · rw [if_neg c] at h
          exact RR.wk (ok_X11_evens_67_b100 hd hk3 hk13 ih _ _ _ _ _ _ h) (And.intro rfl (And.intro rfl (And.intro rfl (And.intro rfl (And.intro rfl (And.intro rfl (trivial)))))))
        · rw [if_pos c] at h
          refine r_iload dX11_evens_76 rfl ?_
          refine r_iload_n (i := 2) dX11_evens_78 rfl rfl ?_
          obtain ⟨hb, h⟩ := ck_some h
          refine r_idiv dX11_evens_79 (nz_ne hb) ?_
          refine r_i2l dX11_evens_80 ?_
          refine r_iload dX11_evens_81 rfl ?_
          refine r_iload dX11_evens_83 rfl ?_
          refine r_isub dX11_evens_85 ?_
          refine r_i2l dX11_evens_86 ?_
          refine r_iload dX11_evens_87 rfl ?_
          refine r_i2l dX11_evens_89 ?_
          obtain ⟨r6, hr, h⟩ := bind_some h
          refine r_S (d' := 0) k_X11_50 dX11_evens_90 (by omega) rfl (Nat.le_of_ble_eq_true rfl) (Nat.le_of_ble_eq_true rfl) (ok_X11_in (Nat.le_refl _) hr) (fun v I' L' hq => ?_)
          obtain ⟨rfl, rfl, rfl⟩ := hq
          simp only [Option.toList_some, Option.toList_none, List.drop_succ_cons, List.drop_zero, List.drop_nil, List.cons_append, List.nil_append]
          refine r_if_eq (tgt := 100) dX11_evens_93 (by decide) (fun c => ?_) (fun c => ?_)
          · rw [if_pos c] at h
            exact RR.wk (ok_X11_evens_67_b100 hd hk3 hk13 ih _ _ _ _ _ _ h) (And.intro rfl (And.intro rfl (And.intro rfl (And.intro rfl (And.intro rfl (And.intro rfl (trivial)))))))
          · rw [if_neg c] at h
            refine r_iconst (v := 1) dX11_evens_96 (by decide) ?_
            refine r_goto (tgt := 101) dX11_evens_97 (by decide) ?_
            exact RR.wk (ok_X11_evens_67_b101 hd hk3 hk13 ih _ _ _ _ _ _ _ h) (And.intro rfl (And.intro rfl (And.intro rfl (And.intro rfl (And.intro rfl (And.intro rfl (trivial)))))))
      · rw [if_pos c] at h
        refine r_iload dX11_evens_56 rfl ?_
        refine r_if_ne (tgt := 65) dX11_evens_58 (by decide) (fun c => ?_) (fun c => ?_)
        · rw [if_neg c] at h
          refine r_iconst (v := 0) dX11_evens_65 (by decide) ?_
          refine r_goto (tgt := 101) dX11_evens_66 (by decide) ?_
          exact RR.wk (ok_X11_evens_67_b101 hd hk3 hk13 ih _ _ _ _ _ _ _ h) (And.intro rfl (And.intro rfl (And.intro rfl (And.intro rfl (And.intro rfl (And.intro rfl (trivial)))))))
        · rw [if_pos c] at h
          refine r_iconst (v := 1) dX11_evens_61 (by decide) ?_
          refine r_goto (tgt := 101) dX11_evens_62 (by decide) ?_
          exact RR.wk (ok_X11_evens_67_b101 hd hk3 hk13 ih _ _ _ _ _ _ _ h) (And.intro rfl (And.intro rfl (And.intro rfl (And.intro rfl (And.intro rfl (And.intro rfl (trivial)))))))
def f_X11_evens_67_l13 (I : mI) (L : mL) (k3 : Int32 → Int32 → Int32 → Int32 → Option Int32) : Nat → Int32 → Int32 → Int32 → Int32 → Int32 → Option Int32
  | 0, _, _, _, _, _ => none
  | n + 1, x1, x2, x3, x4, x5 => if x4 < x5 then (lt (x4 + Int32.ofInt 1) (fun v1 => k3 x1 x2 x3 v1)) else (f_X11_evens_67_l24 I L k3 (f_X11_evens_67_l13 I L k3 n) fuel x1 x2 x3 x4 x5 x5)
theorem ok_X11_evens_67_l13 {d : Nat} (hd : 1 ≤ d){I : mI} {L : mL} {k3 : Int32 → Int32 → Int32 → Int32 → Option Int32} (hk3 : ∀ (x1 : Int32) (x2 : Int32) (x3 : Int32) (x4 : Int32) (o : Int32), k3 x1 x2 x3 x4 = some o → RR mX11_evens d 3 [none, some (.int x1), some (.int x2), some (.int x3), some (.int x4), none, none, none, none, none] [] I L (retQ (some (.int o)) I L)) : ∀ (n : Nat) (x1 : Int32) (x2 : Int32) (x3 : Int32) (x4 : Int32) (x5 : Int32) (o : Int32), f_X11_evens_67_l13 I L k3 n x1 x2 x3 x4 x5 = some o → RR mX11_evens d 13 [none, some (.int x1), some (.int x2), some (.int x3), some (.int x4), some (.int x5), none, none, none, none] [] I L (retQ (some (.int o)) I L) := by
  intro n
  induction n with
  | zero => intro x1 x2 x3 x4 x5 o h; rw [f_X11_evens_67_l13] at h; cases h
  | succ n ih =>
    intro x1 x2 x3 x4 x5 o h
    rw [f_X11_evens_67_l13] at h
    refine r_iload dX11_evens_13 rfl ?_
    refine r_iload dX11_evens_15 rfl ?_
    refine r_icmp_gt (tgt := 123) dX11_evens_17 (by decide) (fun c => ?_) (fun c => ?_)
    · rw [if_pos c] at h
      refine r_iinc (v := _) dX11_evens_123 rfl rfl (by decide) rfl ?_
      simp only [List.set_cons_zero, List.set_cons_succ]
      replace h := lt_some h
      refine r_goto (tgt := 3) dX11_evens_126 (by decide) ?_
      exact RR.wk (hk3 _ _ _ _ _ h) (And.intro rfl (And.intro rfl (And.intro rfl (And.intro rfl (trivial)))))
    · rw [if_neg c] at h
      refine r_iload dX11_evens_20 rfl ?_
      refine r_istore dX11_evens_22 (by decide) rfl ?_
      simp only [List.set_cons_zero, List.set_cons_succ]
      exact RR.wk (ok_X11_evens_67_l24 hd hk3 ih _ _ _ _ _ _ _ _ h) (And.intro rfl (And.intro rfl (And.intro rfl (And.intro rfl (And.intro rfl (And.intro rfl (trivial)))))))
def f_X11_evens_67_l3 (I : mI) (L : mL) : Nat → Int32 → Int32 → Int32 → Int32 → Option Int32
  | 0, _, _, _, _ => none
  | n + 1, x1, x2, x3, x4 => if 30 < x4 then (some (-4)) else (f_X11_evens_67_l13 I L (f_X11_evens_67_l3 I L n) fuel x1 x2 x3 x4 0)
theorem ok_X11_evens_67_l3 {d : Nat} (hd : 1 ≤ d){I : mI} {L : mL} : ∀ (n : Nat) (x1 : Int32) (x2 : Int32) (x3 : Int32) (x4 : Int32) (o : Int32), f_X11_evens_67_l3 I L n x1 x2 x3 x4 = some o → RR mX11_evens d 3 [none, some (.int x1), some (.int x2), some (.int x3), some (.int x4), none, none, none, none, none] [] I L (retQ (some (.int o)) I L) := by
  intro n
  induction n with
  | zero => intro x1 x2 x3 x4 o h; rw [f_X11_evens_67_l3] at h; cases h
  | succ n ih =>
    intro x1 x2 x3 x4 o h
    rw [f_X11_evens_67_l3] at h
    refine r_iload dX11_evens_3 rfl ?_
    refine r_bipush (v := 30) dX11_evens_5 (by decide) ?_
    refine r_icmp_gt (tgt := 129) dX11_evens_7 (by decide) (fun c => ?_) (fun c => ?_)
    · rw [if_pos c] at h
      refine r_bipush (v := (-4)) dX11_evens_129 (by decide) ?_
      refine r_iret (by first | rfl | decide) dX11_evens_131 ?_
      obtain rfl := Option.some.inj h
      exact ⟨rfl, rfl, rfl⟩
    · rw [if_neg c] at h
      refine r_iconst (v := 0) dX11_evens_10 (by decide) ?_
      refine r_istore dX11_evens_11 (by decide) rfl ?_
      simp only [List.set_cons_zero, List.set_cons_succ]
      exact RR.wk (ok_X11_evens_67_l13 hd ih _ _ _ _ _ _ _ h) (And.intro rfl (And.intro rfl (And.intro rfl (And.intro rfl (And.intro rfl (trivial))))))
def f_X11_evens_67 (I : mI) (L : mL) (a1 : Int32) (a2 : Int32) (a3 : Int32) : Option Int32 := f_X11_evens_67_l3 I L fuel a1 a2 a3 0
theorem ok_X11_evens_67 {d : Nat} (hd : 1 ≤ d) {I : mI} {L : mL} {a1 : Int32} {a2 : Int32} {a3 : Int32} {o : Int32} (h : f_X11_evens_67 I L a1 a2 a3 = some o) : RR mX11_evens d 0 [some (.ref 67), some (.int a1), some (.int a2), some (.int a3), none, none, none, none, none, none] [] I L (retQ (some (.int o)) I L) := by
  unfold f_X11_evens_67 at h
  refine r_iconst (v := 0) dX11_evens_0 (by decide) ?_
  refine r_istore dX11_evens_1 (by decide) rfl ?_
  simp only [List.set_cons_zero, List.set_cons_succ]
  exact RR.wk (ok_X11_evens_67_l3 hd _ _ _ _ _ _ h) (And.intro rfl (And.intro rfl (And.intro rfl (And.intro rfl (trivial)))))
def f_X11_beam_67_b185 (I : mI) (L : mL) (k87 : Int32 → Int32 → Int32 → Int32 → Int32 → Int32 → Int32 → Int32 → Option Int32) (x1 : Int32) (x2 : Int32) (x3 : Int32) (x5 : Int32) (x6 : Int32) (x7 : Int32) (x10 : Int32) (x11 : Int64) (x13 : Int64) (s0 : Int32) (s2 : Int32) : Option Int32 := (f_X11_weight_67 I L s0 (x11.toInt32)).bind (fun r15 => lt (s2 + (r15 * (x13.toInt32))) (fun v16 => lt (x10 + Int32.ofInt 1) (fun v17 => k87 x1 x2 x3 x5 x6 x7 v16 v17)))
theorem ok_X11_beam_67_b185 {d : Nat} (hd : 2 ≤ d){I : mI} {L : mL} {k87 : Int32 → Int32 → Int32 → Int32 → Int32 → Int32 → Int32 → Int32 → Option Int32} (hk87 : ∀ (x1 : Int32) (x2 : Int32) (x3 : Int32) (x5 : Int32) (x6 : Int32) (x7 : Int32) (x9 : Int32) (x10 : Int32) (o : Int32), k87 x1 x2 x3 x5 x6 x7 x9 x10 = some o → RR mX11_beam d 87 [some (.ref 67), some (.int x1), some (.int x2), some (.int x3), none, some (.int x5), some (.int x6), some (.int x7), none, some (.int x9), some (.int x10), none, none, none, none] [] I L (retQ (some (.int o)) I L)) (x1 : Int32) (x2 : Int32) (x3 : Int32) (x5 : Int32) (x6 : Int32) (x7 : Int32) (x10 : Int32) (x11 : Int64) (x13 : Int64) (s0 : Int32) (s2 : Int32) {o : Int32} (h : f_X11_beam_67_b185 I L k87 x1 x2 x3 x5 x6 x7 x10 x11 x13 s0 s2 = some o) : RR mX11_beam d 185 [some (.ref 67), some (.int x1), some (.int x2), some (.int x3), none, some (.int x5), some (.int x6), some (.int x7), none, none, some (.int x10), some (.long x11), none, some (.long x13), none] [.int s0, .ref 67, .int s2] I L (retQ (some (.int o)) I L) := by
  unfold f_X11_beam_67_b185 at h
  refine r_lload dX11_beam_185 rfl ?_
  refine r_l2i dX11_beam_187 ?_
  obtain ⟨r15, hr, h⟩ := bind_some h
  refine r_V (d' := 1) k_X11_88 dX11_beam_188 (by omega) rfl rfl rfl (Nat.le_of_ble_eq_true rfl) (Nat.le_of_ble_eq_true rfl) (ok_X11_weight_67 (Nat.le_refl _) hr) (fun v I' L' hq => ?_)
  obtain ⟨rfl, rfl, rfl⟩ := hq
  simp only [Option.toList_some, Option.toList_none, List.drop_succ_cons, List.drop_zero, List.drop_nil, List.cons_append, List.nil_append]
  refine r_lload dX11_beam_191 rfl ?_
  refine r_l2i dX11_beam_193 ?_
  refine r_imul dX11_beam_194 ?_
  refine r_iadd dX11_beam_195 ?_
  refine r_istore dX11_beam_196 (by decide) rfl ?_
  simp only [List.set_cons_zero, List.set_cons_succ]
  replace h := lt_some h
  refine r_iinc (v := _) dX11_beam_198 rfl rfl (by decide) rfl ?_
  simp only [List.set_cons_zero, List.set_cons_succ]
  replace h := lt_some h
  refine r_goto (tgt := 87) dX11_beam_201 (by decide) ?_
  exact RR.wk (hk87 _ _ _ _ _ _ _ _ _ h) (And.intro rfl (And.intro rfl (And.intro rfl (And.intro rfl (And.intro rfl (And.intro rfl (And.intro rfl (And.intro rfl (And.intro rfl (trivial))))))))))
def f_X11_beam_67_l87 (I : mI) (L : mL) : Nat → Int32 → Int32 → Int32 → Int32 → Int32 → Int32 → Int32 → Int32 → Option Int32
  | 0, _, _, _, _, _, _, _, _ => none
  | n + 1, x1, x2, x3, x5, x6, x7, x9, x10 => if x6 ≤ x10 then (if x7 = 0 then (some x9) else ((f_X11_weight_67 I L x1 1).bind (fun r8 => (f_X11_weight_67 I L x2 1).bind (fun r9 => (f_X11_evens_67 I L x9 r8 r9).bind (fun r10 => if r10 = (-4) then (some (-1000004)) else (some r10)))))) else (ck (inb (((24 * x3) + x5) + (2 * x10)) 96) (lt (L 73 (((24 * x3) + x5) + (2 * x10)).toNatClampNeg) (fun v11 => ck (inb ((((24 * x3) + x5) + (2 * x10)) + 1) 96) (lt (L 73 ((((24 * x3) + x5) + (2 * x10)) + 1).toNatClampNeg) (fun v12 => (f_X11_in I L v11 1 99).bind (fun r13 => if r13 = 0 then (some (-1000002)) else ((f_X11_in I L v12 (-6) 6).bind (fun r14 => if r14 = 0 then (some (-1000002)) else (if (lg_cmp v12 0) = 0 then (some (-1000002)) else (if 0 ≤ (lg_cmp v12 0) then (f_X11_beam_67_b185 I L (f_X11_beam_67_l87 I L n) x1 x2 x3 x5 x6 x7 x10 v11 v12 x2 x9) else (f_X11_beam_67_b185 I L (f_X11_beam_67_l87 I L n) x1 x2 x3 x5 x6 x7 x10 v11 v12 x1 x9)))))))))))
theorem ok_X11_beam_67_l87 {d : Nat} (hd : 2 ≤ d){I : mI} {L : mL} : ∀ (n : Nat) (x1 : Int32) (x2 : Int32) (x3 : Int32) (x5 : Int32) (x6 : Int32) (x7 : Int32) (x9 : Int32) (x10 : Int32) (o : Int32), f_X11_beam_67_l87 I L n x1 x2 x3 x5 x6 x7 x9 x10 = some o → RR mX11_beam d 87 [some (.ref 67), some (.int x1), some (.int x2), some (.int x3), none, some (.int x5), some (.int x6), some (.int x7), none, some (.int x9), some (.int x10), none, none, none, none] [] I L (retQ (some (.int o)) I L) := by
  intro n
  induction n with
  | zero => intro x1 x2 x3 x5 x6 x7 x9 x10 o h; rw [f_X11_beam_67_l87] at h; cases h
  | succ n ih =>
    intro x1 x2 x3 x5 x6 x7 x9 x10 o h
    rw [f_X11_beam_67_l87] at h
    refine r_iload dX11_beam_87 rfl ?_
    refine r_iload dX11_beam_89 rfl ?_
    refine r_icmp_ge (tgt := 204) dX11_beam_91 (by decide) (fun c => ?_) (fun c => ?_)
    · rw [if_pos c] at h
      refine r_iload dX11_beam_204 rfl ?_
      refine r_if_ne (tgt := 212) dX11_beam_206 (by decide) (fun c => ?_) (fun c => ?_)
      · rw [if_neg c] at h
        refine r_aload_n (i := 0) dX11_beam_212 rfl rfl ?_
        refine r_iload dX11_beam_213 rfl ?_
        refine r_aload_n (i := 0) dX11_beam_215 rfl rfl ?_
        refine r_iload_n (i := 1) dX11_beam_216 rfl rfl ?_
        refine r_iconst (v := 1) dX11_beam_217 (by decide) ?_
        obtain ⟨r8, hr, h⟩ := bind_some h
        refine r_V (d' := 1) k_X11_88 dX11_beam_218 (by omega) rfl rfl rfl (Nat.le_of_ble_eq_true rfl) (Nat.le_of_ble_eq_true rfl) (ok_X11_weight_67 (Nat.le_refl _) hr) (fun v I' L' hq => ?_)
        obtain ⟨rfl, rfl, rfl⟩ := hq
        simp only [Option.toList_some, Option.toList_none, List.drop_succ_cons, List.drop_zero, List.drop_nil, List.cons_append, List.nil_append]
        refine r_aload_n (i := 0) dX11_beam_221 rfl rfl ?_
        refine r_iload_n (i := 2) dX11_beam_222 rfl rfl ?_
        refine r_iconst (v := 1) dX11_beam_223 (by decide) ?_
        obtain ⟨r9, hr, h⟩ := bind_some h
        refine r_V (d' := 1) k_X11_88 dX11_beam_224 (by omega) rfl rfl rfl (Nat.le_of_ble_eq_true rfl) (Nat.le_of_ble_eq_true rfl) (ok_X11_weight_67 (Nat.le_refl _) hr) (fun v I' L' hq => ?_)
        obtain ⟨rfl, rfl, rfl⟩ := hq
        simp only [Option.toList_some, Option.toList_none, List.drop_succ_cons, List.drop_zero, List.drop_nil, List.cons_append, List.nil_append]
        obtain ⟨r10, hr, h⟩ := bind_some h
        refine r_V (d' := 1) k_X11_235 dX11_beam_227 (by omega) rfl rfl rfl (Nat.le_of_ble_eq_true rfl) (Nat.le_of_ble_eq_true rfl) (ok_X11_evens_67 (Nat.le_refl _) hr) (fun v I' L' hq => ?_)
        obtain ⟨rfl, rfl, rfl⟩ := hq
        simp only [Option.toList_some, Option.toList_none, List.drop_succ_cons, List.drop_zero, List.drop_nil, List.cons_append, List.nil_append]
        refine r_istore dX11_beam_230 (by decide) rfl ?_
        simp only [List.set_cons_zero, List.set_cons_succ]
        refine r_iload dX11_beam_232 rfl ?_
        refine r_bipush (v := (-4)) dX11_beam_234 (by decide) ?_
        refine r_icmp_ne (tgt := 244) dX11_beam_236 (by decide) (fun c => ?_) (fun c => ?_)
        · rw [if_neg c] at h
          refine r_iload dX11_beam_244 rfl ?_
          refine r_iret (by first | rfl | decide) dX11_beam_246 ?_
          obtain rfl := Option.some.inj h
          exact ⟨rfl, rfl, rfl⟩
        · rw [if_pos c] at h
          refine r_ldc n_X11_175 dX11_beam_239 ?_
          refine r_goto (tgt := 246) dX11_beam_241 (by decide) ?_
          refine r_iret (by first | rfl | decide) dX11_beam_246 ?_
          obtain rfl := Option.some.inj h
          exact ⟨rfl, rfl, rfl⟩
      · rw [if_pos c] at h
        refine r_iload dX11_beam_209 rfl ?_
        refine r_iret (by first | rfl | decide) dX11_beam_211 ?_
        obtain rfl := Option.some.inj h
        exact ⟨rfl, rfl, rfl⟩
    · rw [if_neg c] at h
      refine r_aload_n (i := 0) dX11_beam_94 rfl rfl ?_
      refine r_getR f_X11_25 dX11_beam_95 rfl rfl ?_
      refine r_bipush (v := 24) dX11_beam_98 (by decide) ?_
      refine r_iload_n (i := 3) dX11_beam_100 rfl rfl ?_
      refine r_imul dX11_beam_101 ?_
      refine r_iload dX11_beam_102 rfl ?_
      refine r_iadd dX11_beam_104 ?_
      refine r_iconst (v := 2) dX11_beam_105 (by decide) ?_
      refine r_iload dX11_beam_106 rfl ?_
      refine r_imul dX11_beam_108 ?_
      refine r_iadd dX11_beam_109 ?_
      obtain ⟨hb, h⟩ := ck_some h
      refine r_lald rfl (inb_vp hb) dX11_beam_110 ?_
      refine r_lstore dX11_beam_111 (by decide) rfl ?_
      simp only [List.set_cons_zero, List.set_cons_succ]
      replace h := lt_some h
      refine r_aload_n (i := 0) dX11_beam_113 rfl rfl ?_
      refine r_getR f_X11_25 dX11_beam_114 rfl rfl ?_
      refine r_bipush (v := 24) dX11_beam_117 (by decide) ?_
      refine r_iload_n (i := 3) dX11_beam_119 rfl rfl ?_
      refine r_imul dX11_beam_120 ?_
      refine r_iload dX11_beam_121 rfl ?_
      refine r_iadd dX11_beam_123 ?_
      refine r_iconst (v := 2) dX11_beam_124 (by decide) ?_
      refine r_iload dX11_beam_125 rfl ?_
      refine r_imul dX11_beam_127 ?_
      refine r_iadd dX11_beam_128 ?_
      refine r_iconst (v := 1) dX11_beam_129 (by decide) ?_
      refine r_iadd dX11_beam_130 ?_
      obtain ⟨hb, h⟩ := ck_some h
      refine r_lald rfl (inb_vp hb) dX11_beam_131 ?_
      refine r_lstore dX11_beam_132 (by decide) rfl ?_
      simp only [List.set_cons_zero, List.set_cons_succ]
      replace h := lt_some h
      refine r_lload dX11_beam_134 rfl ?_
      refine r_lconst (v := 1) dX11_beam_136 (by decide) ?_
      refine r_ldc2 n_X11_83 dX11_beam_137 ?_
      obtain ⟨r13, hr, h⟩ := bind_some h
      refine r_S (d' := 0) k_X11_50 dX11_beam_140 (by omega) rfl (Nat.le_of_ble_eq_true rfl) (Nat.le_of_ble_eq_true rfl) (ok_X11_in (Nat.le_refl _) hr) (fun v I' L' hq => ?_)
      obtain ⟨rfl, rfl, rfl⟩ := hq
      simp only [Option.toList_some, Option.toList_none, List.drop_succ_cons, List.drop_zero, List.drop_nil, List.cons_append, List.nil_append]
      refine r_if_eq (tgt := 167) dX11_beam_143 (by decide) (fun c => ?_) (fun c => ?_)
      · rw [if_pos c] at h
        refine r_ldc n_X11_234 dX11_beam_167 ?_
        refine r_iret (by first | rfl | decide) dX11_beam_169 ?_
        obtain rfl := Option.some.inj h
        exact ⟨rfl, rfl, rfl⟩
      · rw [if_neg c] at h
        refine r_lload dX11_beam_146 rfl ?_
        refine r_ldc2 n_X11_230 dX11_beam_148 ?_
        refine r_ldc2 n_X11_232 dX11_beam_151 ?_
        obtain ⟨r14, hr, h⟩ := bind_some h
        refine r_S (d' := 0) k_X11_50 dX11_beam_154 (by omega) rfl (Nat.le_of_ble_eq_true rfl) (Nat.le_of_ble_eq_true rfl) (ok_X11_in (Nat.le_refl _) hr) (fun v I' L' hq => ?_)
        obtain ⟨rfl, rfl, rfl⟩ := hq
        simp only [Option.toList_some, Option.toList_none, List.drop_succ_cons, List.drop_zero, List.drop_nil, List.cons_append, List.nil_append]
        refine r_if_eq (tgt := 167) dX11_beam_157 (by decide) (fun c => ?_) (fun c => ?_)
        · rw [if_pos c] at h
          refine r_ldc n_X11_234 dX11_beam_167 ?_
          refine r_iret (by first | rfl | decide) dX11_beam_169 ?_
          obtain rfl := Option.some.inj h
          exact ⟨rfl, rfl, rfl⟩
        · rw [if_neg c] at h
          refine r_lload dX11_beam_160 rfl ?_
          refine r_lconst (v := 0) dX11_beam_162 (by decide) ?_
          refine r_lcmp dX11_beam_163 ?_
          refine r_if_ne (tgt := 170) dX11_beam_164 (by decide) (fun c => ?_) (fun c => ?_)
          · rw [if_neg c] at h
            refine r_iload dX11_beam_170 rfl ?_
            refine r_aload_n (i := 0) dX11_beam_172 rfl rfl ?_
            refine r_lload dX11_beam_173 rfl ?_
            refine r_lconst (v := 0) dX11_beam_175 (by decide) ?_
            refine r_lcmp dX11_beam_176 ?_
            refine r_if_ge (tgt := 184) dX11_beam_177 (by decide) (fun c => ?_) (fun c => ?_)
            · rw [if_pos c] at h
              refine r_iload_n (i := 2) dX11_beam_184 rfl rfl ?_
              exact RR.wk (ok_X11_beam_67_b185 hd ih _ _ _ _ _ _ _ _ _ _ _ h) (And.intro rfl (And.intro rfl (And.intro rfl (And.intro rfl (And.intro rfl (And.intro rfl (And.intro rfl (And.intro rfl (And.intro rfl (And.intro rfl (trivial)))))))))))
            · rw [if_neg c] at h
              refine r_iload_n (i := 1) dX11_beam_180 rfl rfl ?_
              refine r_goto (tgt := 185) dX11_beam_181 (by decide) ?_
              exact RR.wk (ok_X11_beam_67_b185 hd ih _ _ _ _ _ _ _ _ _ _ _ h) (And.intro rfl (And.intro rfl (And.intro rfl (And.intro rfl (And.intro rfl (And.intro rfl (And.intro rfl (And.intro rfl (And.intro rfl (And.intro rfl (trivial)))))))))))
          · rw [if_pos c] at h
            refine r_ldc n_X11_234 dX11_beam_167 ?_
            refine r_iret (by first | rfl | decide) dX11_beam_169 ?_
            obtain rfl := Option.some.inj h
            exact ⟨rfl, rfl, rfl⟩
def f_X11_beam_67 (I : mI) (L : mL) (a1 : Int32) (a2 : Int32) (a3 : Int32) (a4 : Int32) (a5 : Int32) (a6 : Int32) (a7 : Int32) : Option Int32 := (f_X11_isParish_67 I L a1).bind (fun r1 => if r1 = 0 then (some (-1000001)) else ((f_X11_isParish_67 I L a2).bind (fun r2 => if r2 = 0 then (some (-1000001)) else ((f_X11_isSheet I L a3).bind (fun r3 => if r3 = 0 then (some (-1000001)) else ((f_X11_isLane I L a4).bind (fun r4 => if r4 = 0 then (some (-1000001)) else ((f_X11_in I L (a6.toInt64) 0 8).bind (fun r5 => if r5 = 0 then (some (-1000001)) else ((f_X11_isTwo I L a7).bind (fun r6 => if r6 = 0 then (some (-1000001)) else ((f_X11_finds_67 I L a3 a4 a5 (2 * a6)).bind (fun r7 => if 0 ≤ r7 then (f_X11_beam_67_l87 I L fuel a1 a2 a3 a5 a6 a7 0 0) else (some (r7 - 1000000)))))))))))))))
theorem ok_X11_beam_67 {d : Nat} (hd : 2 ≤ d) {I : mI} {L : mL} {a1 : Int32} {a2 : Int32} {a3 : Int32} {a4 : Int32} {a5 : Int32} {a6 : Int32} {a7 : Int32} {o : Int32} (h : f_X11_beam_67 I L a1 a2 a3 a4 a5 a6 a7 = some o) : RR mX11_beam d 0 [some (.ref 67), some (.int a1), some (.int a2), some (.int a3), some (.int a4), some (.int a5), some (.int a6), some (.int a7), none, none, none, none, none, none, none] [] I L (retQ (some (.int o)) I L) := by
  unfold f_X11_beam_67 at h
  refine r_aload_n (i := 0) dX11_beam_0 rfl rfl ?_
  refine r_iload_n (i := 1) dX11_beam_1 rfl rfl ?_
  obtain ⟨r1, hr, h⟩ := bind_some h
  refine r_V (d' := 1) k_X11_68 dX11_beam_2 (by omega) rfl rfl rfl (Nat.le_of_ble_eq_true rfl) (Nat.le_of_ble_eq_true rfl) (ok_X11_isParish_67 (Nat.le_refl _) hr) (fun v I' L' hq => ?_)
  obtain ⟨rfl, rfl, rfl⟩ := hq
  simp only [Option.toList_some, Option.toList_none, List.drop_succ_cons, List.drop_zero, List.drop_nil, List.cons_append, List.nil_append]
  refine r_if_eq (tgt := 52) dX11_beam_5 (by decide) (fun c => ?_) (fun c => ?_)
  · rw [if_pos c] at h
    refine r_ldc n_X11_171 dX11_beam_52 ?_
    refine r_iret (by first | rfl | decide) dX11_beam_54 ?_
    obtain rfl := Option.some.inj h
    exact ⟨rfl, rfl, rfl⟩
  · rw [if_neg c] at h
    refine r_aload_n (i := 0) dX11_beam_8 rfl rfl ?_
    refine r_iload_n (i := 2) dX11_beam_9 rfl rfl ?_
    obtain ⟨r2, hr, h⟩ := bind_some h
    refine r_V (d' := 1) k_X11_68 dX11_beam_10 (by omega) rfl rfl rfl (Nat.le_of_ble_eq_true rfl) (Nat.le_of_ble_eq_true rfl) (ok_X11_isParish_67 (Nat.le_refl _) hr) (fun v I' L' hq => ?_)
    obtain ⟨rfl, rfl, rfl⟩ := hq
    simp only [Option.toList_some, Option.toList_none, List.drop_succ_cons, List.drop_zero, List.drop_nil, List.cons_append, List.nil_append]
    refine r_if_eq (tgt := 52) dX11_beam_13 (by decide) (fun c => ?_) (fun c => ?_)
    · rw [if_pos c] at h
      refine r_ldc n_X11_171 dX11_beam_52 ?_
      refine r_iret (by first | rfl | decide) dX11_beam_54 ?_
      obtain rfl := Option.some.inj h
      exact ⟨rfl, rfl, rfl⟩
    · rw [if_neg c] at h
      refine r_iload_n (i := 3) dX11_beam_16 rfl rfl ?_
      obtain ⟨r3, hr, h⟩ := bind_some h
      refine r_S (d' := 1) k_X11_220 dX11_beam_17 (by omega) rfl (Nat.le_of_ble_eq_true rfl) (Nat.le_of_ble_eq_true rfl) (ok_X11_isSheet (Nat.le_refl _) hr) (fun v I' L' hq => ?_)
      obtain ⟨rfl, rfl, rfl⟩ := hq
      simp only [Option.toList_some, Option.toList_none, List.drop_succ_cons, List.drop_zero, List.drop_nil, List.cons_append, List.nil_append]
      refine r_if_eq (tgt := 52) dX11_beam_20 (by decide) (fun c => ?_) (fun c => ?_)
      · rw [if_pos c] at h
        refine r_ldc n_X11_171 dX11_beam_52 ?_
        refine r_iret (by first | rfl | decide) dX11_beam_54 ?_
        obtain rfl := Option.some.inj h
        exact ⟨rfl, rfl, rfl⟩
      · rw [if_neg c] at h
        refine r_iload dX11_beam_23 rfl ?_
        obtain ⟨r4, hr, h⟩ := bind_some h
        refine r_S (d' := 1) k_X11_223 dX11_beam_25 (by omega) rfl (Nat.le_of_ble_eq_true rfl) (Nat.le_of_ble_eq_true rfl) (ok_X11_isLane (Nat.le_refl _) hr) (fun v I' L' hq => ?_)
        obtain ⟨rfl, rfl, rfl⟩ := hq
        simp only [Option.toList_some, Option.toList_none, List.drop_succ_cons, List.drop_zero, List.drop_nil, List.cons_append, List.nil_append]
        refine r_if_eq (tgt := 52) dX11_beam_28 (by decide) (fun c => ?_) (fun c => ?_)
        · rw [if_pos c] at h
          refine r_ldc n_X11_171 dX11_beam_52 ?_
          refine r_iret (by first | rfl | decide) dX11_beam_54 ?_
          obtain rfl := Option.some.inj h
          exact ⟨rfl, rfl, rfl⟩
        · rw [if_neg c] at h
          refine r_iload dX11_beam_31 rfl ?_
          refine r_i2l dX11_beam_33 ?_
          refine r_lconst (v := 0) dX11_beam_34 (by decide) ?_
          refine r_ldc2 n_X11_102 dX11_beam_35 ?_
          obtain ⟨r5, hr, h⟩ := bind_some h
          refine r_S (d' := 0) k_X11_50 dX11_beam_38 (by omega) rfl (Nat.le_of_ble_eq_true rfl) (Nat.le_of_ble_eq_true rfl) (ok_X11_in (Nat.le_refl _) hr) (fun v I' L' hq => ?_)
          obtain ⟨rfl, rfl, rfl⟩ := hq
          simp only [Option.toList_some, Option.toList_none, List.drop_succ_cons, List.drop_zero, List.drop_nil, List.cons_append, List.nil_append]
          refine r_if_eq (tgt := 52) dX11_beam_41 (by decide) (fun c => ?_) (fun c => ?_)
          · rw [if_pos c] at h
            refine r_ldc n_X11_171 dX11_beam_52 ?_
            refine r_iret (by first | rfl | decide) dX11_beam_54 ?_
            obtain rfl := Option.some.inj h
            exact ⟨rfl, rfl, rfl⟩
          · rw [if_neg c] at h
            refine r_iload dX11_beam_44 rfl ?_
            obtain ⟨r6, hr, h⟩ := bind_some h
            refine r_S (d' := 1) k_X11_179 dX11_beam_46 (by omega) rfl (Nat.le_of_ble_eq_true rfl) (Nat.le_of_ble_eq_true rfl) (ok_X11_isTwo (Nat.le_refl _) hr) (fun v I' L' hq => ?_)
            obtain ⟨rfl, rfl, rfl⟩ := hq
            simp only [Option.toList_some, Option.toList_none, List.drop_succ_cons, List.drop_zero, List.drop_nil, List.cons_append, List.nil_append]
            refine r_if_ne (tgt := 55) dX11_beam_49 (by decide) (fun c => ?_) (fun c => ?_)
            · rw [if_neg c] at h
              refine r_aload_n (i := 0) dX11_beam_55 rfl rfl ?_
              refine r_iload_n (i := 3) dX11_beam_56 rfl rfl ?_
              refine r_iload dX11_beam_57 rfl ?_
              refine r_iload dX11_beam_59 rfl ?_
              refine r_iconst (v := 2) dX11_beam_61 (by decide) ?_
              refine r_iload dX11_beam_62 rfl ?_
              refine r_imul dX11_beam_64 ?_
              obtain ⟨r7, hr, h⟩ := bind_some h
              refine r_V (d' := 0) k_X11_226 dX11_beam_65 (by omega) rfl rfl rfl (Nat.le_of_ble_eq_true rfl) (Nat.le_of_ble_eq_true rfl) (ok_X11_finds_67 (Nat.le_refl _) hr) (fun v I' L' hq => ?_)
              obtain ⟨rfl, rfl, rfl⟩ := hq
              simp only [Option.toList_some, Option.toList_none, List.drop_succ_cons, List.drop_zero, List.drop_nil, List.cons_append, List.nil_append]
              refine r_istore dX11_beam_68 (by decide) rfl ?_
              simp only [List.set_cons_zero, List.set_cons_succ]
              refine r_iload dX11_beam_70 rfl ?_
              refine r_if_ge (tgt := 81) dX11_beam_72 (by decide) (fun c => ?_) (fun c => ?_)
              · rw [if_pos c] at h
                refine r_iconst (v := 0) dX11_beam_81 (by decide) ?_
                refine r_istore dX11_beam_82 (by decide) rfl ?_
                simp only [List.set_cons_zero, List.set_cons_succ]
                refine r_iconst (v := 0) dX11_beam_84 (by decide) ?_
                refine r_istore dX11_beam_85 (by decide) rfl ?_
                simp only [List.set_cons_zero, List.set_cons_succ]
                exact RR.wk (ok_X11_beam_67_l87 hd _ _ _ _ _ _ _ _ _ _ h) (And.intro rfl (And.intro rfl (And.intro rfl (And.intro rfl (And.intro rfl (And.intro rfl (And.intro rfl (And.intro rfl (And.intro rfl (trivial))))))))))
              · rw [if_neg c] at h
                refine r_iload dX11_beam_75 rfl ?_
                refine r_ldc n_X11_229 dX11_beam_77 ?_
                refine r_isub dX11_beam_79 ?_
                refine r_iret (by first | rfl | decide) dX11_beam_80 ?_
                obtain rfl := Option.some.inj h
                exact ⟨rfl, rfl, rfl⟩
            · rw [if_pos c] at h
              refine r_ldc n_X11_171 dX11_beam_52 ?_
              refine r_iret (by first | rfl | decide) dX11_beam_54 ?_
              obtain rfl := Option.some.inj h
              exact ⟨rfl, rfl, rfl⟩
def f_X11_layBook_67_b127 (I : mI) (L : mL) (k32 : Int32 → Int32 → Int32 → Int32 → Int32 → Int32 → Int32 → mI → mL → rI) (x1 : Int32) (x2 : Int32) (x3 : Int32) (x4 : Int32) (x5 : Int32) (x6 : Int32) (x7 : Int32) (x8 : Int32) : rI := if x6 = (-4) then (ck (inb x8 4) (if (I 80 x8.toNatClampNeg) = 0 then (lt (x7 + Int32.ofInt 1) (fun v5 => k32 x1 x2 x3 x4 x5 x7 v5 I L)) else (lt (x7 + Int32.ofInt 1) (fun v4 => k32 x1 x2 x3 x4 x5 x6 v4 I L)))) else (lt (x7 + Int32.ofInt 1) (fun v3 => k32 x1 x2 x3 x4 x5 x6 v3 I L))
theorem ok_X11_layBook_67_b127 {d : Nat} (hd : 1 ≤ d){I : mI} {L : mL} {k32 : Int32 → Int32 → Int32 → Int32 → Int32 → Int32 → Int32 → mI → mL → rI} (hk32 : ∀ (x1 : Int32) (x2 : Int32) (x3 : Int32) (x4 : Int32) (x5 : Int32) (x6 : Int32) (x7 : Int32) (I : mI) (L : mL) (o : Int32 × mI × mL), k32 x1 x2 x3 x4 x5 x6 x7 I L = some o → RR mX11_layBook d 32 [some (.ref 67), some (.int x1), some (.int x2), some (.int x3), some (.int x4), some (.int x5), some (.int x6), some (.int x7), none, none, none, none] [] I L (retQ (some (.int o.1)) o.2.1 o.2.2)) (x1 : Int32) (x2 : Int32) (x3 : Int32) (x4 : Int32) (x5 : Int32) (x6 : Int32) (x7 : Int32) (x8 : Int32) {o : Int32 × mI × mL} (h : f_X11_layBook_67_b127 I L k32 x1 x2 x3 x4 x5 x6 x7 x8 = some o) : RR mX11_layBook d 127 [some (.ref 67), some (.int x1), some (.int x2), some (.int x3), some (.int x4), some (.int x5), some (.int x6), some (.int x7), some (.int x8), none, none, none] [] I L (retQ (some (.int o.1)) o.2.1 o.2.2) := by
  unfold f_X11_layBook_67_b127 at h
  refine r_iload dX11_layBook_127 rfl ?_
  refine r_bipush (v := (-4)) dX11_layBook_129 (by decide) ?_
  refine r_icmp_ne (tgt := 149) dX11_layBook_131 (by decide) (fun c => ?_) (fun c => ?_)
  · rw [if_neg c] at h
    refine r_iload dX11_layBook_149 rfl ?_
    refine r_istore dX11_layBook_151 (by decide) rfl ?_
    simp only [List.set_cons_zero, List.set_cons_succ]
    refine r_iinc (v := _) dX11_layBook_153 rfl rfl (by decide) rfl ?_
    simp only [List.set_cons_zero, List.set_cons_succ]
    replace h := lt_some h
    refine r_goto (tgt := 32) dX11_layBook_156 (by decide) ?_
    exact RR.wk (hk32 _ _ _ _ _ _ _ _ _ _ h) (And.intro rfl (And.intro rfl (And.intro rfl (And.intro rfl (And.intro rfl (And.intro rfl (And.intro rfl (And.intro rfl (trivial)))))))))
  · rw [if_pos c] at h
    refine r_aload_n (i := 0) dX11_layBook_134 rfl rfl ?_
    refine r_getR f_X11_47 dX11_layBook_135 rfl rfl ?_
    refine r_iload dX11_layBook_138 rfl ?_
    obtain ⟨hb, h⟩ := ck_some h
    refine r_iald rfl (inb_vp hb) dX11_layBook_140 ?_
    refine r_if_ne (tgt := 149) dX11_layBook_141 (by decide) (fun c => ?_) (fun c => ?_)
    · rw [if_neg c] at h
      refine r_iload dX11_layBook_149 rfl ?_
      refine r_istore dX11_layBook_151 (by decide) rfl ?_
      simp only [List.set_cons_zero, List.set_cons_succ]
      refine r_iinc (v := _) dX11_layBook_153 rfl rfl (by decide) rfl ?_
      simp only [List.set_cons_zero, List.set_cons_succ]
      replace h := lt_some h
      refine r_goto (tgt := 32) dX11_layBook_156 (by decide) ?_
      exact RR.wk (hk32 _ _ _ _ _ _ _ _ _ _ h) (And.intro rfl (And.intro rfl (And.intro rfl (And.intro rfl (And.intro rfl (And.intro rfl (And.intro rfl (And.intro rfl (trivial)))))))))
    · rw [if_pos c] at h
      refine r_iload dX11_layBook_144 rfl ?_
      refine r_goto (tgt := 151) dX11_layBook_146 (by decide) ?_
      refine r_istore dX11_layBook_151 (by decide) rfl ?_
      simp only [List.set_cons_zero, List.set_cons_succ]
      refine r_iinc (v := _) dX11_layBook_153 rfl rfl (by decide) rfl ?_
      simp only [List.set_cons_zero, List.set_cons_succ]
      replace h := lt_some h
      refine r_goto (tgt := 32) dX11_layBook_156 (by decide) ?_
      exact RR.wk (hk32 _ _ _ _ _ _ _ _ _ _ h) (And.intro rfl (And.intro rfl (And.intro rfl (And.intro rfl (And.intro rfl (And.intro rfl (And.intro rfl (And.intro rfl (trivial)))))))))
def f_X11_layBook_67_l65 (k32 : Int32 → Int32 → Int32 → Int32 → Int32 → Int32 → Int32 → mI → mL → rI) : Nat → Int32 → Int32 → Int32 → Int32 → Int32 → Int32 → Int32 → Int32 → Int64 → Int32 → mI → mL → rI
  | 0, _, _, _, _, _, _, _, _, _, _, _, _ => none
  | n + 1, x1, x2, x3, x4, x5, x6, x7, x8, x9, x11, I, L => if 10 ≤ x11 then (f_X11_layBook_67_b127 I L k32 x1 x2 x3 x4 x5 x6 x7 x8) else (if (lg_cmp x9 0) < 0 then (f_X11_layBook_67_b127 I L k32 x1 x2 x3 x4 x5 x6 x7 x8) else (ck (inb x8 4) (ck (inb (6 + x1) 135) ((f_X11_weightBy I L (I 68 (6 + x1).toNatClampNeg) x11 x2).bind (fun r6 => if (lg_cmp (r6.toInt64) x9) = 0 then (ck (inb x8 4) (lt (uI I 80 x8.toNatClampNeg ((I 80 x8.toNatClampNeg) &&& (-1))) (fun M9 => lt (x11 + Int32.ofInt 1) (fun v10 => f_X11_layBook_67_l65 k32 n x1 x2 x3 x4 x5 x6 x7 x8 x9 v10 M9 L)))) else (ck (inb x8 4) (lt (uI I 80 x8.toNatClampNeg ((I 80 x8.toNatClampNeg) &&& (((1 : Int32) <<< (x11 &&& 31)) ^^^ (-1)))) (fun M7 => lt (x11 + Int32.ofInt 1) (fun v8 => f_X11_layBook_67_l65 k32 n x1 x2 x3 x4 x5 x6 x7 x8 x9 v8 M7 L)))))))))
theorem ok_X11_layBook_67_l65 {d : Nat} (hd : 1 ≤ d) {k32 : Int32 → Int32 → Int32 → Int32 → Int32 → Int32 → Int32 → mI → mL → rI} (hk32 : ∀ (x1 : Int32) (x2 : Int32) (x3 : Int32) (x4 : Int32) (x5 : Int32) (x6 : Int32) (x7 : Int32) (I : mI) (L : mL) (o : Int32 × mI × mL), k32 x1 x2 x3 x4 x5 x6 x7 I L = some o → RR mX11_layBook d 32 [some (.ref 67), some (.int x1), some (.int x2), some (.int x3), some (.int x4), some (.int x5), some (.int x6), some (.int x7), none, none, none, none] [] I L (retQ (some (.int o.1)) o.2.1 o.2.2)) : ∀ (n : Nat) (x1 : Int32) (x2 : Int32) (x3 : Int32) (x4 : Int32) (x5 : Int32) (x6 : Int32) (x7 : Int32) (x8 : Int32) (x9 : Int64) (x11 : Int32) (I : mI) (L : mL) (o : Int32 × mI × mL), f_X11_layBook_67_l65 k32 n x1 x2 x3 x4 x5 x6 x7 x8 x9 x11 I L = some o → RR mX11_layBook d 65 [some (.ref 67), some (.int x1), some (.int x2), some (.int x3), some (.int x4), some (.int x5), some (.int x6), some (.int x7), some (.int x8), some (.long x9), none, some (.int x11)] [] I L (retQ (some (.int o.1)) o.2.1 o.2.2) := by
  intro n
  induction n with
  | zero => intro x1 x2 x3 x4 x5 x6 x7 x8 x9 x11 I L o h; rw [f_X11_layBook_67_l65] at h; cases h
  | succ n ih =>
    intro x1 x2 x3 x4 x5 x6 x7 x8 x9 x11 I L o h
    rw [f_X11_layBook_67_l65] at h
    refine r_iload dX11_layBook_65 rfl ?_
    refine r_bipush (v := 10) dX11_layBook_67 (by decide) ?_
    refine r_icmp_ge (tgt := 127) dX11_layBook_69 (by decide) (fun c => ?_) (fun c => ?_)
    · rw [if_pos c] at h
      exact RR.wk (ok_X11_layBook_67_b127 hd hk32 _ _ _ _ _ _ _ _ h) (And.intro rfl (And.intro rfl (And.intro rfl (And.intro rfl (And.intro rfl (And.intro rfl (And.intro rfl (And.intro rfl (And.intro rfl (trivial))))))))))
    · rw [if_neg c] at h
      refine r_lload dX11_layBook_72 rfl ?_
      refine r_lconst (v := 0) dX11_layBook_74 (by decide) ?_
      refine r_lcmp dX11_layBook_75 ?_
      refine r_if_lt (tgt := 127) dX11_layBook_76 (by decide) (fun c => ?_) (fun c => ?_)
      · rw [if_pos c] at h
        exact RR.wk (ok_X11_layBook_67_b127 hd hk32 _ _ _ _ _ _ _ _ h) (And.intro rfl (And.intro rfl (And.intro rfl (And.intro rfl (And.intro rfl (And.intro rfl (And.intro rfl (And.intro rfl (And.intro rfl (trivial))))))))))
      · rw [if_neg c] at h
        refine r_aload_n (i := 0) dX11_layBook_79 rfl rfl ?_
        refine r_getR f_X11_47 dX11_layBook_80 rfl rfl ?_
        refine r_iload dX11_layBook_83 rfl ?_
        refine r_dup2 dX11_layBook_85 rfl rfl ?_
        obtain ⟨hb, h⟩ := ck_some h
        refine r_iald rfl (inb_vp hb) dX11_layBook_86 ?_
        refine r_aload_n (i := 0) dX11_layBook_87 rfl rfl ?_
        refine r_getR f_X11_7 dX11_layBook_88 rfl rfl ?_
        refine r_bipush (v := 6) dX11_layBook_91 (by decide) ?_
        refine r_iload_n (i := 1) dX11_layBook_93 rfl rfl ?_
        refine r_iadd dX11_layBook_94 ?_
        obtain ⟨hb, h⟩ := ck_some h
        refine r_iald rfl (inb_vp hb) dX11_layBook_95 ?_
        refine r_iload dX11_layBook_96 rfl ?_
        refine r_iload_n (i := 2) dX11_layBook_98 rfl rfl ?_
        obtain ⟨r6, hr, h⟩ := bind_some h
        refine r_S (d' := 0) k_X11_58 dX11_layBook_99 (by omega) rfl (Nat.le_of_ble_eq_true rfl) (Nat.le_of_ble_eq_true rfl) (ok_X11_weightBy (Nat.le_refl _) hr) (fun v I' L' hq => ?_)
        obtain ⟨rfl, rfl, rfl⟩ := hq
        simp only [Option.toList_some, Option.toList_none, List.drop_succ_cons, List.drop_zero, List.drop_nil, List.cons_append, List.nil_append]
        refine r_i2l dX11_layBook_102 ?_
        refine r_lload dX11_layBook_103 rfl ?_
        refine r_lcmp dX11_layBook_105 ?_
        refine r_if_ne (tgt := 113) dX11_layBook_106 (by decide) (fun c => ?_) (fun c => ?_)
        · rw [if_neg c] at h
          refine r_iconst (v := 1) dX11_layBook_113 (by decide) ?_
          refine r_iload dX11_layBook_114 rfl ?_
          refine r_ishl dX11_layBook_116 ?_
          refine r_iconst (v := (-1)) dX11_layBook_117 (by decide) ?_
          refine r_ixor dX11_layBook_118 ?_
          refine r_iand dX11_layBook_119 ?_
          obtain ⟨hb, h⟩ := ck_some h
          refine r_iast rfl (inb_vp hb) dX11_layBook_120 ?_
          replace h := lt_some h
          refine r_iinc (v := _) dX11_layBook_121 rfl rfl (by decide) rfl ?_
          simp only [List.set_cons_zero, List.set_cons_succ]
          replace h := lt_some h
          refine r_goto (tgt := 65) dX11_layBook_124 (by decide) ?_
          exact RR.wk (ih _ _ _ _ _ _ _ _ _ _ _ _ _ h) (And.intro rfl (And.intro rfl (And.intro rfl (And.intro rfl (And.intro rfl (And.intro rfl (And.intro rfl (And.intro rfl (And.intro rfl (And.intro rfl (And.intro rfl (trivial))))))))))))
        · rw [if_pos c] at h
          refine r_iconst (v := (-1)) dX11_layBook_109 (by decide) ?_
          refine r_goto (tgt := 119) dX11_layBook_110 (by decide) ?_
          refine r_iand dX11_layBook_119 ?_
          obtain ⟨hb, h⟩ := ck_some h
          refine r_iast rfl (inb_vp hb) dX11_layBook_120 ?_
          replace h := lt_some h
          refine r_iinc (v := _) dX11_layBook_121 rfl rfl (by decide) rfl ?_
          simp only [List.set_cons_zero, List.set_cons_succ]
          replace h := lt_some h
          refine r_goto (tgt := 65) dX11_layBook_124 (by decide) ?_
          exact RR.wk (ih _ _ _ _ _ _ _ _ _ _ _ _ _ h) (And.intro rfl (And.intro rfl (And.intro rfl (And.intro rfl (And.intro rfl (And.intro rfl (And.intro rfl (And.intro rfl (And.intro rfl (And.intro rfl (And.intro rfl (trivial))))))))))))
def f_X11_layBook_67_l32 : Nat → Int32 → Int32 → Int32 → Int32 → Int32 → Int32 → Int32 → mI → mL → rI
  | 0, _, _, _, _, _, _, _, _, _ => none
  | n + 1, x1, x2, x3, x4, x5, x6, x7, I, L => if x5 ≤ x7 then (some (x6, I, L)) else (lt (((x3 + x7) / 13) - ((x3 + x7) / 13) / 4 * 4) (fun v1 => ck (inb (x4 + x7) 96) (lt (L 73 (x4 + x7).toNatClampNeg) (fun v2 => f_X11_layBook_67_l65 (f_X11_layBook_67_l32 n) fuel x1 x2 x3 x4 x5 x6 x7 v1 v2 1 I L))))
theorem ok_X11_layBook_67_l32 {d : Nat} (hd : 1 ≤ d) : ∀ (n : Nat) (x1 : Int32) (x2 : Int32) (x3 : Int32) (x4 : Int32) (x5 : Int32) (x6 : Int32) (x7 : Int32) (I : mI) (L : mL) (o : Int32 × mI × mL), f_X11_layBook_67_l32 n x1 x2 x3 x4 x5 x6 x7 I L = some o → RR mX11_layBook d 32 [some (.ref 67), some (.int x1), some (.int x2), some (.int x3), some (.int x4), some (.int x5), some (.int x6), some (.int x7), none, none, none, none] [] I L (retQ (some (.int o.1)) o.2.1 o.2.2) := by
  intro n
  induction n with
  | zero => intro x1 x2 x3 x4 x5 x6 x7 I L o h; rw [f_X11_layBook_67_l32] at h; cases h
  | succ n ih =>
    intro x1 x2 x3 x4 x5 x6 x7 I L o h
    rw [f_X11_layBook_67_l32] at h
    refine r_iload dX11_layBook_32 rfl ?_
    refine r_iload dX11_layBook_34 rfl ?_
    refine r_icmp_ge (tgt := 159) dX11_layBook_36 (by decide) (fun c => ?_) (fun c => ?_)
    · rw [if_pos c] at h
      refine r_iload dX11_layBook_159 rfl ?_
      refine r_iret (by first | rfl | decide) dX11_layBook_161 ?_
      obtain rfl := Option.some.inj h
      exact ⟨rfl, rfl, rfl⟩
    · rw [if_neg c] at h
      refine r_iload_n (i := 3) dX11_layBook_39 rfl rfl ?_
      refine r_iload dX11_layBook_40 rfl ?_
      refine r_iadd dX11_layBook_42 ?_
      refine r_bipush (v := 13) dX11_layBook_43 (by decide) ?_
      refine r_idiv dX11_layBook_45 (by decide) ?_
      refine r_iconst (v := 4) dX11_layBook_46 (by decide) ?_
      refine r_irem dX11_layBook_47 (by decide) ?_
      refine r_istore dX11_layBook_48 (by decide) rfl ?_
      simp only [List.set_cons_zero, List.set_cons_succ]
      replace h := lt_some h
      refine r_aload_n (i := 0) dX11_layBook_50 rfl rfl ?_
      refine r_getR f_X11_25 dX11_layBook_51 rfl rfl ?_
      refine r_iload dX11_layBook_54 rfl ?_
      refine r_iload dX11_layBook_56 rfl ?_
      refine r_iadd dX11_layBook_58 ?_
      obtain ⟨hb, h⟩ := ck_some h
      refine r_lald rfl (inb_vp hb) dX11_layBook_59 ?_
      refine r_lstore dX11_layBook_60 (by decide) rfl ?_
      simp only [List.set_cons_zero, List.set_cons_succ]
      replace h := lt_some h
      refine r_iconst (v := 1) dX11_layBook_62 (by decide) ?_
      refine r_istore dX11_layBook_63 (by decide) rfl ?_
      simp only [List.set_cons_zero, List.set_cons_succ]
      exact RR.wk (ok_X11_layBook_67_l65 hd ih _ _ _ _ _ _ _ _ _ _ _ _ _ _ h) (And.intro rfl (And.intro rfl (And.intro rfl (And.intro rfl (And.intro rfl (And.intro rfl (And.intro rfl (And.intro rfl (And.intro rfl (And.intro rfl (And.intro rfl (trivial))))))))))))
def f_X11_layBook_67_l3 : Nat → Int32 → Int32 → Int32 → Int32 → Int32 → Int32 → mI → mL → rI
  | 0, _, _, _, _, _, _, _, _ => none
  | n + 1, x1, x2, x3, x4, x5, x6, I, L => if 4 ≤ x6 then (f_X11_layBook_67_l32 fuel x1 x2 x3 x4 x5 (-4) 0 I L) else (ck (inb x6 4) (lt (uI I 80 x6.toNatClampNeg 1022) (fun M11 => lt (x6 + Int32.ofInt 1) (fun v12 => f_X11_layBook_67_l3 n x1 x2 x3 x4 x5 v12 M11 L))))
theorem ok_X11_layBook_67_l3 {d : Nat} (hd : 1 ≤ d) : ∀ (n : Nat) (x1 : Int32) (x2 : Int32) (x3 : Int32) (x4 : Int32) (x5 : Int32) (x6 : Int32) (I : mI) (L : mL) (o : Int32 × mI × mL), f_X11_layBook_67_l3 n x1 x2 x3 x4 x5 x6 I L = some o → RR mX11_layBook d 3 [some (.ref 67), some (.int x1), some (.int x2), some (.int x3), some (.int x4), some (.int x5), some (.int x6), none, none, none, none, none] [] I L (retQ (some (.int o.1)) o.2.1 o.2.2) := by
  intro n
  induction n with
  | zero => intro x1 x2 x3 x4 x5 x6 I L o h; rw [f_X11_layBook_67_l3] at h; cases h
  | succ n ih =>
    intro x1 x2 x3 x4 x5 x6 I L o h
    rw [f_X11_layBook_67_l3] at h
    refine r_iload dX11_layBook_3 rfl ?_
    refine r_iconst (v := 4) dX11_layBook_5 (by decide) ?_
    refine r_icmp_ge (tgt := 25) dX11_layBook_6 (by decide) (fun c => ?_) (fun c => ?_)
    · rw [if_pos c] at h
      refine r_bipush (v := (-4)) dX11_layBook_25 (by decide) ?_
      refine r_istore dX11_layBook_27 (by decide) rfl ?_
      simp only [List.set_cons_zero, List.set_cons_succ]
      refine r_iconst (v := 0) dX11_layBook_29 (by decide) ?_
      refine r_istore dX11_layBook_30 (by decide) rfl ?_
      simp only [List.set_cons_zero, List.set_cons_succ]
      exact RR.wk (ok_X11_layBook_67_l32 hd _ _ _ _ _ _ _ _ _ _ _ h) (And.intro rfl (And.intro rfl (And.intro rfl (And.intro rfl (And.intro rfl (And.intro rfl (And.intro rfl (And.intro rfl (trivial)))))))))
    · rw [if_neg c] at h
      refine r_aload_n (i := 0) dX11_layBook_9 rfl rfl ?_
      refine r_getR f_X11_47 dX11_layBook_10 rfl rfl ?_
      refine r_iload dX11_layBook_13 rfl ?_
      refine r_sipush (v := 1022) dX11_layBook_15 (by decide) ?_
      obtain ⟨hb, h⟩ := ck_some h
      refine r_iast rfl (inb_vp hb) dX11_layBook_18 ?_
      replace h := lt_some h
      refine r_iinc (v := _) dX11_layBook_19 rfl rfl (by decide) rfl ?_
      simp only [List.set_cons_zero, List.set_cons_succ]
      replace h := lt_some h
      refine r_goto (tgt := 3) dX11_layBook_22 (by decide) ?_
      exact RR.wk (ih _ _ _ _ _ _ _ _ _ h) (And.intro rfl (And.intro rfl (And.intro rfl (And.intro rfl (And.intro rfl (And.intro rfl (And.intro rfl (trivial))))))))
def f_X11_layBook_67 (I : mI) (L : mL) (a1 : Int32) (a2 : Int32) (a3 : Int32) (a4 : Int32) (a5 : Int32) : rI := f_X11_layBook_67_l3 fuel a1 a2 a3 a4 a5 0 I L
theorem ok_X11_layBook_67 {d : Nat} (hd : 1 ≤ d) {I : mI} {L : mL} {a1 : Int32} {a2 : Int32} {a3 : Int32} {a4 : Int32} {a5 : Int32} {o : Int32 × mI × mL} (h : f_X11_layBook_67 I L a1 a2 a3 a4 a5 = some o) : RR mX11_layBook d 0 [some (.ref 67), some (.int a1), some (.int a2), some (.int a3), some (.int a4), some (.int a5), none, none, none, none, none, none] [] I L (retQ (some (.int o.1)) o.2.1 o.2.2) := by
  unfold f_X11_layBook_67 at h
  refine r_iconst (v := 0) dX11_layBook_0 (by decide) ?_
  refine r_istore dX11_layBook_1 (by decide) rfl ?_
  simp only [List.set_cons_zero, List.set_cons_succ]
  exact RR.wk (ok_X11_layBook_67_l3 hd _ _ _ _ _ _ _ _ _ _ h) (And.intro rfl (And.intro rfl (And.intro rfl (And.intro rfl (And.intro rfl (And.intro rfl (And.intro rfl (trivial))))))))
def f_X11_book_67_l126 : Nat → Int32 → Int32 → Int32 → Int32 → Int32 → mI → mL → rI
  | 0, _, _, _, _, _, _, _ => none
  | n + 1, x8, x10, x11, x12, x13, I, L => if 4 ≤ x13 then (if x8 = 0 then (some (x11, I, L)) else (if x8 = 2 then (some (x10, I, L)) else (if x11 = 0 then (some ((-4), I, L)) else (some (x12, I, L))))) else (ck (inb x13 4) ((f_X11_bits I L (I 80 x13.toNatClampNeg)).bind (fun r11 => lt (x11 * r11) (fun v12 => ck (inb x13 4) ((f_X11_bits I L (I 80 x13.toNatClampNeg)).bind (fun r13 => if r13 = 1 then (lt (x12 ||| ((1 : Int32) <<< (x13 &&& 31))) (fun v16 => lt (x13 + Int32.ofInt 1) (fun v17 => f_X11_book_67_l126 n x8 x10 v12 v16 v17 I L))) else (lt (x12 ||| 0) (fun v14 => lt (x13 + Int32.ofInt 1) (fun v15 => f_X11_book_67_l126 n x8 x10 v12 v14 v15 I L)))))))))
theorem ok_X11_book_67_l126 {d : Nat} (hd : 2 ≤ d) : ∀ (n : Nat) (x8 : Int32) (x10 : Int32) (x11 : Int32) (x12 : Int32) (x13 : Int32) (I : mI) (L : mL) (o : Int32 × mI × mL), f_X11_book_67_l126 n x8 x10 x11 x12 x13 I L = some o → RR mX11_book d 126 [some (.ref 67), none, none, none, none, none, none, none, some (.int x8), none, some (.int x10), some (.int x11), some (.int x12), some (.int x13)] [] I L (retQ (some (.int o.1)) o.2.1 o.2.2) := by
  intro n
  induction n with
  | zero => intro x8 x10 x11 x12 x13 I L o h; rw [f_X11_book_67_l126] at h; cases h
  | succ n ih =>
    intro x8 x10 x11 x12 x13 I L o h
    rw [f_X11_book_67_l126] at h
    refine r_iload dX11_book_126 rfl ?_
    refine r_iconst (v := 4) dX11_book_128 (by decide) ?_
    refine r_icmp_ge (tgt := 180) dX11_book_129 (by decide) (fun c => ?_) (fun c => ?_)
    · rw [if_pos c] at h
      refine r_iload dX11_book_180 rfl ?_
      refine r_if_ne (tgt := 190) dX11_book_182 (by decide) (fun c => ?_) (fun c => ?_)
      · rw [if_neg c] at h
        refine r_iload dX11_book_190 rfl ?_
        refine r_iconst (v := 2) dX11_book_192 (by decide) ?_
        refine r_icmp_ne (tgt := 201) dX11_book_193 (by decide) (fun c => ?_) (fun c => ?_)
        · rw [if_neg c] at h
          refine r_iload dX11_book_201 rfl ?_
          refine r_if_ne (tgt := 211) dX11_book_203 (by decide) (fun c => ?_) (fun c => ?_)
          · rw [if_neg c] at h
            refine r_iload dX11_book_211 rfl ?_
            refine r_iret (by first | rfl | decide) dX11_book_213 ?_
            obtain rfl := Option.some.inj h
            exact ⟨rfl, rfl, rfl⟩
          · rw [if_pos c] at h
            refine r_bipush (v := (-4)) dX11_book_206 (by decide) ?_
            refine r_goto (tgt := 213) dX11_book_208 (by decide) ?_
            refine r_iret (by first | rfl | decide) dX11_book_213 ?_
            obtain rfl := Option.some.inj h
            exact ⟨rfl, rfl, rfl⟩
        · rw [if_pos c] at h
          refine r_iload dX11_book_196 rfl ?_
          refine r_goto (tgt := 213) dX11_book_198 (by decide) ?_
          refine r_iret (by first | rfl | decide) dX11_book_213 ?_
          obtain rfl := Option.some.inj h
          exact ⟨rfl, rfl, rfl⟩
      · rw [if_pos c] at h
        refine r_iload dX11_book_185 rfl ?_
        refine r_goto (tgt := 213) dX11_book_187 (by decide) ?_
        refine r_iret (by first | rfl | decide) dX11_book_213 ?_
        obtain rfl := Option.some.inj h
        exact ⟨rfl, rfl, rfl⟩
    · rw [if_neg c] at h
      refine r_iload dX11_book_132 rfl ?_
      refine r_aload_n (i := 0) dX11_book_134 rfl rfl ?_
      refine r_getR f_X11_47 dX11_book_135 rfl rfl ?_
      refine r_iload dX11_book_138 rfl ?_
      obtain ⟨hb, h⟩ := ck_some h
      refine r_iald rfl (inb_vp hb) dX11_book_140 ?_
      obtain ⟨r11, hr, h⟩ := bind_some h
      refine r_S (d' := 0) k_X11_185 dX11_book_141 (by omega) rfl (Nat.le_of_ble_eq_true rfl) (Nat.le_of_ble_eq_true rfl) (ok_X11_bits (Nat.le_refl _) hr) (fun v I' L' hq => ?_)
      obtain ⟨rfl, rfl, rfl⟩ := hq
      simp only [Option.toList_some, Option.toList_none, List.drop_succ_cons, List.drop_zero, List.drop_nil, List.cons_append, List.nil_append]
      refine r_imul dX11_book_144 ?_
      refine r_istore dX11_book_145 (by decide) rfl ?_
      simp only [List.set_cons_zero, List.set_cons_succ]
      replace h := lt_some h
      refine r_iload dX11_book_147 rfl ?_
      refine r_aload_n (i := 0) dX11_book_149 rfl rfl ?_
      refine r_getR f_X11_47 dX11_book_150 rfl rfl ?_
      refine r_iload dX11_book_153 rfl ?_
      obtain ⟨hb, h⟩ := ck_some h
      refine r_iald rfl (inb_vp hb) dX11_book_155 ?_
      obtain ⟨r13, hr, h⟩ := bind_some h
      refine r_S (d' := 0) k_X11_185 dX11_book_156 (by omega) rfl (Nat.le_of_ble_eq_true rfl) (Nat.le_of_ble_eq_true rfl) (ok_X11_bits (Nat.le_refl _) hr) (fun v I' L' hq => ?_)
      obtain ⟨rfl, rfl, rfl⟩ := hq
      simp only [Option.toList_some, Option.toList_none, List.drop_succ_cons, List.drop_zero, List.drop_nil, List.cons_append, List.nil_append]
      refine r_iconst (v := 1) dX11_book_159 (by decide) ?_
      refine r_icmp_ne (tgt := 170) dX11_book_160 (by decide) (fun c => ?_) (fun c => ?_)
      · rw [if_neg c] at h
        refine r_iconst (v := 0) dX11_book_170 (by decide) ?_
        refine r_ior dX11_book_171 ?_
        refine r_istore dX11_book_172 (by decide) rfl ?_
        simp only [List.set_cons_zero, List.set_cons_succ]
        replace h := lt_some h
        refine r_iinc (v := _) dX11_book_174 rfl rfl (by decide) rfl ?_
        simp only [List.set_cons_zero, List.set_cons_succ]
        replace h := lt_some h
        refine r_goto (tgt := 126) dX11_book_177 (by decide) ?_
        exact RR.wk (ih _ _ _ _ _ _ _ _ h) (And.intro rfl (And.intro rfl (And.intro rfl (And.intro rfl (And.intro rfl (And.intro rfl (trivial)))))))
      · rw [if_pos c] at h
        refine r_iconst (v := 1) dX11_book_163 (by decide) ?_
        refine r_iload dX11_book_164 rfl ?_
        refine r_ishl dX11_book_166 ?_
        refine r_goto (tgt := 171) dX11_book_167 (by decide) ?_
        refine r_ior dX11_book_171 ?_
        refine r_istore dX11_book_172 (by decide) rfl ?_
        simp only [List.set_cons_zero, List.set_cons_succ]
        replace h := lt_some h
        refine r_iinc (v := _) dX11_book_174 rfl rfl (by decide) rfl ?_
        simp only [List.set_cons_zero, List.set_cons_succ]
        replace h := lt_some h
        refine r_goto (tgt := 126) dX11_book_177 (by decide) ?_
        exact RR.wk (ih _ _ _ _ _ _ _ _ h) (And.intro rfl (And.intro rfl (And.intro rfl (And.intro rfl (And.intro rfl (And.intro rfl (trivial)))))))
def f_X11_book_67 (I : mI) (L : mL) (a1 : Int32) (a2 : Int32) (a3 : Int32) (a4 : Int32) (a5 : Int32) (a6 : Int32) (a7 : Int32) (a8 : Int32) : rI := (f_X11_isParish_67 I L a1).bind (fun r1 => if r1 = 0 then (some ((-1), I, L)) else ((f_X11_in I L (a2.toInt64) 1 99).bind (fun r2 => if r2 = 0 then (some ((-1), I, L)) else ((f_X11_in I L (a3.toInt64) 0 9975).bind (fun r3 => if r3 = 0 then (some ((-1), I, L)) else ((f_X11_isSheet I L a4).bind (fun r4 => if r4 = 0 then (some ((-1), I, L)) else ((f_X11_isLane I L a5).bind (fun r5 => if r5 = 0 then (some ((-1), I, L)) else ((f_X11_in I L (a7.toInt64) 1 24).bind (fun r6 => if r6 = 0 then (some ((-1), I, L)) else ((f_X11_in I L (a8.toInt64) 0 2).bind (fun r7 => if r7 = 0 then (some ((-1), I, L)) else ((f_X11_finds_67 I L a4 a5 a6 a7).bind (fun r8 => if 0 ≤ r8 then (bndI (f_X11_layBook_67 I L a1 a2 a3 ((24 * a4) + a6) a7) (fun r9 Ir9 Lr9 => f_X11_book_67_l126 fuel a8 r9 1 0 0 Ir9 Lr9)) else (some (r8, I, L)))))))))))))))))
theorem ok_X11_book_67 {d : Nat} (hd : 2 ≤ d) {I : mI} {L : mL} {a1 : Int32} {a2 : Int32} {a3 : Int32} {a4 : Int32} {a5 : Int32} {a6 : Int32} {a7 : Int32} {a8 : Int32} {o : Int32 × mI × mL} (h : f_X11_book_67 I L a1 a2 a3 a4 a5 a6 a7 a8 = some o) : RR mX11_book d 0 [some (.ref 67), some (.int a1), some (.int a2), some (.int a3), some (.int a4), some (.int a5), some (.int a6), some (.int a7), some (.int a8), none, none, none, none, none] [] I L (retQ (some (.int o.1)) o.2.1 o.2.2) := by
  unfold f_X11_book_67 at h
  refine r_aload_n (i := 0) dX11_book_0 rfl rfl ?_
  refine r_iload_n (i := 1) dX11_book_1 rfl rfl ?_
  obtain ⟨r1, hr, h⟩ := bind_some h
  refine r_V (d' := 1) k_X11_68 dX11_book_2 (by omega) rfl rfl rfl (Nat.le_of_ble_eq_true rfl) (Nat.le_of_ble_eq_true rfl) (ok_X11_isParish_67 (Nat.le_refl _) hr) (fun v I' L' hq => ?_)
  obtain ⟨rfl, rfl, rfl⟩ := hq
  simp only [Option.toList_some, Option.toList_none, List.drop_succ_cons, List.drop_zero, List.drop_nil, List.cons_append, List.nil_append]
  refine r_if_eq (tgt := 74) dX11_book_5 (by decide) (fun c => ?_) (fun c => ?_)
  · rw [if_pos c] at h
    refine r_iconst (v := (-1)) dX11_book_74 (by decide) ?_
    refine r_iret (by first | rfl | decide) dX11_book_75 ?_
    obtain rfl := Option.some.inj h
    exact ⟨rfl, rfl, rfl⟩
  · rw [if_neg c] at h
    refine r_iload_n (i := 2) dX11_book_8 rfl rfl ?_
    refine r_i2l dX11_book_9 ?_
    refine r_lconst (v := 1) dX11_book_10 (by decide) ?_
    refine r_ldc2 n_X11_83 dX11_book_11 ?_
    obtain ⟨r2, hr, h⟩ := bind_some h
    refine r_S (d' := 0) k_X11_50 dX11_book_14 (by omega) rfl (Nat.le_of_ble_eq_true rfl) (Nat.le_of_ble_eq_true rfl) (ok_X11_in (Nat.le_refl _) hr) (fun v I' L' hq => ?_)
    obtain ⟨rfl, rfl, rfl⟩ := hq
    simp only [Option.toList_some, Option.toList_none, List.drop_succ_cons, List.drop_zero, List.drop_nil, List.cons_append, List.nil_append]
    refine r_if_eq (tgt := 74) dX11_book_17 (by decide) (fun c => ?_) (fun c => ?_)
    · rw [if_pos c] at h
      refine r_iconst (v := (-1)) dX11_book_74 (by decide) ?_
      refine r_iret (by first | rfl | decide) dX11_book_75 ?_
      obtain rfl := Option.some.inj h
      exact ⟨rfl, rfl, rfl⟩
    · rw [if_neg c] at h
      refine r_iload_n (i := 3) dX11_book_20 rfl rfl ?_
      refine r_i2l dX11_book_21 ?_
      refine r_lconst (v := 0) dX11_book_22 (by decide) ?_
      refine r_ldc2 n_X11_238 dX11_book_23 ?_
      obtain ⟨r3, hr, h⟩ := bind_some h
      refine r_S (d' := 0) k_X11_50 dX11_book_26 (by omega) rfl (Nat.le_of_ble_eq_true rfl) (Nat.le_of_ble_eq_true rfl) (ok_X11_in (Nat.le_refl _) hr) (fun v I' L' hq => ?_)
      obtain ⟨rfl, rfl, rfl⟩ := hq
      simp only [Option.toList_some, Option.toList_none, List.drop_succ_cons, List.drop_zero, List.drop_nil, List.cons_append, List.nil_append]
      refine r_if_eq (tgt := 74) dX11_book_29 (by decide) (fun c => ?_) (fun c => ?_)
      · rw [if_pos c] at h
        refine r_iconst (v := (-1)) dX11_book_74 (by decide) ?_
        refine r_iret (by first | rfl | decide) dX11_book_75 ?_
        obtain rfl := Option.some.inj h
        exact ⟨rfl, rfl, rfl⟩
      · rw [if_neg c] at h
        refine r_iload dX11_book_32 rfl ?_
        obtain ⟨r4, hr, h⟩ := bind_some h
        refine r_S (d' := 1) k_X11_220 dX11_book_34 (by omega) rfl (Nat.le_of_ble_eq_true rfl) (Nat.le_of_ble_eq_true rfl) (ok_X11_isSheet (Nat.le_refl _) hr) (fun v I' L' hq => ?_)
        obtain ⟨rfl, rfl, rfl⟩ := hq
        simp only [Option.toList_some, Option.toList_none, List.drop_succ_cons, List.drop_zero, List.drop_nil, List.cons_append, List.nil_append]
        refine r_if_eq (tgt := 74) dX11_book_37 (by decide) (fun c => ?_) (fun c => ?_)
        · rw [if_pos c] at h
          refine r_iconst (v := (-1)) dX11_book_74 (by decide) ?_
          refine r_iret (by first | rfl | decide) dX11_book_75 ?_
          obtain rfl := Option.some.inj h
          exact ⟨rfl, rfl, rfl⟩
        · rw [if_neg c] at h
          refine r_iload dX11_book_40 rfl ?_
          obtain ⟨r5, hr, h⟩ := bind_some h
          refine r_S (d' := 1) k_X11_223 dX11_book_42 (by omega) rfl (Nat.le_of_ble_eq_true rfl) (Nat.le_of_ble_eq_true rfl) (ok_X11_isLane (Nat.le_refl _) hr) (fun v I' L' hq => ?_)
          obtain ⟨rfl, rfl, rfl⟩ := hq
          simp only [Option.toList_some, Option.toList_none, List.drop_succ_cons, List.drop_zero, List.drop_nil, List.cons_append, List.nil_append]
          refine r_if_eq (tgt := 74) dX11_book_45 (by decide) (fun c => ?_) (fun c => ?_)
          · rw [if_pos c] at h
            refine r_iconst (v := (-1)) dX11_book_74 (by decide) ?_
            refine r_iret (by first | rfl | decide) dX11_book_75 ?_
            obtain rfl := Option.some.inj h
            exact ⟨rfl, rfl, rfl⟩
          · rw [if_neg c] at h
            refine r_iload dX11_book_48 rfl ?_
            refine r_i2l dX11_book_50 ?_
            refine r_lconst (v := 1) dX11_book_51 (by decide) ?_
            refine r_ldc2 n_X11_240 dX11_book_52 ?_
            obtain ⟨r6, hr, h⟩ := bind_some h
            refine r_S (d' := 0) k_X11_50 dX11_book_55 (by omega) rfl (Nat.le_of_ble_eq_true rfl) (Nat.le_of_ble_eq_true rfl) (ok_X11_in (Nat.le_refl _) hr) (fun v I' L' hq => ?_)
            obtain ⟨rfl, rfl, rfl⟩ := hq
            simp only [Option.toList_some, Option.toList_none, List.drop_succ_cons, List.drop_zero, List.drop_nil, List.cons_append, List.nil_append]
            refine r_if_eq (tgt := 74) dX11_book_58 (by decide) (fun c => ?_) (fun c => ?_)
            · rw [if_pos c] at h
              refine r_iconst (v := (-1)) dX11_book_74 (by decide) ?_
              refine r_iret (by first | rfl | decide) dX11_book_75 ?_
              obtain rfl := Option.some.inj h
              exact ⟨rfl, rfl, rfl⟩
            · rw [if_neg c] at h
              refine r_iload dX11_book_61 rfl ?_
              refine r_i2l dX11_book_63 ?_
              refine r_lconst (v := 0) dX11_book_64 (by decide) ?_
              refine r_ldc2 n_X11_93 dX11_book_65 ?_
              obtain ⟨r7, hr, h⟩ := bind_some h
              refine r_S (d' := 0) k_X11_50 dX11_book_68 (by omega) rfl (Nat.le_of_ble_eq_true rfl) (Nat.le_of_ble_eq_true rfl) (ok_X11_in (Nat.le_refl _) hr) (fun v I' L' hq => ?_)
              obtain ⟨rfl, rfl, rfl⟩ := hq
              simp only [Option.toList_some, Option.toList_none, List.drop_succ_cons, List.drop_zero, List.drop_nil, List.cons_append, List.nil_append]
              refine r_if_ne (tgt := 76) dX11_book_71 (by decide) (fun c => ?_) (fun c => ?_)
              · rw [if_neg c] at h
                refine r_aload_n (i := 0) dX11_book_76 rfl rfl ?_
                refine r_iload dX11_book_77 rfl ?_
                refine r_iload dX11_book_79 rfl ?_
                refine r_iload dX11_book_81 rfl ?_
                refine r_iload dX11_book_83 rfl ?_
                obtain ⟨r8, hr, h⟩ := bind_some h
                refine r_V (d' := 0) k_X11_226 dX11_book_85 (by omega) rfl rfl rfl (Nat.le_of_ble_eq_true rfl) (Nat.le_of_ble_eq_true rfl) (ok_X11_finds_67 (Nat.le_refl _) hr) (fun v I' L' hq => ?_)
                obtain ⟨rfl, rfl, rfl⟩ := hq
                simp only [Option.toList_some, Option.toList_none, List.drop_succ_cons, List.drop_zero, List.drop_nil, List.cons_append, List.nil_append]
                refine r_istore dX11_book_88 (by decide) rfl ?_
                simp only [List.set_cons_zero, List.set_cons_succ]
                refine r_iload dX11_book_90 rfl ?_
                refine r_if_ge (tgt := 98) dX11_book_92 (by decide) (fun c => ?_) (fun c => ?_)
                · rw [if_pos c] at h
                  refine r_aload_n (i := 0) dX11_book_98 rfl rfl ?_
                  refine r_iload_n (i := 1) dX11_book_99 rfl rfl ?_
                  refine r_iload_n (i := 2) dX11_book_100 rfl rfl ?_
                  refine r_iload_n (i := 3) dX11_book_101 rfl rfl ?_
                  refine r_bipush (v := 24) dX11_book_102 (by decide) ?_
                  refine r_iload dX11_book_104 rfl ?_
                  refine r_imul dX11_book_106 ?_
                  refine r_iload dX11_book_107 rfl ?_
                  refine r_iadd dX11_book_109 ?_
                  refine r_iload dX11_book_110 rfl ?_
                  obtain ⟨⟨r9, Ir9, Lr9⟩, hr, h⟩ := bind_some h
                  refine r_V (d' := 1) k_X11_242 dX11_book_112 (by omega) rfl rfl rfl (Nat.le_of_ble_eq_true rfl) (Nat.le_of_ble_eq_true rfl) (ok_X11_layBook_67 (Nat.le_refl _) hr) (fun v I' L' hq => ?_)
                  obtain ⟨rfl, rfl, rfl⟩ := hq
                  simp only [Option.toList_some, Option.toList_none, List.drop_succ_cons, List.drop_zero, List.drop_nil, List.cons_append, List.nil_append]
                  dsimp only at h
                  refine r_istore dX11_book_115 (by decide) rfl ?_
                  simp only [List.set_cons_zero, List.set_cons_succ]
                  refine r_iconst (v := 1) dX11_book_117 (by decide) ?_
                  refine r_istore dX11_book_118 (by decide) rfl ?_
                  simp only [List.set_cons_zero, List.set_cons_succ]
                  refine r_iconst (v := 0) dX11_book_120 (by decide) ?_
                  refine r_istore dX11_book_121 (by decide) rfl ?_
                  simp only [List.set_cons_zero, List.set_cons_succ]
                  refine r_iconst (v := 0) dX11_book_123 (by decide) ?_
                  refine r_istore dX11_book_124 (by decide) rfl ?_
                  simp only [List.set_cons_zero, List.set_cons_succ]
                  exact RR.wk (ok_X11_book_67_l126 hd _ _ _ _ _ _ _ _ _ h) (And.intro rfl (And.intro rfl (And.intro rfl (And.intro rfl (And.intro rfl (And.intro rfl (trivial)))))))
                · rw [if_neg c] at h
                  refine r_iload dX11_book_95 rfl ?_
                  refine r_iret (by first | rfl | decide) dX11_book_97 ?_
                  obtain rfl := Option.some.inj h
                  exact ⟨rfl, rfl, rfl⟩
              · rw [if_pos c] at h
                refine r_iconst (v := (-1)) dX11_book_74 (by decide) ?_
                refine r_iret (by first | rfl | decide) dX11_book_75 ?_
                obtain rfl := Option.some.inj h
                exact ⟨rfl, rfl, rfl⟩
def f_X11_mills_67_l56 (I : mI) (L : mL) : Nat → Int32 → Int32 → Int32 → Int32 → Int32 → Option Int32
  | 0, _, _, _, _, _ => none
  | n + 1, x1, x3, x4, x6, x7 => if x4 ≤ x7 then (some x6) else (ck (inb (((24 * x1) + x3) + (2 * x7)) 96) (lt (L 73 (((24 * x1) + x3) + (2 * x7)).toNatClampNeg) (fun v5 => ck (inb ((((24 * x1) + x3) + (2 * x7)) + 1) 96) (lt (L 73 ((((24 * x1) + x3) + (2 * x7)) + 1).toNatClampNeg) (fun v6 => (f_X11_in I L v5 0 (((I 68 (0 : Int32).toNatClampNeg) - 1).toInt64)).bind (fun r7 => if r7 = 0 then (some (-2)) else ((f_X11_in I L v6 0 99).bind (fun r8 => if r8 = 0 then (some (-2)) else ((f_X11_weight_67 I L (v5.toInt32) 1).bind (fun r9 => lt (x6 + (r9 * (v6.toInt32))) (fun v10 => lt (x7 + Int32.ofInt 1) (fun v11 => f_X11_mills_67_l56 I L n x1 x3 x4 v10 v11))))))))))))
theorem ok_X11_mills_67_l56 {d : Nat} (hd : 2 ≤ d){I : mI} {L : mL} : ∀ (n : Nat) (x1 : Int32) (x3 : Int32) (x4 : Int32) (x6 : Int32) (x7 : Int32) (o : Int32), f_X11_mills_67_l56 I L n x1 x3 x4 x6 x7 = some o → RR mX11_mills d 56 [some (.ref 67), some (.int x1), none, some (.int x3), some (.int x4), none, some (.int x6), some (.int x7), none, none, none, none] [] I L (retQ (some (.int o)) I L) := by
  intro n
  induction n with
  | zero => intro x1 x3 x4 x6 x7 o h; rw [f_X11_mills_67_l56] at h; cases h
  | succ n ih =>
    intro x1 x3 x4 x6 x7 o h
    rw [f_X11_mills_67_l56] at h
    refine r_iload dX11_mills_56 rfl ?_
    refine r_iload dX11_mills_58 rfl ?_
    refine r_icmp_ge (tgt := 157) dX11_mills_60 (by decide) (fun c => ?_) (fun c => ?_)
    · rw [if_pos c] at h
      refine r_iload dX11_mills_157 rfl ?_
      refine r_iret (by first | rfl | decide) dX11_mills_159 ?_
      obtain rfl := Option.some.inj h
      exact ⟨rfl, rfl, rfl⟩
    · rw [if_neg c] at h
      refine r_aload_n (i := 0) dX11_mills_63 rfl rfl ?_
      refine r_getR f_X11_25 dX11_mills_64 rfl rfl ?_
      refine r_bipush (v := 24) dX11_mills_67 (by decide) ?_
      refine r_iload_n (i := 1) dX11_mills_69 rfl rfl ?_
      refine r_imul dX11_mills_70 ?_
      refine r_iload_n (i := 3) dX11_mills_71 rfl rfl ?_
      refine r_iadd dX11_mills_72 ?_
      refine r_iconst (v := 2) dX11_mills_73 (by decide) ?_
      refine r_iload dX11_mills_74 rfl ?_
      refine r_imul dX11_mills_76 ?_
      refine r_iadd dX11_mills_77 ?_
      obtain ⟨hb, h⟩ := ck_some h
      refine r_lald rfl (inb_vp hb) dX11_mills_78 ?_
      refine r_lstore dX11_mills_79 (by decide) rfl ?_
      simp only [List.set_cons_zero, List.set_cons_succ]
      replace h := lt_some h
      refine r_aload_n (i := 0) dX11_mills_81 rfl rfl ?_
      refine r_getR f_X11_25 dX11_mills_82 rfl rfl ?_
      refine r_bipush (v := 24) dX11_mills_85 (by decide) ?_
      refine r_iload_n (i := 1) dX11_mills_87 rfl rfl ?_
      refine r_imul dX11_mills_88 ?_
      refine r_iload_n (i := 3) dX11_mills_89 rfl rfl ?_
      refine r_iadd dX11_mills_90 ?_
      refine r_iconst (v := 2) dX11_mills_91 (by decide) ?_
      refine r_iload dX11_mills_92 rfl ?_
      refine r_imul dX11_mills_94 ?_
      refine r_iadd dX11_mills_95 ?_
      refine r_iconst (v := 1) dX11_mills_96 (by decide) ?_
      refine r_iadd dX11_mills_97 ?_
      obtain ⟨hb, h⟩ := ck_some h
      refine r_lald rfl (inb_vp hb) dX11_mills_98 ?_
      refine r_lstore dX11_mills_99 (by decide) rfl ?_
      simp only [List.set_cons_zero, List.set_cons_succ]
      replace h := lt_some h
      refine r_lload dX11_mills_101 rfl ?_
      refine r_lconst (v := 0) dX11_mills_103 (by decide) ?_
      refine r_aload_n (i := 0) dX11_mills_104 rfl rfl ?_
      refine r_getR f_X11_7 dX11_mills_105 rfl rfl ?_
      refine r_iconst (v := 0) dX11_mills_108 (by decide) ?_
      refine r_iald rfl (vp_lit (by decide)) dX11_mills_109 ?_
      refine r_iconst (v := 1) dX11_mills_110 (by decide) ?_
      refine r_isub dX11_mills_111 ?_
      refine r_i2l dX11_mills_112 ?_
      obtain ⟨r7, hr, h⟩ := bind_some h
      refine r_S (d' := 0) k_X11_50 dX11_mills_113 (by omega) rfl (Nat.le_of_ble_eq_true rfl) (Nat.le_of_ble_eq_true rfl) (ok_X11_in (Nat.le_refl _) hr) (fun v I' L' hq => ?_)
      obtain ⟨rfl, rfl, rfl⟩ := hq
      simp only [Option.toList_some, Option.toList_none, List.drop_succ_cons, List.drop_zero, List.drop_nil, List.cons_append, List.nil_append]
      refine r_if_eq (tgt := 131) dX11_mills_116 (by decide) (fun c => ?_) (fun c => ?_)
      · rw [if_pos c] at h
        refine r_bipush (v := (-2)) dX11_mills_131 (by decide) ?_
        refine r_iret (by first | rfl | decide) dX11_mills_133 ?_
        obtain rfl := Option.some.inj h
        exact ⟨rfl, rfl, rfl⟩
      · rw [if_neg c] at h
        refine r_lload dX11_mills_119 rfl ?_
        refine r_lconst (v := 0) dX11_mills_121 (by decide) ?_
        refine r_ldc2 n_X11_83 dX11_mills_122 ?_
        obtain ⟨r8, hr, h⟩ := bind_some h
        refine r_S (d' := 0) k_X11_50 dX11_mills_125 (by omega) rfl (Nat.le_of_ble_eq_true rfl) (Nat.le_of_ble_eq_true rfl) (ok_X11_in (Nat.le_refl _) hr) (fun v I' L' hq => ?_)
        obtain ⟨rfl, rfl, rfl⟩ := hq
        simp only [Option.toList_some, Option.toList_none, List.drop_succ_cons, List.drop_zero, List.drop_nil, List.cons_append, List.nil_append]
        refine r_if_ne (tgt := 134) dX11_mills_128 (by decide) (fun c => ?_) (fun c => ?_)
        · rw [if_neg c] at h
          refine r_iload dX11_mills_134 rfl ?_
          refine r_aload_n (i := 0) dX11_mills_136 rfl rfl ?_
          refine r_lload dX11_mills_137 rfl ?_
          refine r_l2i dX11_mills_139 ?_
          refine r_iconst (v := 1) dX11_mills_140 (by decide) ?_
          obtain ⟨r9, hr, h⟩ := bind_some h
          refine r_V (d' := 1) k_X11_88 dX11_mills_141 (by omega) rfl rfl rfl (Nat.le_of_ble_eq_true rfl) (Nat.le_of_ble_eq_true rfl) (ok_X11_weight_67 (Nat.le_refl _) hr) (fun v I' L' hq => ?_)
          obtain ⟨rfl, rfl, rfl⟩ := hq
          simp only [Option.toList_some, Option.toList_none, List.drop_succ_cons, List.drop_zero, List.drop_nil, List.cons_append, List.nil_append]
          refine r_lload dX11_mills_144 rfl ?_
          refine r_l2i dX11_mills_146 ?_
          refine r_imul dX11_mills_147 ?_
          refine r_iadd dX11_mills_148 ?_
          refine r_istore dX11_mills_149 (by decide) rfl ?_
          simp only [List.set_cons_zero, List.set_cons_succ]
          replace h := lt_some h
          refine r_iinc (v := _) dX11_mills_151 rfl rfl (by decide) rfl ?_
          simp only [List.set_cons_zero, List.set_cons_succ]
          replace h := lt_some h
          refine r_goto (tgt := 56) dX11_mills_154 (by decide) ?_
          exact RR.wk (ih _ _ _ _ _ _ h) (And.intro rfl (And.intro rfl (And.intro rfl (And.intro rfl (And.intro rfl (And.intro rfl (trivial)))))))
        · rw [if_pos c] at h
          refine r_bipush (v := (-2)) dX11_mills_131 (by decide) ?_
          refine r_iret (by first | rfl | decide) dX11_mills_133 ?_
          obtain rfl := Option.some.inj h
          exact ⟨rfl, rfl, rfl⟩
def f_X11_mills_67 (I : mI) (L : mL) (a1 : Int32) (a2 : Int32) (a3 : Int32) (a4 : Int32) : Option Int32 := (f_X11_isSheet I L a1).bind (fun r1 => if r1 = 0 then (some (-1)) else ((f_X11_isLane I L a2).bind (fun r2 => if r2 = 0 then (some (-1)) else ((f_X11_in I L (a4.toInt64) 1 8).bind (fun r3 => if r3 = 0 then (some (-1)) else ((f_X11_finds_67 I L a1 a2 a3 (2 * a4)).bind (fun r4 => if 0 ≤ r4 then (f_X11_mills_67_l56 I L fuel a1 a3 a4 0 0) else (some r4))))))))
theorem ok_X11_mills_67 {d : Nat} (hd : 2 ≤ d) {I : mI} {L : mL} {a1 : Int32} {a2 : Int32} {a3 : Int32} {a4 : Int32} {o : Int32} (h : f_X11_mills_67 I L a1 a2 a3 a4 = some o) : RR mX11_mills d 0 [some (.ref 67), some (.int a1), some (.int a2), some (.int a3), some (.int a4), none, none, none, none, none, none, none] [] I L (retQ (some (.int o)) I L) := by
  unfold f_X11_mills_67 at h
  refine r_iload_n (i := 1) dX11_mills_0 rfl rfl ?_
  obtain ⟨r1, hr, h⟩ := bind_some h
  refine r_S (d' := 1) k_X11_220 dX11_mills_1 (by omega) rfl (Nat.le_of_ble_eq_true rfl) (Nat.le_of_ble_eq_true rfl) (ok_X11_isSheet (Nat.le_refl _) hr) (fun v I' L' hq => ?_)
  obtain ⟨rfl, rfl, rfl⟩ := hq
  simp only [Option.toList_some, Option.toList_none, List.drop_succ_cons, List.drop_zero, List.drop_nil, List.cons_append, List.nil_append]
  refine r_if_eq (tgt := 27) dX11_mills_4 (by decide) (fun c => ?_) (fun c => ?_)
  · rw [if_pos c] at h
    refine r_iconst (v := (-1)) dX11_mills_27 (by decide) ?_
    refine r_iret (by first | rfl | decide) dX11_mills_28 ?_
    obtain rfl := Option.some.inj h
    exact ⟨rfl, rfl, rfl⟩
  · rw [if_neg c] at h
    refine r_iload_n (i := 2) dX11_mills_7 rfl rfl ?_
    obtain ⟨r2, hr, h⟩ := bind_some h
    refine r_S (d' := 1) k_X11_223 dX11_mills_8 (by omega) rfl (Nat.le_of_ble_eq_true rfl) (Nat.le_of_ble_eq_true rfl) (ok_X11_isLane (Nat.le_refl _) hr) (fun v I' L' hq => ?_)
    obtain ⟨rfl, rfl, rfl⟩ := hq
    simp only [Option.toList_some, Option.toList_none, List.drop_succ_cons, List.drop_zero, List.drop_nil, List.cons_append, List.nil_append]
    refine r_if_eq (tgt := 27) dX11_mills_11 (by decide) (fun c => ?_) (fun c => ?_)
    · rw [if_pos c] at h
      refine r_iconst (v := (-1)) dX11_mills_27 (by decide) ?_
      refine r_iret (by first | rfl | decide) dX11_mills_28 ?_
      obtain rfl := Option.some.inj h
      exact ⟨rfl, rfl, rfl⟩
    · rw [if_neg c] at h
      refine r_iload dX11_mills_14 rfl ?_
      refine r_i2l dX11_mills_16 ?_
      refine r_lconst (v := 1) dX11_mills_17 (by decide) ?_
      refine r_ldc2 n_X11_102 dX11_mills_18 ?_
      obtain ⟨r3, hr, h⟩ := bind_some h
      refine r_S (d' := 0) k_X11_50 dX11_mills_21 (by omega) rfl (Nat.le_of_ble_eq_true rfl) (Nat.le_of_ble_eq_true rfl) (ok_X11_in (Nat.le_refl _) hr) (fun v I' L' hq => ?_)
      obtain ⟨rfl, rfl, rfl⟩ := hq
      simp only [Option.toList_some, Option.toList_none, List.drop_succ_cons, List.drop_zero, List.drop_nil, List.cons_append, List.nil_append]
      refine r_if_ne (tgt := 29) dX11_mills_24 (by decide) (fun c => ?_) (fun c => ?_)
      · rw [if_neg c] at h
        refine r_aload_n (i := 0) dX11_mills_29 rfl rfl ?_
        refine r_iload_n (i := 1) dX11_mills_30 rfl rfl ?_
        refine r_iload_n (i := 2) dX11_mills_31 rfl rfl ?_
        refine r_iload_n (i := 3) dX11_mills_32 rfl rfl ?_
        refine r_iconst (v := 2) dX11_mills_33 (by decide) ?_
        refine r_iload dX11_mills_34 rfl ?_
        refine r_imul dX11_mills_36 ?_
        obtain ⟨r4, hr, h⟩ := bind_some h
        refine r_V (d' := 0) k_X11_226 dX11_mills_37 (by omega) rfl rfl rfl (Nat.le_of_ble_eq_true rfl) (Nat.le_of_ble_eq_true rfl) (ok_X11_finds_67 (Nat.le_refl _) hr) (fun v I' L' hq => ?_)
        obtain ⟨rfl, rfl, rfl⟩ := hq
        simp only [Option.toList_some, Option.toList_none, List.drop_succ_cons, List.drop_zero, List.drop_nil, List.cons_append, List.nil_append]
        refine r_istore dX11_mills_40 (by decide) rfl ?_
        simp only [List.set_cons_zero, List.set_cons_succ]
        refine r_iload dX11_mills_42 rfl ?_
        refine r_if_ge (tgt := 50) dX11_mills_44 (by decide) (fun c => ?_) (fun c => ?_)
        · rw [if_pos c] at h
          refine r_iconst (v := 0) dX11_mills_50 (by decide) ?_
          refine r_istore dX11_mills_51 (by decide) rfl ?_
          simp only [List.set_cons_zero, List.set_cons_succ]
          refine r_iconst (v := 0) dX11_mills_53 (by decide) ?_
          refine r_istore dX11_mills_54 (by decide) rfl ?_
          simp only [List.set_cons_zero, List.set_cons_succ]
          exact RR.wk (ok_X11_mills_67_l56 hd _ _ _ _ _ _ _ h) (And.intro rfl (And.intro rfl (And.intro rfl (And.intro rfl (And.intro rfl (And.intro rfl (trivial)))))))
        · rw [if_neg c] at h
          refine r_iload dX11_mills_47 rfl ?_
          refine r_iret (by first | rfl | decide) dX11_mills_49 ?_
          obtain rfl := Option.some.inj h
          exact ⟨rfl, rfl, rfl⟩
      · rw [if_pos c] at h
        refine r_iconst (v := (-1)) dX11_mills_27 (by decide) ?_
        refine r_iret (by first | rfl | decide) dX11_mills_28 ?_
        obtain rfl := Option.some.inj h
        exact ⟨rfl, rfl, rfl⟩
def f_X11_cut (I : mI) (L : mL) (a0 : Int32) (a1 : Int64) : Option Int64 := if a0 = 0 then (some (((a1.toInt32).toInt16.toInt32).toInt64)) else (if a0 = 1 then (some ((a1.toInt32).toInt64)) else (some a1))
theorem ok_X11_cut {d : Nat} (hd : 0 ≤ d) {I : mI} {L : mL} {a0 : Int32} {a1 : Int64} {o : Int64} (h : f_X11_cut I L a0 a1 = some o) : RR mX11_cut d 0 [some (.int a0), some (.long a1), none] [] I L (retQ (some (.long o)) I L) := by
  unfold f_X11_cut at h
  refine r_iload_n (i := 0) dX11_cut_0 rfl rfl ?_
  refine r_if_ne (tgt := 11) dX11_cut_1 (by decide) (fun c => ?_) (fun c => ?_)
  · rw [if_neg c] at h
    refine r_iload_n (i := 0) dX11_cut_11 rfl rfl ?_
    refine r_iconst (v := 1) dX11_cut_12 (by decide) ?_
    refine r_icmp_ne (tgt := 22) dX11_cut_13 (by decide) (fun c => ?_) (fun c => ?_)
    · rw [if_neg c] at h
      refine r_lload_n (i := 1) dX11_cut_22 rfl rfl ?_
      refine r_lret dX11_cut_23 ?_
      obtain rfl := Option.some.inj h
      exact ⟨rfl, rfl, rfl⟩
    · rw [if_pos c] at h
      refine r_lload_n (i := 1) dX11_cut_16 rfl rfl ?_
      refine r_l2i dX11_cut_17 ?_
      refine r_i2l dX11_cut_18 ?_
      refine r_goto (tgt := 23) dX11_cut_19 (by decide) ?_
      refine r_lret dX11_cut_23 ?_
      obtain rfl := Option.some.inj h
      exact ⟨rfl, rfl, rfl⟩
  · rw [if_pos c] at h
    refine r_lload_n (i := 1) dX11_cut_4 rfl rfl ?_
    refine r_l2i dX11_cut_5 ?_
    refine r_i2s dX11_cut_6 ?_
    refine r_i2l dX11_cut_7 ?_
    refine r_goto (tgt := 23) dX11_cut_8 (by decide) ?_
    refine r_lret dX11_cut_23 ?_
    obtain rfl := Option.some.inj h
    exact ⟨rfl, rfl, rfl⟩
def f_X11_film_67_l42 : Nat → Int32 → Int32 → Int32 → Int32 → mI → mL → rI
  | 0, _, _, _, _, _, _ => none
  | n + 1, x1, x2, x3, x5, I, L => if (I 68 (3 : Int32).toNatClampNeg) ≤ x5 then (some (I 68 (3 : Int32).toNatClampNeg, I, L)) else (ck (inb (111 + x5) 135) (ck (inb (99 + x5) 135) ((f_X11_weight_67 I L (I 68 (111 + x5).toNatClampNeg) (I 68 (99 + x5).toNatClampNeg)).bind (fun r4 => (f_X11_cut I L x2 (r4.toInt64)).bind (fun r5 => ck (inb (((24 * x1) + x3) + x5) 96) (lt (uL L 73 (((24 * x1) + x3) + x5).toNatClampNeg r5) (fun M6 => lt (x5 + Int32.ofInt 1) (fun v7 => f_X11_film_67_l42 n x1 x2 x3 v7 I M6))))))))
theorem ok_X11_film_67_l42 {d : Nat} (hd : 2 ≤ d) : ∀ (n : Nat) (x1 : Int32) (x2 : Int32) (x3 : Int32) (x5 : Int32) (I : mI) (L : mL) (o : Int32 × mI × mL), f_X11_film_67_l42 n x1 x2 x3 x5 I L = some o → RR mX11_film d 42 [some (.ref 67), some (.int x1), some (.int x2), some (.int x3), none, some (.int x5)] [] I L (retQ (some (.int o.1)) o.2.1 o.2.2) := by
  intro n
  induction n with
  | zero => intro x1 x2 x3 x5 I L o h; rw [f_X11_film_67_l42] at h; cases h
  | succ n ih =>
    intro x1 x2 x3 x5 I L o h
    rw [f_X11_film_67_l42] at h
    refine r_iload dX11_film_42 rfl ?_
    refine r_aload_n (i := 0) dX11_film_44 rfl rfl ?_
    refine r_getR f_X11_7 dX11_film_45 rfl rfl ?_
    refine r_iconst (v := 3) dX11_film_48 (by decide) ?_
    refine r_iald rfl (vp_lit (by decide)) dX11_film_49 ?_
    refine r_icmp_ge (tgt := 102) dX11_film_50 (by decide) (fun c => ?_) (fun c => ?_)
    · rw [if_pos c] at h
      refine r_aload_n (i := 0) dX11_film_102 rfl rfl ?_
      refine r_getR f_X11_7 dX11_film_103 rfl rfl ?_
      refine r_iconst (v := 3) dX11_film_106 (by decide) ?_
      refine r_iald rfl (vp_lit (by decide)) dX11_film_107 ?_
      refine r_iret (by first | rfl | decide) dX11_film_108 ?_
      obtain rfl := Option.some.inj h
      exact ⟨rfl, rfl, rfl⟩
    · rw [if_neg c] at h
      refine r_aload_n (i := 0) dX11_film_53 rfl rfl ?_
      refine r_getR f_X11_25 dX11_film_54 rfl rfl ?_
      refine r_bipush (v := 24) dX11_film_57 (by decide) ?_
      refine r_iload_n (i := 1) dX11_film_59 rfl rfl ?_
      refine r_imul dX11_film_60 ?_
      refine r_iload_n (i := 3) dX11_film_61 rfl rfl ?_
      refine r_iadd dX11_film_62 ?_
      refine r_iload dX11_film_63 rfl ?_
      refine r_iadd dX11_film_65 ?_
      refine r_iload_n (i := 2) dX11_film_66 rfl rfl ?_
      refine r_aload_n (i := 0) dX11_film_67 rfl rfl ?_
      refine r_aload_n (i := 0) dX11_film_68 rfl rfl ?_
      refine r_getR f_X11_7 dX11_film_69 rfl rfl ?_
      refine r_bipush (v := 111) dX11_film_72 (by decide) ?_
      refine r_iload dX11_film_74 rfl ?_
      refine r_iadd dX11_film_76 ?_
      obtain ⟨hb, h⟩ := ck_some h
      refine r_iald rfl (inb_vp hb) dX11_film_77 ?_
      refine r_aload_n (i := 0) dX11_film_78 rfl rfl ?_
      refine r_getR f_X11_7 dX11_film_79 rfl rfl ?_
      refine r_bipush (v := 99) dX11_film_82 (by decide) ?_
      refine r_iload dX11_film_84 rfl ?_
      refine r_iadd dX11_film_86 ?_
      obtain ⟨hb, h⟩ := ck_some h
      refine r_iald rfl (inb_vp hb) dX11_film_87 ?_
      obtain ⟨r4, hr, h⟩ := bind_some h
      refine r_V (d' := 1) k_X11_88 dX11_film_88 (by omega) rfl rfl rfl (Nat.le_of_ble_eq_true rfl) (Nat.le_of_ble_eq_true rfl) (ok_X11_weight_67 (Nat.le_refl _) hr) (fun v I' L' hq => ?_)
      obtain ⟨rfl, rfl, rfl⟩ := hq
      simp only [Option.toList_some, Option.toList_none, List.drop_succ_cons, List.drop_zero, List.drop_nil, List.cons_append, List.nil_append]
      refine r_i2l dX11_film_91 ?_
      obtain ⟨r5, hr, h⟩ := bind_some h
      refine r_S (d' := 0) k_X11_245 dX11_film_92 (by omega) rfl (Nat.le_of_ble_eq_true rfl) (Nat.le_of_ble_eq_true rfl) (ok_X11_cut (Nat.le_refl _) hr) (fun v I' L' hq => ?_)
      obtain ⟨rfl, rfl, rfl⟩ := hq
      simp only [Option.toList_some, Option.toList_none, List.drop_succ_cons, List.drop_zero, List.drop_nil, List.cons_append, List.nil_append]
      obtain ⟨hb, h⟩ := ck_some h
      refine r_last rfl (inb_vp hb) dX11_film_95 ?_
      replace h := lt_some h
      refine r_iinc (v := _) dX11_film_96 rfl rfl (by decide) rfl ?_
      simp only [List.set_cons_zero, List.set_cons_succ]
      replace h := lt_some h
      refine r_goto (tgt := 42) dX11_film_99 (by decide) ?_
      exact RR.wk (ih _ _ _ _ _ _ _ h) (And.intro rfl (And.intro rfl (And.intro rfl (And.intro rfl (And.intro rfl (trivial))))))
def f_X11_film_67 (I : mI) (L : mL) (a1 : Int32) (a2 : Int32) (a3 : Int32) : rI := (f_X11_isSheet I L a1).bind (fun r1 => if r1 = 0 then (some ((-1), I, L)) else ((f_X11_isLane I L a2).bind (fun r2 => if r2 = 0 then (some ((-1), I, L)) else ((f_X11_finds_67 I L a1 a2 a3 (I 68 (3 : Int32).toNatClampNeg)).bind (fun r3 => if 0 ≤ r3 then (f_X11_film_67_l42 fuel a1 a2 a3 0 I L) else (some (r3, I, L)))))))
theorem ok_X11_film_67 {d : Nat} (hd : 2 ≤ d) {I : mI} {L : mL} {a1 : Int32} {a2 : Int32} {a3 : Int32} {o : Int32 × mI × mL} (h : f_X11_film_67 I L a1 a2 a3 = some o) : RR mX11_film d 0 [some (.ref 67), some (.int a1), some (.int a2), some (.int a3), none, none] [] I L (retQ (some (.int o.1)) o.2.1 o.2.2) := by
  unfold f_X11_film_67 at h
  refine r_iload_n (i := 1) dX11_film_0 rfl rfl ?_
  obtain ⟨r1, hr, h⟩ := bind_some h
  refine r_S (d' := 1) k_X11_220 dX11_film_1 (by omega) rfl (Nat.le_of_ble_eq_true rfl) (Nat.le_of_ble_eq_true rfl) (ok_X11_isSheet (Nat.le_refl _) hr) (fun v I' L' hq => ?_)
  obtain ⟨rfl, rfl, rfl⟩ := hq
  simp only [Option.toList_some, Option.toList_none, List.drop_succ_cons, List.drop_zero, List.drop_nil, List.cons_append, List.nil_append]
  refine r_if_eq (tgt := 14) dX11_film_4 (by decide) (fun c => ?_) (fun c => ?_)
  · rw [if_pos c] at h
    refine r_iconst (v := (-1)) dX11_film_14 (by decide) ?_
    refine r_iret (by first | rfl | decide) dX11_film_15 ?_
    obtain rfl := Option.some.inj h
    exact ⟨rfl, rfl, rfl⟩
  · rw [if_neg c] at h
    refine r_iload_n (i := 2) dX11_film_7 rfl rfl ?_
    obtain ⟨r2, hr, h⟩ := bind_some h
    refine r_S (d' := 1) k_X11_223 dX11_film_8 (by omega) rfl (Nat.le_of_ble_eq_true rfl) (Nat.le_of_ble_eq_true rfl) (ok_X11_isLane (Nat.le_refl _) hr) (fun v I' L' hq => ?_)
    obtain ⟨rfl, rfl, rfl⟩ := hq
    simp only [Option.toList_some, Option.toList_none, List.drop_succ_cons, List.drop_zero, List.drop_nil, List.cons_append, List.nil_append]
    refine r_if_ne (tgt := 16) dX11_film_11 (by decide) (fun c => ?_) (fun c => ?_)
    · rw [if_neg c] at h
      refine r_aload_n (i := 0) dX11_film_16 rfl rfl ?_
      refine r_iload_n (i := 1) dX11_film_17 rfl rfl ?_
      refine r_iload_n (i := 2) dX11_film_18 rfl rfl ?_
      refine r_iload_n (i := 3) dX11_film_19 rfl rfl ?_
      refine r_aload_n (i := 0) dX11_film_20 rfl rfl ?_
      refine r_getR f_X11_7 dX11_film_21 rfl rfl ?_
      refine r_iconst (v := 3) dX11_film_24 (by decide) ?_
      refine r_iald rfl (vp_lit (by decide)) dX11_film_25 ?_
      obtain ⟨r3, hr, h⟩ := bind_some h
      refine r_V (d' := 0) k_X11_226 dX11_film_26 (by omega) rfl rfl rfl (Nat.le_of_ble_eq_true rfl) (Nat.le_of_ble_eq_true rfl) (ok_X11_finds_67 (Nat.le_refl _) hr) (fun v I' L' hq => ?_)
      obtain ⟨rfl, rfl, rfl⟩ := hq
      simp only [Option.toList_some, Option.toList_none, List.drop_succ_cons, List.drop_zero, List.drop_nil, List.cons_append, List.nil_append]
      refine r_istore dX11_film_29 (by decide) rfl ?_
      simp only [List.set_cons_zero, List.set_cons_succ]
      refine r_iload dX11_film_31 rfl ?_
      refine r_if_ge (tgt := 39) dX11_film_33 (by decide) (fun c => ?_) (fun c => ?_)
      · rw [if_pos c] at h
        refine r_iconst (v := 0) dX11_film_39 (by decide) ?_
        refine r_istore dX11_film_40 (by decide) rfl ?_
        simp only [List.set_cons_zero, List.set_cons_succ]
        exact RR.wk (ok_X11_film_67_l42 hd _ _ _ _ _ _ _ _ h) (And.intro rfl (And.intro rfl (And.intro rfl (And.intro rfl (And.intro rfl (trivial))))))
      · rw [if_neg c] at h
        refine r_iload dX11_film_36 rfl ?_
        refine r_iret (by first | rfl | decide) dX11_film_38 ?_
        obtain rfl := Option.some.inj h
        exact ⟨rfl, rfl, rfl⟩
    · rw [if_pos c] at h
      refine r_iconst (v := (-1)) dX11_film_14 (by decide) ?_
      refine r_iret (by first | rfl | decide) dX11_film_15 ?_
      obtain rfl := Option.some.inj h
      exact ⟨rfl, rfl, rfl⟩
