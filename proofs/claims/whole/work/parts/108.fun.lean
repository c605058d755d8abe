def f_X11_type_67 (I : mI) (L : mL) (a1 : Int32) : rI := (f_X11_in I L (a1.toInt64) 32 126).bind (fun r1 => if r1 = 0 then (some ((-1), I, L)) else (if (I 67 4) = 120 then (some ((-3), I, L)) else (ck (inb (I 67 4) 120) (lt (uI I 70 (I 67 4).toNatClampNeg a1) (fun M2 => lt (uI M2 67 4 ((M2 67 4) + 1)) (fun M3 => some (M3 67 4, M3, L)))))))
theorem ok_X11_type_67 {d : Nat} (hd : 1 ≤ d) {I : mI} {L : mL} {a1 : Int32} {o : Int32 × mI × mL} (h : f_X11_type_67 I L a1 = some o) : RR mX11_type d 0 [some (.ref 67), some (.int a1)] [] I L (retQ (some (.int o.1)) o.2.1 o.2.2) := by
  unfold f_X11_type_67 at h
  refine r_iload_n (i := 1) dX11_type_0 rfl rfl ?_
  refine r_i2l dX11_type_1 ?_
  refine r_ldc2 n_X11_109 dX11_type_2 ?_
  refine r_ldc2 n_X11_111 dX11_type_5 ?_
  obtain ⟨r1, hr, h⟩ := bind_some h
  refine r_S (d' := 0) k_X11_50 dX11_type_8 (by omega) rfl (Nat.le_of_ble_eq_true rfl) (Nat.le_of_ble_eq_true rfl) (ok_X11_in (Nat.le_refl _) hr) (fun v I' L' hq => ?_)
  obtain ⟨rfl, rfl, rfl⟩ := hq
  simp only [Option.toList_some, Option.toList_none, List.drop_succ_cons, List.drop_zero, List.drop_nil, List.cons_append, List.nil_append]
  refine r_if_ne (tgt := 16) dX11_type_11 (by decide) (fun c => ?_) (fun c => ?_)
  · rw [if_neg c] at h
    refine r_aload_n (i := 0) dX11_type_16 rfl rfl ?_
    refine r_getI f_X11_113 dX11_type_17 rfl rfl ?_
    refine r_bipush (v := 120) dX11_type_20 (by decide) ?_
    refine r_icmp_ne (tgt := 28) dX11_type_22 (by decide) (fun c => ?_) (fun c => ?_)
    · rw [if_neg c] at h
      refine r_aload_n (i := 0) dX11_type_28 rfl rfl ?_
      refine r_getR f_X11_16 dX11_type_29 rfl rfl ?_
      refine r_aload_n (i := 0) dX11_type_32 rfl rfl ?_
      refine r_getI f_X11_113 dX11_type_33 rfl rfl ?_
      refine r_iload_n (i := 1) dX11_type_36 rfl rfl ?_
      obtain ⟨hb, h⟩ := ck_some h
      refine r_iast rfl (inb_vp hb) dX11_type_37 ?_
      replace h := lt_some h
      refine r_aload_n (i := 0) dX11_type_38 rfl rfl ?_
      refine r_dup dX11_type_39 rfl ?_
      refine r_getI f_X11_113 dX11_type_40 rfl rfl ?_
      refine r_iconst (v := 1) dX11_type_43 (by decide) ?_
      refine r_iadd dX11_type_44 ?_
      refine r_putI f_X11_113 rfl rfl dX11_type_45 rfl rfl ?_
      replace h := lt_some h
      refine r_aload_n (i := 0) dX11_type_48 rfl rfl ?_
      refine r_getI f_X11_113 dX11_type_49 rfl rfl ?_
      refine r_iret (by first | rfl | decide) dX11_type_52 ?_
      obtain rfl := Option.some.inj h
      exact ⟨rfl, rfl, rfl⟩
    · rw [if_pos c] at h
      refine r_bipush (v := (-3)) dX11_type_25 (by decide) ?_
      refine r_iret (by first | rfl | decide) dX11_type_27 ?_
      obtain rfl := Option.some.inj h
      exact ⟨rfl, rfl, rfl⟩
  · rw [if_pos c] at h
    refine r_iconst (v := (-1)) dX11_type_14 (by decide) ?_
    refine r_iret (by first | rfl | decide) dX11_type_15 ?_
    obtain rfl := Option.some.inj h
    exact ⟨rfl, rfl, rfl⟩
def f_X11_next_67_b38 (I : mI) (L : mL) : rI := if (I 67 4) ≤ (I 67 8) then (some (0, I, L)) else (ck (inb (I 67 8) 120) (some (I 70 (I 67 8).toNatClampNeg, I, L)))
theorem ok_X11_next_67_b38 {d : Nat} (hd : 0 ≤ d){I : mI} {L : mL} {o : Int32 × mI × mL} (h : f_X11_next_67_b38 I L = some o) : RR mX11_next d 38 [some (.ref 67)] [] I L (retQ (some (.int o.1)) o.2.1 o.2.2) := by
  unfold f_X11_next_67_b38 at h
  refine r_aload_n (i := 0) dX11_next_38 rfl rfl ?_
  refine r_getI f_X11_117 dX11_next_39 rfl rfl ?_
  refine r_aload_n (i := 0) dX11_next_42 rfl rfl ?_
  refine r_getI f_X11_113 dX11_next_43 rfl rfl ?_
  refine r_icmp_ge (tgt := 61) dX11_next_46 (by decide) (fun c => ?_) (fun c => ?_)
  · rw [if_pos c] at h
    refine r_iconst (v := 0) dX11_next_61 (by decide) ?_
    refine r_iret (by first | rfl | decide) dX11_next_62 ?_
    obtain rfl := Option.some.inj h
    exact ⟨rfl, rfl, rfl⟩
  · rw [if_neg c] at h
    refine r_aload_n (i := 0) dX11_next_49 rfl rfl ?_
    refine r_getR f_X11_16 dX11_next_50 rfl rfl ?_
    refine r_aload_n (i := 0) dX11_next_53 rfl rfl ?_
    refine r_getI f_X11_117 dX11_next_54 rfl rfl ?_
    obtain ⟨hb, h⟩ := ck_some h
    refine r_iald rfl (inb_vp hb) dX11_next_57 ?_
    refine r_goto (tgt := 62) dX11_next_58 (by decide) ?_
    refine r_iret (by first | rfl | decide) dX11_next_62 ?_
    obtain rfl := Option.some.inj h
    exact ⟨rfl, rfl, rfl⟩
def f_X11_next_67_l0 : Nat → mI → mL → rI
  | 0, _, _ => none
  | n + 1, I, L => if (I 67 4) ≤ (I 67 8) then (f_X11_next_67_b38 I L) else (ck (inb (I 67 8) 120) (if (I 70 (I 67 8).toNatClampNeg) = 32 then (lt (uI I 67 8 ((I 67 8) + 1)) (fun M1 => f_X11_next_67_l0 n M1 L)) else (f_X11_next_67_b38 I L)))
theorem ok_X11_next_67_l0 {d : Nat} (hd : 0 ≤ d) : ∀ (n : Nat) (I : mI) (L : mL) (o : Int32 × mI × mL), f_X11_next_67_l0 n I L = some o → RR mX11_next d 0 [some (.ref 67)] [] I L (retQ (some (.int o.1)) o.2.1 o.2.2) := by
  intro n
  induction n with
  | zero => intro I L o h; rw [f_X11_next_67_l0] at h; cases h
  | succ n ih =>
    intro I L o h
    rw [f_X11_next_67_l0] at h
    refine r_aload_n (i := 0) dX11_next_0 rfl rfl ?_
    refine r_getI f_X11_117 dX11_next_1 rfl rfl ?_
    refine r_aload_n (i := 0) dX11_next_4 rfl rfl ?_
    refine r_getI f_X11_113 dX11_next_5 rfl rfl ?_
    refine r_icmp_ge (tgt := 38) dX11_next_8 (by decide) (fun c => ?_) (fun c => ?_)
    · rw [if_pos c] at h
      exact RR.wk (ok_X11_next_67_b38 hd h) (And.intro rfl (trivial))
    · rw [if_neg c] at h
      refine r_aload_n (i := 0) dX11_next_11 rfl rfl ?_
      refine r_getR f_X11_16 dX11_next_12 rfl rfl ?_
      refine r_aload_n (i := 0) dX11_next_15 rfl rfl ?_
      refine r_getI f_X11_117 dX11_next_16 rfl rfl ?_
      obtain ⟨hb, h⟩ := ck_some h
      refine r_iald rfl (inb_vp hb) dX11_next_19 ?_
      refine r_bipush (v := 32) dX11_next_20 (by decide) ?_
      refine r_icmp_ne (tgt := 38) dX11_next_22 (by decide) (fun c => ?_) (fun c => ?_)
      · rw [if_neg c] at h
        exact RR.wk (ok_X11_next_67_b38 hd h) (And.intro rfl (trivial))
      · rw [if_pos c] at h
        refine r_aload_n (i := 0) dX11_next_25 rfl rfl ?_
        refine r_dup dX11_next_26 rfl ?_
        refine r_getI f_X11_117 dX11_next_27 rfl rfl ?_
        refine r_iconst (v := 1) dX11_next_30 (by decide) ?_
        refine r_iadd dX11_next_31 ?_
        refine r_putI f_X11_117 rfl rfl dX11_next_32 rfl rfl ?_
        replace h := lt_some h
        refine r_goto (tgt := 0) dX11_next_35 (by decide) ?_
        exact RR.wk (ih _ _ _ h) (And.intro rfl (trivial))
def f_X11_next_67 (I : mI) (L : mL) : rI := f_X11_next_67_l0 fuel I L
theorem ok_X11_next_67 {d : Nat} (hd : 0 ≤ d) {I : mI} {L : mL} {o : Int32 × mI × mL} (h : f_X11_next_67 I L = some o) : RR mX11_next d 0 [some (.ref 67)] [] I L (retQ (some (.int o.1)) o.2.1 o.2.2) := by
  unfold f_X11_next_67 at h
  exact RR.wk (ok_X11_next_67_l0 hd _ _ _ _ h) (And.intro rfl (trivial))
def f_X11_isDigit_67 (I : mI) (L : mL) (a1 : Int32) (a2 : Int32) : rI := bndI (f_X11_next_67 I L) (fun r1 Ir1 Lr1 => (f_X11_in Ir1 Lr1 (r1.toInt64) ((48 + a1).toInt64) ((48 + a2).toInt64)).bind (fun r3 => ck (isb r3) (some (r3, Ir1, Lr1))))
theorem ok_X11_isDigit_67 {d : Nat} (hd : 1 ≤ d) {I : mI} {L : mL} {a1 : Int32} {a2 : Int32} {o : Int32 × mI × mL} (h : f_X11_isDigit_67 I L a1 a2 = some o) : RR mX11_isDigit d 0 [some (.ref 67), some (.int a1), some (.int a2)] [] I L (retQ (some (.int o.1)) o.2.1 o.2.2) := by
  unfold f_X11_isDigit_67 at h
  refine r_aload_n (i := 0) dX11_isDigit_0 rfl rfl ?_
  obtain ⟨⟨r1, Ir1, Lr1⟩, hr, h⟩ := bind_some h
  refine r_V (d' := 0) k_X11_120 dX11_isDigit_1 (by omega) rfl rfl rfl (Nat.le_of_ble_eq_true rfl) (Nat.le_of_ble_eq_true rfl) (ok_X11_next_67 (Nat.le_refl _) hr) (fun v I' L' hq => ?_)
  obtain ⟨rfl, rfl, rfl⟩ := hq
  simp only [Option.toList_some, Option.toList_none, List.drop_succ_cons, List.drop_zero, List.drop_nil, List.cons_append, List.nil_append]
  dsimp only at h
  refine r_i2l dX11_isDigit_4 ?_
  refine r_bipush (v := 48) dX11_isDigit_5 (by decide) ?_
  refine r_iload_n (i := 1) dX11_isDigit_7 rfl rfl ?_
  refine r_iadd dX11_isDigit_8 ?_
  refine r_i2l dX11_isDigit_9 ?_
  refine r_bipush (v := 48) dX11_isDigit_10 (by decide) ?_
  refine r_iload_n (i := 2) dX11_isDigit_12 rfl rfl ?_
  refine r_iadd dX11_isDigit_13 ?_
  refine r_i2l dX11_isDigit_14 ?_
  obtain ⟨r3, hr, h⟩ := bind_some h
  refine r_S (d' := 0) k_X11_50 dX11_isDigit_15 (by omega) rfl (Nat.le_of_ble_eq_true rfl) (Nat.le_of_ble_eq_true rfl) (ok_X11_in (Nat.le_refl _) hr) (fun v I' L' hq => ?_)
  obtain ⟨rfl, rfl, rfl⟩ := hq
  simp only [Option.toList_some, Option.toList_none, List.drop_succ_cons, List.drop_zero, List.drop_nil, List.cons_append, List.nil_append]
  obtain ⟨hb, h⟩ := ck_some h
  refine r_iret (isb_nar hb) dX11_isDigit_18 ?_
  obtain rfl := Option.some.inj h
  exact ⟨rfl, rfl, rfl⟩
def f_X11_digit_67 (I : mI) (L : mL) : rI := bndI (f_X11_next_67 I L) (fun r1 Ir1 Lr1 => lt (r1 - 48) (fun v3 => lt (uI Ir1 67 8 ((Ir1 67 8) + 1)) (fun M4 => some (v3, M4, Lr1))))
theorem ok_X11_digit_67 {d : Nat} (hd : 1 ≤ d) {I : mI} {L : mL} {o : Int32 × mI × mL} (h : f_X11_digit_67 I L = some o) : RR mX11_digit d 0 [some (.ref 67), none] [] I L (retQ (some (.int o.1)) o.2.1 o.2.2) := by
  unfold f_X11_digit_67 at h
  refine r_aload_n (i := 0) dX11_digit_0 rfl rfl ?_
  obtain ⟨⟨r1, Ir1, Lr1⟩, hr, h⟩ := bind_some h
  refine r_V (d' := 0) k_X11_120 dX11_digit_1 (by omega) rfl rfl rfl (Nat.le_of_ble_eq_true rfl) (Nat.le_of_ble_eq_true rfl) (ok_X11_next_67 (Nat.le_refl _) hr) (fun v I' L' hq => ?_)
  obtain ⟨rfl, rfl, rfl⟩ := hq
  simp only [Option.toList_some, Option.toList_none, List.drop_succ_cons, List.drop_zero, List.drop_nil, List.cons_append, List.nil_append]
  dsimp only at h
  refine r_bipush (v := 48) dX11_digit_4 (by decide) ?_
  refine r_isub dX11_digit_6 ?_
  refine r_istore_n (i := 1) dX11_digit_7 rfl (by decide) rfl ?_
  simp only [List.set_cons_zero, List.set_cons_succ]
  replace h := lt_some h
  refine r_aload_n (i := 0) dX11_digit_8 rfl rfl ?_
  refine r_dup dX11_digit_9 rfl ?_
  refine r_getI f_X11_117 dX11_digit_10 rfl rfl ?_
  refine r_iconst (v := 1) dX11_digit_13 (by decide) ?_
  refine r_iadd dX11_digit_14 ?_
  refine r_putI f_X11_117 rfl rfl dX11_digit_15 rfl rfl ?_
  replace h := lt_some h
  refine r_iload_n (i := 1) dX11_digit_18 rfl rfl ?_
  refine r_iret (by first | rfl | decide) dX11_digit_19 ?_
  obtain rfl := Option.some.inj h
  exact ⟨rfl, rfl, rfl⟩
def f_X11_kindOf (I : mI) (L : mL) (a0 : Int32) : Option Int32 := if a0 = 108 then (some 0) else (if a0 = 104 then (some 1) else (if a0 = 115 then (some 2) else (if a0 = 97 then (some 3) else (some (-1)))))
theorem ok_X11_kindOf {d : Nat} (hd : 0 ≤ d) {I : mI} {L : mL} {a0 : Int32} {o : Int32} (h : f_X11_kindOf I L a0 = some o) : RR mX11_kindOf d 0 [some (.int a0)] [] I L (retQ (some (.int o)) I L) := by
  unfold f_X11_kindOf at h
  refine r_iload_n (i := 0) dX11_kindOf_0 rfl rfl ?_
  refine r_bipush (v := 108) dX11_kindOf_1 (by decide) ?_
  refine r_icmp_ne (tgt := 10) dX11_kindOf_3 (by decide) (fun c => ?_) (fun c => ?_)
  · rw [if_neg c] at h
    refine r_iload_n (i := 0) dX11_kindOf_10 rfl rfl ?_
    refine r_bipush (v := 104) dX11_kindOf_11 (by decide) ?_
    refine r_icmp_ne (tgt := 20) dX11_kindOf_13 (by decide) (fun c => ?_) (fun c => ?_)
    · rw [if_neg c] at h
      refine r_iload_n (i := 0) dX11_kindOf_20 rfl rfl ?_
      refine r_bipush (v := 115) dX11_kindOf_21 (by decide) ?_
      refine r_icmp_ne (tgt := 30) dX11_kindOf_23 (by decide) (fun c => ?_) (fun c => ?_)
      · rw [if_neg c] at h
        refine r_iload_n (i := 0) dX11_kindOf_30 rfl rfl ?_
        refine r_bipush (v := 97) dX11_kindOf_31 (by decide) ?_
        refine r_icmp_ne (tgt := 40) dX11_kindOf_33 (by decide) (fun c => ?_) (fun c => ?_)
        · rw [if_neg c] at h
          refine r_iconst (v := (-1)) dX11_kindOf_40 (by decide) ?_
          refine r_iret (by first | rfl | decide) dX11_kindOf_41 ?_
          obtain rfl := Option.some.inj h
          exact ⟨rfl, rfl, rfl⟩
        · rw [if_pos c] at h
          refine r_iconst (v := 3) dX11_kindOf_36 (by decide) ?_
          refine r_goto (tgt := 41) dX11_kindOf_37 (by decide) ?_
          refine r_iret (by first | rfl | decide) dX11_kindOf_41 ?_
          obtain rfl := Option.some.inj h
          exact ⟨rfl, rfl, rfl⟩
      · rw [if_pos c] at h
        refine r_iconst (v := 2) dX11_kindOf_26 (by decide) ?_
        refine r_goto (tgt := 41) dX11_kindOf_27 (by decide) ?_
        refine r_iret (by first | rfl | decide) dX11_kindOf_41 ?_
        obtain rfl := Option.some.inj h
        exact ⟨rfl, rfl, rfl⟩
    · rw [if_pos c] at h
      refine r_iconst (v := 1) dX11_kindOf_16 (by decide) ?_
      refine r_goto (tgt := 41) dX11_kindOf_17 (by decide) ?_
      refine r_iret (by first | rfl | decide) dX11_kindOf_41 ?_
      obtain rfl := Option.some.inj h
      exact ⟨rfl, rfl, rfl⟩
  · rw [if_pos c] at h
    refine r_iconst (v := 0) dX11_kindOf_6 (by decide) ?_
    refine r_goto (tgt := 41) dX11_kindOf_7 (by decide) ?_
    refine r_iret (by first | rfl | decide) dX11_kindOf_41 ?_
    obtain rfl := Option.some.inj h
    exact ⟨rfl, rfl, rfl⟩
def f_X11_readsParish_67_l44 : Nat → Int32 → Int32 → mI → mL → rI
  | 0, _, _, _, _ => none
  | n + 1, x2, x3, I, L => if 4 ≤ x3 then (some (1, I, L)) else (bndI (f_X11_isDigit_67 I L 1 9) (fun r9 Ir9 Lr9 => if r9 = 0 then (some (0, Ir9, Lr9)) else (bndI (f_X11_digit_67 Ir9 Lr9) (fun r11 Ir11 Lr11 => ck (inb ((14 + (4 * x2)) + x3) 135) (lt (uI Ir11 68 ((14 + (4 * x2)) + x3).toNatClampNeg r11) (fun M13 => lt (x3 + Int32.ofInt 1) (fun v14 => f_X11_readsParish_67_l44 n x2 v14 M13 Lr11)))))))
theorem ok_X11_readsParish_67_l44 {d : Nat} (hd : 2 ≤ d) : ∀ (n : Nat) (x2 : Int32) (x3 : Int32) (I : mI) (L : mL) (o : Int32 × mI × mL), f_X11_readsParish_67_l44 n x2 x3 I L = some o → RR mX11_readsParish d 44 [some (.ref 67), none, some (.int x2), some (.int x3)] [] I L (retQ (some (.int o.1)) o.2.1 o.2.2) := by
  intro n
  induction n with
  | zero => intro x2 x3 I L o h; rw [f_X11_readsParish_67_l44] at h; cases h
  | succ n ih =>
    intro x2 x3 I L o h
    rw [f_X11_readsParish_67_l44] at h
    refine r_iload_n (i := 3) dX11_readsParish_44 rfl rfl ?_
    refine r_iconst (v := 4) dX11_readsParish_45 (by decide) ?_
    refine r_icmp_ge (tgt := 84) dX11_readsParish_46 (by decide) (fun c => ?_) (fun c => ?_)
    · rw [if_pos c] at h
      refine r_iconst (v := 1) dX11_readsParish_84 (by decide) ?_
      refine r_iret (by first | rfl | decide) dX11_readsParish_85 ?_
      obtain rfl := Option.some.inj h
      exact ⟨rfl, rfl, rfl⟩
    · rw [if_neg c] at h
      refine r_aload_n (i := 0) dX11_readsParish_49 rfl rfl ?_
      refine r_iconst (v := 1) dX11_readsParish_50 (by decide) ?_
      refine r_bipush (v := 9) dX11_readsParish_51 (by decide) ?_
      obtain ⟨⟨r9, Ir9, Lr9⟩, hr, h⟩ := bind_some h
      refine r_V (d' := 1) k_X11_126 dX11_readsParish_53 (by omega) rfl rfl rfl (Nat.le_of_ble_eq_true rfl) (Nat.le_of_ble_eq_true rfl) (ok_X11_isDigit_67 (Nat.le_refl _) hr) (fun v I' L' hq => ?_)
      obtain ⟨rfl, rfl, rfl⟩ := hq
      simp only [Option.toList_some, Option.toList_none, List.drop_succ_cons, List.drop_zero, List.drop_nil, List.cons_append, List.nil_append]
      dsimp only at h
      refine r_if_ne (tgt := 61) dX11_readsParish_56 (by decide) (fun c => ?_) (fun c => ?_)
      · rw [if_neg c] at h
        refine r_aload_n (i := 0) dX11_readsParish_61 rfl rfl ?_
        refine r_getR f_X11_7 dX11_readsParish_62 rfl rfl ?_
        refine r_bipush (v := 14) dX11_readsParish_65 (by decide) ?_
        refine r_iconst (v := 4) dX11_readsParish_67 (by decide) ?_
        refine r_iload_n (i := 2) dX11_readsParish_68 rfl rfl ?_
        refine r_imul dX11_readsParish_69 ?_
        refine r_iadd dX11_readsParish_70 ?_
        refine r_iload_n (i := 3) dX11_readsParish_71 rfl rfl ?_
        refine r_iadd dX11_readsParish_72 ?_
        refine r_aload_n (i := 0) dX11_readsParish_73 rfl rfl ?_
        obtain ⟨⟨r11, Ir11, Lr11⟩, hr, h⟩ := bind_some h
        refine r_V (d' := 1) k_X11_130 dX11_readsParish_74 (by omega) rfl rfl rfl (Nat.le_of_ble_eq_true rfl) (Nat.le_of_ble_eq_true rfl) (ok_X11_digit_67 (Nat.le_refl _) hr) (fun v I' L' hq => ?_)
        obtain ⟨rfl, rfl, rfl⟩ := hq
        simp only [Option.toList_some, Option.toList_none, List.drop_succ_cons, List.drop_zero, List.drop_nil, List.cons_append, List.nil_append]
        dsimp only at h
        obtain ⟨hb, h⟩ := ck_some h
        refine r_iast rfl (inb_vp hb) dX11_readsParish_77 ?_
        replace h := lt_some h
        refine r_iinc (v := _) dX11_readsParish_78 rfl rfl (by decide) rfl ?_
        simp only [List.set_cons_zero, List.set_cons_succ]
        replace h := lt_some h
        refine r_goto (tgt := 44) dX11_readsParish_81 (by decide) ?_
        exact RR.wk (ih _ _ _ _ _ h) (And.intro rfl (And.intro rfl (And.intro rfl (trivial))))
      · rw [if_pos c] at h
        refine r_iconst (v := 0) dX11_readsParish_59 (by decide) ?_
        refine r_iret (by first | rfl | decide) dX11_readsParish_60 ?_
        obtain rfl := Option.some.inj h
        exact ⟨rfl, rfl, rfl⟩
def f_X11_readsParish_67 (I : mI) (L : mL) : rI := bndI (f_X11_next_67 I L) (fun r1 Ir1 Lr1 => (f_X11_kindOf Ir1 Lr1 r1).bind (fun r3 => if 0 ≤ r3 then (lt (uI Ir1 67 8 ((Ir1 67 8) + 1)) (fun M4 => bndI (f_X11_joins_67 M4 Lr1 r3) (fun r5 Ir5 Lr5 => bndI (f_X11_isDigit_67 Ir5 Lr5 1 9) (fun r7 Ir7 Lr7 => if r7 = 0 then (some (1, Ir7, Lr7)) else (f_X11_readsParish_67_l44 fuel r5 0 Ir7 Lr7))))) else (some (0, Ir1, Lr1))))
theorem ok_X11_readsParish_67 {d : Nat} (hd : 2 ≤ d) {I : mI} {L : mL} {o : Int32 × mI × mL} (h : f_X11_readsParish_67 I L = some o) : RR mX11_readsParish d 0 [some (.ref 67), none, none, none] [] I L (retQ (some (.int o.1)) o.2.1 o.2.2) := by
  unfold f_X11_readsParish_67 at h
  refine r_aload_n (i := 0) dX11_readsParish_0 rfl rfl ?_
  obtain ⟨⟨r1, Ir1, Lr1⟩, hr, h⟩ := bind_some h
  refine r_V (d' := 0) k_X11_120 dX11_readsParish_1 (by omega) rfl rfl rfl (Nat.le_of_ble_eq_true rfl) (Nat.le_of_ble_eq_true rfl) (ok_X11_next_67 (Nat.le_refl _) hr) (fun v I' L' hq => ?_)
  obtain ⟨rfl, rfl, rfl⟩ := hq
  simp only [Option.toList_some, Option.toList_none, List.drop_succ_cons, List.drop_zero, List.drop_nil, List.cons_append, List.nil_append]
  dsimp only at h
  obtain ⟨r3, hr, h⟩ := bind_some h
  refine r_S (d' := 0) k_X11_123 dX11_readsParish_4 (by omega) rfl (Nat.le_of_ble_eq_true rfl) (Nat.le_of_ble_eq_true rfl) (ok_X11_kindOf (Nat.le_refl _) hr) (fun v I' L' hq => ?_)
  obtain ⟨rfl, rfl, rfl⟩ := hq
  simp only [Option.toList_some, Option.toList_none, List.drop_succ_cons, List.drop_zero, List.drop_nil, List.cons_append, List.nil_append]
  refine r_istore_n (i := 1) dX11_readsParish_7 rfl (by decide) rfl ?_
  simp only [List.set_cons_zero, List.set_cons_succ]
  refine r_iload_n (i := 1) dX11_readsParish_8 rfl rfl ?_
  refine r_if_ge (tgt := 14) dX11_readsParish_9 (by decide) (fun c => ?_) (fun c => ?_)
  · rw [if_pos c] at h
    refine r_aload_n (i := 0) dX11_readsParish_14 rfl rfl ?_
    refine r_dup dX11_readsParish_15 rfl ?_
    refine r_getI f_X11_117 dX11_readsParish_16 rfl rfl ?_
    refine r_iconst (v := 1) dX11_readsParish_19 (by decide) ?_
    refine r_iadd dX11_readsParish_20 ?_
    refine r_putI f_X11_117 rfl rfl dX11_readsParish_21 rfl rfl ?_
    replace h := lt_some h
    refine r_aload_n (i := 0) dX11_readsParish_24 rfl rfl ?_
    refine r_iload_n (i := 1) dX11_readsParish_25 rfl rfl ?_
    obtain ⟨⟨r5, Ir5, Lr5⟩, hr, h⟩ := bind_some h
    refine r_V (d' := 0) k_X11_64 dX11_readsParish_26 (by omega) rfl rfl rfl (Nat.le_of_ble_eq_true rfl) (Nat.le_of_ble_eq_true rfl) (ok_X11_joins_67 (Nat.le_refl _) hr) (fun v I' L' hq => ?_)
    obtain ⟨rfl, rfl, rfl⟩ := hq
    simp only [Option.toList_some, Option.toList_none, List.drop_succ_cons, List.drop_zero, List.drop_nil, List.cons_append, List.nil_append]
    dsimp only at h
    refine r_istore_n (i := 2) dX11_readsParish_29 rfl (by decide) rfl ?_
    simp only [List.set_cons_zero, List.set_cons_succ]
    refine r_aload_n (i := 0) dX11_readsParish_30 rfl rfl ?_
    refine r_iconst (v := 1) dX11_readsParish_31 (by decide) ?_
    refine r_bipush (v := 9) dX11_readsParish_32 (by decide) ?_
    obtain ⟨⟨r7, Ir7, Lr7⟩, hr, h⟩ := bind_some h
    refine r_V (d' := 1) k_X11_126 dX11_readsParish_34 (by omega) rfl rfl rfl (Nat.le_of_ble_eq_true rfl) (Nat.le_of_ble_eq_true rfl) (ok_X11_isDigit_67 (Nat.le_refl _) hr) (fun v I' L' hq => ?_)
    obtain ⟨rfl, rfl, rfl⟩ := hq
    simp only [Option.toList_some, Option.toList_none, List.drop_succ_cons, List.drop_zero, List.drop_nil, List.cons_append, List.nil_append]
    dsimp only at h
    refine r_if_ne (tgt := 42) dX11_readsParish_37 (by decide) (fun c => ?_) (fun c => ?_)
    · rw [if_neg c] at h
      refine r_iconst (v := 0) dX11_readsParish_42 (by decide) ?_
      refine r_istore_n (i := 3) dX11_readsParish_43 rfl (by decide) rfl ?_
      simp only [List.set_cons_zero, List.set_cons_succ]
      exact RR.wk (ok_X11_readsParish_67_l44 hd _ _ _ _ _ _ h) (And.intro rfl (And.intro rfl (And.intro rfl (trivial))))
    · rw [if_pos c] at h
      refine r_iconst (v := 1) dX11_readsParish_40 (by decide) ?_
      refine r_iret (by first | rfl | decide) dX11_readsParish_41 ?_
      obtain rfl := Option.some.inj h
      exact ⟨rfl, rfl, rfl⟩
  · rw [if_neg c] at h
    refine r_iconst (v := 0) dX11_readsParish_12 (by decide) ?_
    refine r_iret (by first | rfl | decide) dX11_readsParish_13 ?_
    obtain rfl := Option.some.inj h
    exact ⟨rfl, rfl, rfl⟩
def f_X11_readsRoad_67_b107 (I : mI) (L : mL) (x2 : Int32) (x3 : Int32) (x4 : Int32) : rI := bndI (f_X11_road_67 I L x2 x3 x4) (fun r17 Ir17 Lr17 => if r17 < 0 then (some (0, Ir17, Lr17)) else (some (1, Ir17, Lr17)))
theorem ok_X11_readsRoad_67_b107 {d : Nat} (hd : 3 ≤ d){I : mI} {L : mL} (x2 : Int32) (x3 : Int32) (x4 : Int32) {o : Int32 × mI × mL} (h : f_X11_readsRoad_67_b107 I L x2 x3 x4 = some o) : RR mX11_readsRoad d 107 [some (.ref 67), none, some (.int x2), some (.int x3), some (.int x4)] [] I L (retQ (some (.int o.1)) o.2.1 o.2.2) := by
  unfold f_X11_readsRoad_67_b107 at h
  refine r_aload_n (i := 0) dX11_readsRoad_107 rfl rfl ?_
  refine r_iload_n (i := 2) dX11_readsRoad_108 rfl rfl ?_
  refine r_iload_n (i := 3) dX11_readsRoad_109 rfl rfl ?_
  refine r_iload dX11_readsRoad_110 rfl ?_
  obtain ⟨⟨r17, Ir17, Lr17⟩, hr, h⟩ := bind_some h
  refine r_V (d' := 2) k_X11_133 dX11_readsRoad_112 (by omega) rfl rfl rfl (Nat.le_of_ble_eq_true rfl) (Nat.le_of_ble_eq_true rfl) (ok_X11_road_67 (Nat.le_refl _) hr) (fun v I' L' hq => ?_)
  obtain ⟨rfl, rfl, rfl⟩ := hq
  simp only [Option.toList_some, Option.toList_none, List.drop_succ_cons, List.drop_zero, List.drop_nil, List.cons_append, List.nil_append]
  dsimp only at h
  refine r_if_lt (tgt := 122) dX11_readsRoad_115 (by decide) (fun c => ?_) (fun c => ?_)
  · rw [if_pos c] at h
    refine r_iconst (v := 0) dX11_readsRoad_122 (by decide) ?_
    refine r_iret (by first | rfl | decide) dX11_readsRoad_123 ?_
    obtain rfl := Option.some.inj h
    exact ⟨rfl, rfl, rfl⟩
  · rw [if_neg c] at h
    refine r_iconst (v := 1) dX11_readsRoad_118 (by decide) ?_
    refine r_goto (tgt := 123) dX11_readsRoad_119 (by decide) ?_
    refine r_iret (by first | rfl | decide) dX11_readsRoad_123 ?_
    obtain rfl := Option.some.inj h
    exact ⟨rfl, rfl, rfl⟩
def f_X11_readsRoad_67 (I : mI) (L : mL) : rI := lt ((I 68 (0 : Int32).toNatClampNeg) - 1) (fun v1 => bndI (f_X11_isDigit_67 I L 0 v1) (fun r2 Ir2 Lr2 => if r2 = 0 then (some (0, Ir2, Lr2)) else (bndI (f_X11_digit_67 Ir2 Lr2) (fun r4 Ir4 Lr4 => bndI (f_X11_isDigit_67 Ir4 Lr4 0 v1) (fun r6 Ir6 Lr6 => if r6 = 0 then (some (0, Ir6, Lr6)) else (bndI (f_X11_next_67 Ir6 Lr6) (fun r8 Ir8 Lr8 => if (r8 - 48) = r4 then (some (0, Ir8, Lr8)) else (bndI (f_X11_next_67 Ir8 Lr8) (fun r10 Ir10 Lr10 => (f_X11_roadOf_67 Ir10 Lr10 r4 (r10 - 48)).bind (fun r12 => if r12 < 0 then (bndI (f_X11_digit_67 Ir10 Lr10) (fun r13 Ir13 Lr13 => bndI (f_X11_next_67 Ir13 Lr13) (fun r15 Ir15 Lr15 => if r15 = 116 then (lt (uI Ir15 67 8 ((Ir15 67 8) + 1)) (fun M19 => bndI (f_X11_isDigit_67 M19 Lr15 0 9) (fun r20 Ir20 Lr20 => if r20 = 0 then (some (0, Ir20, Lr20)) else (bndI (f_X11_digit_67 Ir20 Lr20) (fun r22 Ir22 Lr22 => f_X11_readsRoad_67_b107 Ir22 Lr22 r4 r13 r22))))) else (f_X11_readsRoad_67_b107 Ir15 Lr15 r4 r13 0)))) else (some (0, Ir10, Lr10))))))))))))
theorem ok_X11_readsRoad_67 {d : Nat} (hd : 3 ≤ d) {I : mI} {L : mL} {o : Int32 × mI × mL} (h : f_X11_readsRoad_67 I L = some o) : RR mX11_readsRoad d 0 [some (.ref 67), none, none, none, none] [] I L (retQ (some (.int o.1)) o.2.1 o.2.2) := by
  unfold f_X11_readsRoad_67 at h
  refine r_aload_n (i := 0) dX11_readsRoad_0 rfl rfl ?_
  refine r_getR f_X11_7 dX11_readsRoad_1 rfl rfl ?_
  refine r_iconst (v := 0) dX11_readsRoad_4 (by decide) ?_
  refine r_iald rfl (vp_lit (by decide)) dX11_readsRoad_5 ?_
  refine r_iconst (v := 1) dX11_readsRoad_6 (by decide) ?_
  refine r_isub dX11_readsRoad_7 ?_
  refine r_istore_n (i := 1) dX11_readsRoad_8 rfl (by decide) rfl ?_
  simp only [List.set_cons_zero, List.set_cons_succ]
  replace h := lt_some h
  refine r_aload_n (i := 0) dX11_readsRoad_9 rfl rfl ?_
  refine r_iconst (v := 0) dX11_readsRoad_10 (by decide) ?_
  refine r_iload_n (i := 1) dX11_readsRoad_11 rfl rfl ?_
  obtain ⟨⟨r2, Ir2, Lr2⟩, hr, h⟩ := bind_some h
  refine r_V (d' := 1) k_X11_126 dX11_readsRoad_12 (by omega) rfl rfl rfl (Nat.le_of_ble_eq_true rfl) (Nat.le_of_ble_eq_true rfl) (ok_X11_isDigit_67 (Nat.le_refl _) hr) (fun v I' L' hq => ?_)
  obtain ⟨rfl, rfl, rfl⟩ := hq
  simp only [Option.toList_some, Option.toList_none, List.drop_succ_cons, List.drop_zero, List.drop_nil, List.cons_append, List.nil_append]
  dsimp only at h
  refine r_if_ne (tgt := 20) dX11_readsRoad_15 (by decide) (fun c => ?_) (fun c => ?_)
  · rw [if_neg c] at h
    refine r_aload_n (i := 0) dX11_readsRoad_20 rfl rfl ?_
    obtain ⟨⟨r4, Ir4, Lr4⟩, hr, h⟩ := bind_some h
    refine r_V (d' := 1) k_X11_130 dX11_readsRoad_21 (by omega) rfl rfl rfl (Nat.le_of_ble_eq_true rfl) (Nat.le_of_ble_eq_true rfl) (ok_X11_digit_67 (Nat.le_refl _) hr) (fun v I' L' hq => ?_)
    obtain ⟨rfl, rfl, rfl⟩ := hq
    simp only [Option.toList_some, Option.toList_none, List.drop_succ_cons, List.drop_zero, List.drop_nil, List.cons_append, List.nil_append]
    dsimp only at h
    refine r_istore_n (i := 2) dX11_readsRoad_24 rfl (by decide) rfl ?_
    simp only [List.set_cons_zero, List.set_cons_succ]
    refine r_aload_n (i := 0) dX11_readsRoad_25 rfl rfl ?_
    refine r_iconst (v := 0) dX11_readsRoad_26 (by decide) ?_
    refine r_iload_n (i := 1) dX11_readsRoad_27 rfl rfl ?_
    obtain ⟨⟨r6, Ir6, Lr6⟩, hr, h⟩ := bind_some h
    refine r_V (d' := 1) k_X11_126 dX11_readsRoad_28 (by omega) rfl rfl rfl (Nat.le_of_ble_eq_true rfl) (Nat.le_of_ble_eq_true rfl) (ok_X11_isDigit_67 (Nat.le_refl _) hr) (fun v I' L' hq => ?_)
    obtain ⟨rfl, rfl, rfl⟩ := hq
    simp only [Option.toList_some, Option.toList_none, List.drop_succ_cons, List.drop_zero, List.drop_nil, List.cons_append, List.nil_append]
    dsimp only at h
    refine r_if_eq (tgt := 60) dX11_readsRoad_31 (by decide) (fun c => ?_) (fun c => ?_)
    · rw [if_pos c] at h
      refine r_iconst (v := 0) dX11_readsRoad_60 (by decide) ?_
      refine r_iret (by first | rfl | decide) dX11_readsRoad_61 ?_
      obtain rfl := Option.some.inj h
      exact ⟨rfl, rfl, rfl⟩
    · rw [if_neg c] at h
      refine r_aload_n (i := 0) dX11_readsRoad_34 rfl rfl ?_
      obtain ⟨⟨r8, Ir8, Lr8⟩, hr, h⟩ := bind_some h
      refine r_V (d' := 0) k_X11_120 dX11_readsRoad_35 (by omega) rfl rfl rfl (Nat.le_of_ble_eq_true rfl) (Nat.le_of_ble_eq_true rfl) (ok_X11_next_67 (Nat.le_refl _) hr) (fun v I' L' hq => ?_)
      obtain ⟨rfl, rfl, rfl⟩ := hq
      simp only [Option.toList_some, Option.toList_none, List.drop_succ_cons, List.drop_zero, List.drop_nil, List.cons_append, List.nil_append]
      dsimp only at h
      refine r_bipush (v := 48) dX11_readsRoad_38 (by decide) ?_
      refine r_isub dX11_readsRoad_40 ?_
      refine r_iload_n (i := 2) dX11_readsRoad_41 rfl rfl ?_
      refine r_icmp_eq (tgt := 60) dX11_readsRoad_42 (by decide) (fun c => ?_) (fun c => ?_)
      · rw [if_pos c] at h
        refine r_iconst (v := 0) dX11_readsRoad_60 (by decide) ?_
        refine r_iret (by first | rfl | decide) dX11_readsRoad_61 ?_
        obtain rfl := Option.some.inj h
        exact ⟨rfl, rfl, rfl⟩
      · rw [if_neg c] at h
        refine r_aload_n (i := 0) dX11_readsRoad_45 rfl rfl ?_
        refine r_iload_n (i := 2) dX11_readsRoad_46 rfl rfl ?_
        refine r_aload_n (i := 0) dX11_readsRoad_47 rfl rfl ?_
        obtain ⟨⟨r10, Ir10, Lr10⟩, hr, h⟩ := bind_some h
        refine r_V (d' := 0) k_X11_120 dX11_readsRoad_48 (by omega) rfl rfl rfl (Nat.le_of_ble_eq_true rfl) (Nat.le_of_ble_eq_true rfl) (ok_X11_next_67 (Nat.le_refl _) hr) (fun v I' L' hq => ?_)
        obtain ⟨rfl, rfl, rfl⟩ := hq
        simp only [Option.toList_some, Option.toList_none, List.drop_succ_cons, List.drop_zero, List.drop_nil, List.cons_append, List.nil_append]
        dsimp only at h
        refine r_bipush (v := 48) dX11_readsRoad_51 (by decide) ?_
        refine r_isub dX11_readsRoad_53 ?_
        obtain ⟨r12, hr, h⟩ := bind_some h
        refine r_V (d' := 0) k_X11_74 dX11_readsRoad_54 (by omega) rfl rfl rfl (Nat.le_of_ble_eq_true rfl) (Nat.le_of_ble_eq_true rfl) (ok_X11_roadOf_67 (Nat.le_refl _) hr) (fun v I' L' hq => ?_)
        obtain ⟨rfl, rfl, rfl⟩ := hq
        simp only [Option.toList_some, Option.toList_none, List.drop_succ_cons, List.drop_zero, List.drop_nil, List.cons_append, List.nil_append]
        refine r_if_lt (tgt := 62) dX11_readsRoad_57 (by decide) (fun c => ?_) (fun c => ?_)
        · rw [if_pos c] at h
          refine r_aload_n (i := 0) dX11_readsRoad_62 rfl rfl ?_
          obtain ⟨⟨r13, Ir13, Lr13⟩, hr, h⟩ := bind_some h
          refine r_V (d' := 1) k_X11_130 dX11_readsRoad_63 (by omega) rfl rfl rfl (Nat.le_of_ble_eq_true rfl) (Nat.le_of_ble_eq_true rfl) (ok_X11_digit_67 (Nat.le_refl _) hr) (fun v I' L' hq => ?_)
          obtain ⟨rfl, rfl, rfl⟩ := hq
          simp only [Option.toList_some, Option.toList_none, List.drop_succ_cons, List.drop_zero, List.drop_nil, List.cons_append, List.nil_append]
          dsimp only at h
          refine r_istore_n (i := 3) dX11_readsRoad_66 rfl (by decide) rfl ?_
          simp only [List.set_cons_zero, List.set_cons_succ]
          refine r_iconst (v := 0) dX11_readsRoad_67 (by decide) ?_
          refine r_istore dX11_readsRoad_68 (by decide) rfl ?_
          simp only [List.set_cons_zero, List.set_cons_succ]
          refine r_aload_n (i := 0) dX11_readsRoad_70 rfl rfl ?_
          obtain ⟨⟨r15, Ir15, Lr15⟩, hr, h⟩ := bind_some h
          refine r_V (d' := 0) k_X11_120 dX11_readsRoad_71 (by omega) rfl rfl rfl (Nat.le_of_ble_eq_true rfl) (Nat.le_of_ble_eq_true rfl) (ok_X11_next_67 (Nat.le_refl _) hr) (fun v I' L' hq => ?_)
          obtain ⟨rfl, rfl, rfl⟩ := hq
          simp only [Option.toList_some, Option.toList_none, List.drop_succ_cons, List.drop_zero, List.drop_nil, List.cons_append, List.nil_append]
          dsimp only at h
          refine r_bipush (v := 116) dX11_readsRoad_74 (by decide) ?_
          refine r_icmp_ne (tgt := 107) dX11_readsRoad_76 (by decide) (fun c => ?_) (fun c => ?_)
          · rw [if_neg c] at h
            exact RR.wk (ok_X11_readsRoad_67_b107 hd _ _ _ h) (And.intro rfl (And.intro rfl (And.intro rfl (And.intro rfl (trivial)))))
          · rw [if_pos c] at h
            refine r_aload_n (i := 0) dX11_readsRoad_79 rfl rfl ?_
            refine r_dup dX11_readsRoad_80 rfl ?_
            refine r_getI f_X11_117 dX11_readsRoad_81 rfl rfl ?_
            refine r_iconst (v := 1) dX11_readsRoad_84 (by decide) ?_
            refine r_iadd dX11_readsRoad_85 ?_
            refine r_putI f_X11_117 rfl rfl dX11_readsRoad_86 rfl rfl ?_
            replace h := lt_some h
            refine r_aload_n (i := 0) dX11_readsRoad_89 rfl rfl ?_
            refine r_iconst (v := 0) dX11_readsRoad_90 (by decide) ?_
            refine r_bipush (v := 9) dX11_readsRoad_91 (by decide) ?_
            obtain ⟨⟨r20, Ir20, Lr20⟩, hr, h⟩ := bind_some h
            refine r_V (d' := 1) k_X11_126 dX11_readsRoad_93 (by omega) rfl rfl rfl (Nat.le_of_ble_eq_true rfl) (Nat.le_of_ble_eq_true rfl) (ok_X11_isDigit_67 (Nat.le_refl _) hr) (fun v I' L' hq => ?_)
            obtain ⟨rfl, rfl, rfl⟩ := hq
            simp only [Option.toList_some, Option.toList_none, List.drop_succ_cons, List.drop_zero, List.drop_nil, List.cons_append, List.nil_append]
            dsimp only at h
            refine r_if_ne (tgt := 101) dX11_readsRoad_96 (by decide) (fun c => ?_) (fun c => ?_)
            · rw [if_neg c] at h
              refine r_aload_n (i := 0) dX11_readsRoad_101 rfl rfl ?_
              obtain ⟨⟨r22, Ir22, Lr22⟩, hr, h⟩ := bind_some h
              refine r_V (d' := 1) k_X11_130 dX11_readsRoad_102 (by omega) rfl rfl rfl (Nat.le_of_ble_eq_true rfl) (Nat.le_of_ble_eq_true rfl) (ok_X11_digit_67 (Nat.le_refl _) hr) (fun v I' L' hq => ?_)
              obtain ⟨rfl, rfl, rfl⟩ := hq
              simp only [Option.toList_some, Option.toList_none, List.drop_succ_cons, List.drop_zero, List.drop_nil, List.cons_append, List.nil_append]
              dsimp only at h
              refine r_istore dX11_readsRoad_105 (by decide) rfl ?_
              simp only [List.set_cons_zero, List.set_cons_succ]
              exact RR.wk (ok_X11_readsRoad_67_b107 hd _ _ _ h) (And.intro rfl (And.intro rfl (And.intro rfl (And.intro rfl (trivial)))))
            · rw [if_pos c] at h
              refine r_iconst (v := 0) dX11_readsRoad_99 (by decide) ?_
              refine r_iret (by first | rfl | decide) dX11_readsRoad_100 ?_
              obtain rfl := Option.some.inj h
              exact ⟨rfl, rfl, rfl⟩
        · rw [if_neg c] at h
          refine r_iconst (v := 0) dX11_readsRoad_60 (by decide) ?_
          refine r_iret (by first | rfl | decide) dX11_readsRoad_61 ?_
          obtain rfl := Option.some.inj h
          exact ⟨rfl, rfl, rfl⟩
  · rw [if_pos c] at h
    refine r_iconst (v := 0) dX11_readsRoad_18 (by decide) ?_
    refine r_iret (by first | rfl | decide) dX11_readsRoad_19 ?_
    obtain rfl := Option.some.inj h
    exact ⟨rfl, rfl, rfl⟩
def f_X11_reads_67_b133 (I : mI) (L : mL) (k95 : Int32 → mI → mL → rI) (s0 : Int32) : rI := if s0 = 0 then (lt (uI I 67 8 ((I 67 8) + 0)) (fun M10 => k95 s0 M10 L)) else (lt (uI I 67 8 ((I 67 8) + 1)) (fun M11 => k95 s0 M11 L))
theorem ok_X11_reads_67_b133 {d : Nat} (hd : 4 ≤ d){I : mI} {L : mL} {k95 : Int32 → mI → mL → rI} (hk95 : ∀ (x1 : Int32) (I : mI) (L : mL) (o : Int32 × mI × mL), k95 x1 I L = some o → RR mX11_reads d 95 [some (.ref 67), some (.int x1)] [] I L (retQ (some (.int o.1)) o.2.1 o.2.2)) (s0 : Int32) {o : Int32 × mI × mL} (h : f_X11_reads_67_b133 I L k95 s0 = some o) : RR mX11_reads d 133 [some (.ref 67), none] [.int s0] I L (retQ (some (.int o.1)) o.2.1 o.2.2) := by
  unfold f_X11_reads_67_b133 at h
  refine r_istore_n (i := 1) dX11_reads_133 rfl (by decide) rfl ?_
  simp only [List.set_cons_zero, List.set_cons_succ]
  refine r_aload_n (i := 0) dX11_reads_134 rfl rfl ?_
  refine r_dup dX11_reads_135 rfl ?_
  refine r_getI f_X11_117 dX11_reads_136 rfl rfl ?_
  refine r_iload_n (i := 1) dX11_reads_139 rfl rfl ?_
  refine r_if_eq (tgt := 147) dX11_reads_140 (by decide) (fun c => ?_) (fun c => ?_)
  · rw [if_pos c] at h
    refine r_iconst (v := 0) dX11_reads_147 (by decide) ?_
    refine r_iadd dX11_reads_148 ?_
    refine r_putI f_X11_117 rfl rfl dX11_reads_149 rfl rfl ?_
    replace h := lt_some h
    refine r_goto (tgt := 95) dX11_reads_152 (by decide) ?_
    exact RR.wk (hk95 _ _ _ _ h) (And.intro rfl (And.intro rfl (trivial)))
  · rw [if_neg c] at h
    refine r_iconst (v := 1) dX11_reads_143 (by decide) ?_
    refine r_goto (tgt := 148) dX11_reads_144 (by decide) ?_
    refine r_iadd dX11_reads_148 ?_
    refine r_putI f_X11_117 rfl rfl dX11_reads_149 rfl rfl ?_
    replace h := lt_some h
    refine r_goto (tgt := 95) dX11_reads_152 (by decide) ?_
    exact RR.wk (hk95 _ _ _ _ h) (And.intro rfl (And.intro rfl (trivial)))
def f_X11_reads_67_b132 (I : mI) (L : mL) (k95 : Int32 → mI → mL → rI) : rI := f_X11_reads_67_b133 I L k95 0
theorem ok_X11_reads_67_b132 {d : Nat} (hd : 4 ≤ d){I : mI} {L : mL} {k95 : Int32 → mI → mL → rI} (hk95 : ∀ (x1 : Int32) (I : mI) (L : mL) (o : Int32 × mI × mL), k95 x1 I L = some o → RR mX11_reads d 95 [some (.ref 67), some (.int x1)] [] I L (retQ (some (.int o.1)) o.2.1 o.2.2)) {o : Int32 × mI × mL} (h : f_X11_reads_67_b132 I L k95 = some o) : RR mX11_reads d 132 [some (.ref 67), none] [] I L (retQ (some (.int o.1)) o.2.1 o.2.2) := by
  unfold f_X11_reads_67_b132 at h
  refine r_iconst (v := 0) dX11_reads_132 (by decide) ?_
  exact RR.wk (ok_X11_reads_67_b133 hd hk95 _ h) (And.intro rfl (trivial))
def f_X11_reads_67_l95 : Nat → Int32 → mI → mL → rI
  | 0, _, _, _ => none
  | n + 1, x1, I, L => if x1 = 0 then (bndI (f_X11_next_67 I L) (fun r4 Ir4 Lr4 => if r4 = 0 then (some (1, Ir4, Lr4)) else (some (0, Ir4, Lr4)))) else (bndI (f_X11_readsRoad_67 I L) (fun r6 Ir6 Lr6 => if r6 = 0 then (some (0, Ir6, Lr6)) else (bndI (f_X11_next_67 Ir6 Lr6) (fun r8 Ir8 Lr8 => if r8 = 44 then (if 15 ≤ (Ir8 68 (1 : Int32).toNatClampNeg) then (f_X11_reads_67_b132 Ir8 Lr8 (f_X11_reads_67_l95 n)) else (f_X11_reads_67_b133 Ir8 Lr8 (f_X11_reads_67_l95 n) 1)) else (f_X11_reads_67_b132 Ir8 Lr8 (f_X11_reads_67_l95 n))))))
theorem ok_X11_reads_67_l95 {d : Nat} (hd : 4 ≤ d) : ∀ (n : Nat) (x1 : Int32) (I : mI) (L : mL) (o : Int32 × mI × mL), f_X11_reads_67_l95 n x1 I L = some o → RR mX11_reads d 95 [some (.ref 67), some (.int x1)] [] I L (retQ (some (.int o.1)) o.2.1 o.2.2) := by
  intro n
  induction n with
  | zero => intro x1 I L o h; rw [f_X11_reads_67_l95] at h; cases h
  | succ n ih =>
    intro x1 I L o h
    rw [f_X11_reads_67_l95] at h
    refine r_iload_n (i := 1) dX11_reads_95 rfl rfl ?_
    refine r_if_eq (tgt := 155) dX11_reads_96 (by decide) (fun c => ?_) (fun c => ?_)
    · rw [if_pos c] at h
      refine r_aload_n (i := 0) dX11_reads_155 rfl rfl ?_
      obtain ⟨⟨r4, Ir4, Lr4⟩, hr, h⟩ := bind_some h
      refine r_V (d' := 0) k_X11_120 dX11_reads_156 (by omega) rfl rfl rfl (Nat.le_of_ble_eq_true rfl) (Nat.le_of_ble_eq_true rfl) (ok_X11_next_67 (Nat.le_refl _) hr) (fun v I' L' hq => ?_)
      obtain ⟨rfl, rfl, rfl⟩ := hq
      simp only [Option.toList_some, Option.toList_none, List.drop_succ_cons, List.drop_zero, List.drop_nil, List.cons_append, List.nil_append]
      dsimp only at h
      refine r_if_ne (tgt := 166) dX11_reads_159 (by decide) (fun c => ?_) (fun c => ?_)
      · rw [if_neg c] at h
        refine r_iconst (v := 0) dX11_reads_166 (by decide) ?_
        refine r_iret (by first | rfl | decide) dX11_reads_167 ?_
        obtain rfl := Option.some.inj h
        exact ⟨rfl, rfl, rfl⟩
      · rw [if_pos c] at h
        refine r_iconst (v := 1) dX11_reads_162 (by decide) ?_
        refine r_goto (tgt := 167) dX11_reads_163 (by decide) ?_
        refine r_iret (by first | rfl | decide) dX11_reads_167 ?_
        obtain rfl := Option.some.inj h
        exact ⟨rfl, rfl, rfl⟩
    · rw [if_neg c] at h
      refine r_aload_n (i := 0) dX11_reads_99 rfl rfl ?_
      obtain ⟨⟨r6, Ir6, Lr6⟩, hr, h⟩ := bind_some h
      refine r_V (d' := 3) k_X11_140 dX11_reads_100 (by omega) rfl rfl rfl (Nat.le_of_ble_eq_true rfl) (Nat.le_of_ble_eq_true rfl) (ok_X11_readsRoad_67 (Nat.le_refl _) hr) (fun v I' L' hq => ?_)
      obtain ⟨rfl, rfl, rfl⟩ := hq
      simp only [Option.toList_some, Option.toList_none, List.drop_succ_cons, List.drop_zero, List.drop_nil, List.cons_append, List.nil_append]
      dsimp only at h
      refine r_if_ne (tgt := 108) dX11_reads_103 (by decide) (fun c => ?_) (fun c => ?_)
      · rw [if_neg c] at h
        refine r_aload_n (i := 0) dX11_reads_108 rfl rfl ?_
        obtain ⟨⟨r8, Ir8, Lr8⟩, hr, h⟩ := bind_some h
        refine r_V (d' := 0) k_X11_120 dX11_reads_109 (by omega) rfl rfl rfl (Nat.le_of_ble_eq_true rfl) (Nat.le_of_ble_eq_true rfl) (ok_X11_next_67 (Nat.le_refl _) hr) (fun v I' L' hq => ?_)
        obtain ⟨rfl, rfl, rfl⟩ := hq
        simp only [Option.toList_some, Option.toList_none, List.drop_succ_cons, List.drop_zero, List.drop_nil, List.cons_append, List.nil_append]
        dsimp only at h
        refine r_bipush (v := 44) dX11_reads_112 (by decide) ?_
        refine r_icmp_ne (tgt := 132) dX11_reads_114 (by decide) (fun c => ?_) (fun c => ?_)
        · rw [if_neg c] at h
          exact RR.wk (ok_X11_reads_67_b132 hd ih h) (And.intro rfl (trivial))
        · rw [if_pos c] at h
          refine r_aload_n (i := 0) dX11_reads_117 rfl rfl ?_
          refine r_getR f_X11_7 dX11_reads_118 rfl rfl ?_
          refine r_iconst (v := 1) dX11_reads_121 (by decide) ?_
          refine r_iald rfl (vp_lit (by decide)) dX11_reads_122 ?_
          refine r_bipush (v := 15) dX11_reads_123 (by decide) ?_
          refine r_icmp_ge (tgt := 132) dX11_reads_125 (by decide) (fun c => ?_) (fun c => ?_)
          · rw [if_pos c] at h
            exact RR.wk (ok_X11_reads_67_b132 hd ih h) (And.intro rfl (trivial))
          · rw [if_neg c] at h
            refine r_iconst (v := 1) dX11_reads_128 (by decide) ?_
            refine r_goto (tgt := 133) dX11_reads_129 (by decide) ?_
            exact RR.wk (ok_X11_reads_67_b133 hd ih _ h) (And.intro rfl (trivial))
      · rw [if_pos c] at h
        refine r_iconst (v := 0) dX11_reads_106 (by decide) ?_
        refine r_iret (by first | rfl | decide) dX11_reads_107 ?_
        obtain rfl := Option.some.inj h
        exact ⟨rfl, rfl, rfl⟩
def f_X11_reads_67_b76 (I : mI) (L : mL) (s0 : Int32) : rI := if s0 = 0 then (lt (uI I 67 8 ((I 67 8) + 0)) (fun M3 => f_X11_reads_67_l95 fuel s0 M3 L)) else (lt (uI I 67 8 ((I 67 8) + 1)) (fun M12 => f_X11_reads_67_l95 fuel s0 M12 L))
theorem ok_X11_reads_67_b76 {d : Nat} (hd : 4 ≤ d){I : mI} {L : mL} (s0 : Int32) {o : Int32 × mI × mL} (h : f_X11_reads_67_b76 I L s0 = some o) : RR mX11_reads d 76 [some (.ref 67), none] [.int s0] I L (retQ (some (.int o.1)) o.2.1 o.2.2) := by
  unfold f_X11_reads_67_b76 at h
  refine r_istore_n (i := 1) dX11_reads_76 rfl (by decide) rfl ?_
  simp only [List.set_cons_zero, List.set_cons_succ]
  refine r_aload_n (i := 0) dX11_reads_77 rfl rfl ?_
  refine r_dup dX11_reads_78 rfl ?_
  refine r_getI f_X11_117 dX11_reads_79 rfl rfl ?_
  refine r_iload_n (i := 1) dX11_reads_82 rfl rfl ?_
  refine r_if_eq (tgt := 90) dX11_reads_83 (by decide) (fun c => ?_) (fun c => ?_)
  · rw [if_pos c] at h
    refine r_iconst (v := 0) dX11_reads_90 (by decide) ?_
    refine r_iadd dX11_reads_91 ?_
    refine r_putI f_X11_117 rfl rfl dX11_reads_92 rfl rfl ?_
    replace h := lt_some h
    exact RR.wk (ok_X11_reads_67_l95 hd _ _ _ _ _ h) (And.intro rfl (And.intro rfl (trivial)))
  · rw [if_neg c] at h
    refine r_iconst (v := 1) dX11_reads_86 (by decide) ?_
    refine r_goto (tgt := 91) dX11_reads_87 (by decide) ?_
    refine r_iadd dX11_reads_91 ?_
    refine r_putI f_X11_117 rfl rfl dX11_reads_92 rfl rfl ?_
    replace h := lt_some h
    exact RR.wk (ok_X11_reads_67_l95 hd _ _ _ _ _ h) (And.intro rfl (And.intro rfl (trivial)))
def f_X11_reads_67_b40 (I : mI) (L : mL) (k2 : Int32 → mI → mL → rI) (s0 : Int32) : rI := if s0 = 0 then (lt (uI I 67 8 ((I 67 8) + 0)) (fun M17 => k2 s0 M17 L)) else (lt (uI I 67 8 ((I 67 8) + 1)) (fun M18 => k2 s0 M18 L))
theorem ok_X11_reads_67_b40 {d : Nat} (hd : 4 ≤ d){I : mI} {L : mL} {k2 : Int32 → mI → mL → rI} (hk2 : ∀ (x1 : Int32) (I : mI) (L : mL) (o : Int32 × mI × mL), k2 x1 I L = some o → RR mX11_reads d 2 [some (.ref 67), some (.int x1)] [] I L (retQ (some (.int o.1)) o.2.1 o.2.2)) (s0 : Int32) {o : Int32 × mI × mL} (h : f_X11_reads_67_b40 I L k2 s0 = some o) : RR mX11_reads d 40 [some (.ref 67), none] [.int s0] I L (retQ (some (.int o.1)) o.2.1 o.2.2) := by
  unfold f_X11_reads_67_b40 at h
  refine r_istore_n (i := 1) dX11_reads_40 rfl (by decide) rfl ?_
  simp only [List.set_cons_zero, List.set_cons_succ]
  refine r_aload_n (i := 0) dX11_reads_41 rfl rfl ?_
  refine r_dup dX11_reads_42 rfl ?_
  refine r_getI f_X11_117 dX11_reads_43 rfl rfl ?_
  refine r_iload_n (i := 1) dX11_reads_46 rfl rfl ?_
  refine r_if_eq (tgt := 54) dX11_reads_47 (by decide) (fun c => ?_) (fun c => ?_)
  · rw [if_pos c] at h
    refine r_iconst (v := 0) dX11_reads_54 (by decide) ?_
    refine r_iadd dX11_reads_55 ?_
    refine r_putI f_X11_117 rfl rfl dX11_reads_56 rfl rfl ?_
    replace h := lt_some h
    refine r_goto (tgt := 2) dX11_reads_59 (by decide) ?_
    exact RR.wk (hk2 _ _ _ _ h) (And.intro rfl (And.intro rfl (trivial)))
  · rw [if_neg c] at h
    refine r_iconst (v := 1) dX11_reads_50 (by decide) ?_
    refine r_goto (tgt := 55) dX11_reads_51 (by decide) ?_
    refine r_iadd dX11_reads_55 ?_
    refine r_putI f_X11_117 rfl rfl dX11_reads_56 rfl rfl ?_
    replace h := lt_some h
    refine r_goto (tgt := 2) dX11_reads_59 (by decide) ?_
    exact RR.wk (hk2 _ _ _ _ h) (And.intro rfl (And.intro rfl (trivial)))
def f_X11_reads_67_b39 (I : mI) (L : mL) (k2 : Int32 → mI → mL → rI) : rI := f_X11_reads_67_b40 I L k2 0
theorem ok_X11_reads_67_b39 {d : Nat} (hd : 4 ≤ d){I : mI} {L : mL} {k2 : Int32 → mI → mL → rI} (hk2 : ∀ (x1 : Int32) (I : mI) (L : mL) (o : Int32 × mI × mL), k2 x1 I L = some o → RR mX11_reads d 2 [some (.ref 67), some (.int x1)] [] I L (retQ (some (.int o.1)) o.2.1 o.2.2)) {o : Int32 × mI × mL} (h : f_X11_reads_67_b39 I L k2 = some o) : RR mX11_reads d 39 [some (.ref 67), none] [] I L (retQ (some (.int o.1)) o.2.1 o.2.2) := by
  unfold f_X11_reads_67_b39 at h
  refine r_iconst (v := 0) dX11_reads_39 (by decide) ?_
  exact RR.wk (ok_X11_reads_67_b40 hd hk2 _ h) (And.intro rfl (trivial))
def f_X11_reads_67_l2 : Nat → Int32 → mI → mL → rI
  | 0, _, _, _ => none
  | n + 1, x1, I, L => if x1 = 0 then (bndI (f_X11_next_67 I L) (fun r1 Ir1 Lr1 => if r1 = 59 then (f_X11_reads_67_b76 Ir1 Lr1 1) else (f_X11_reads_67_b76 Ir1 Lr1 0))) else (bndI (f_X11_readsParish_67 I L) (fun r13 Ir13 Lr13 => if r13 = 0 then (some (0, Ir13, Lr13)) else (bndI (f_X11_next_67 Ir13 Lr13) (fun r15 Ir15 Lr15 => if r15 = 44 then (if 8 ≤ (Ir15 68 (0 : Int32).toNatClampNeg) then (f_X11_reads_67_b39 Ir15 Lr15 (f_X11_reads_67_l2 n)) else (f_X11_reads_67_b40 Ir15 Lr15 (f_X11_reads_67_l2 n) 1)) else (f_X11_reads_67_b39 Ir15 Lr15 (f_X11_reads_67_l2 n))))))
theorem ok_X11_reads_67_l2 {d : Nat} (hd : 4 ≤ d) : ∀ (n : Nat) (x1 : Int32) (I : mI) (L : mL) (o : Int32 × mI × mL), f_X11_reads_67_l2 n x1 I L = some o → RR mX11_reads d 2 [some (.ref 67), some (.int x1)] [] I L (retQ (some (.int o.1)) o.2.1 o.2.2) := by
  intro n
  induction n with
  | zero => intro x1 I L o h; rw [f_X11_reads_67_l2] at h; cases h
  | succ n ih =>
    intro x1 I L o h
    rw [f_X11_reads_67_l2] at h
    refine r_iload_n (i := 1) dX11_reads_2 rfl rfl ?_
    refine r_if_eq (tgt := 62) dX11_reads_3 (by decide) (fun c => ?_) (fun c => ?_)
    · rw [if_pos c] at h
      refine r_aload_n (i := 0) dX11_reads_62 rfl rfl ?_
      obtain ⟨⟨r1, Ir1, Lr1⟩, hr, h⟩ := bind_some h
      refine r_V (d' := 0) k_X11_120 dX11_reads_63 (by omega) rfl rfl rfl (Nat.le_of_ble_eq_true rfl) (Nat.le_of_ble_eq_true rfl) (ok_X11_next_67 (Nat.le_refl _) hr) (fun v I' L' hq => ?_)
      obtain ⟨rfl, rfl, rfl⟩ := hq
      simp only [Option.toList_some, Option.toList_none, List.drop_succ_cons, List.drop_zero, List.drop_nil, List.cons_append, List.nil_append]
      dsimp only at h
      refine r_bipush (v := 59) dX11_reads_66 (by decide) ?_
      refine r_icmp_ne (tgt := 75) dX11_reads_68 (by decide) (fun c => ?_) (fun c => ?_)
      · rw [if_neg c] at h
        refine r_iconst (v := 0) dX11_reads_75 (by decide) ?_
        exact RR.wk (ok_X11_reads_67_b76 hd _ h) (And.intro rfl (trivial))
      · rw [if_pos c] at h
        refine r_iconst (v := 1) dX11_reads_71 (by decide) ?_
        refine r_goto (tgt := 76) dX11_reads_72 (by decide) ?_
        exact RR.wk (ok_X11_reads_67_b76 hd _ h) (And.intro rfl (trivial))
    · rw [if_neg c] at h
      refine r_aload_n (i := 0) dX11_reads_6 rfl rfl ?_
      obtain ⟨⟨r13, Ir13, Lr13⟩, hr, h⟩ := bind_some h
      refine r_V (d' := 2) k_X11_136 dX11_reads_7 (by omega) rfl rfl rfl (Nat.le_of_ble_eq_true rfl) (Nat.le_of_ble_eq_true rfl) (ok_X11_readsParish_67 (Nat.le_refl _) hr) (fun v I' L' hq => ?_)
      obtain ⟨rfl, rfl, rfl⟩ := hq
      simp only [Option.toList_some, Option.toList_none, List.drop_succ_cons, List.drop_zero, List.drop_nil, List.cons_append, List.nil_append]
      dsimp only at h
      refine r_if_ne (tgt := 15) dX11_reads_10 (by decide) (fun c => ?_) (fun c => ?_)
      · rw [if_neg c] at h
        refine r_aload_n (i := 0) dX11_reads_15 rfl rfl ?_
        obtain ⟨⟨r15, Ir15, Lr15⟩, hr, h⟩ := bind_some h
        refine r_V (d' := 0) k_X11_120 dX11_reads_16 (by omega) rfl rfl rfl (Nat.le_of_ble_eq_true rfl) (Nat.le_of_ble_eq_true rfl) (ok_X11_next_67 (Nat.le_refl _) hr) (fun v I' L' hq => ?_)
        obtain ⟨rfl, rfl, rfl⟩ := hq
        simp only [Option.toList_some, Option.toList_none, List.drop_succ_cons, List.drop_zero, List.drop_nil, List.cons_append, List.nil_append]
        dsimp only at h
        refine r_bipush (v := 44) dX11_reads_19 (by decide) ?_
        refine r_icmp_ne (tgt := 39) dX11_reads_21 (by decide) (fun c => ?_) (fun c => ?_)
        · rw [if_neg c] at h
          exact RR.wk (ok_X11_reads_67_b39 hd ih h) (And.intro rfl (trivial))
        · rw [if_pos c] at h
          refine r_aload_n (i := 0) dX11_reads_24 rfl rfl ?_
          refine r_getR f_X11_7 dX11_reads_25 rfl rfl ?_
          refine r_iconst (v := 0) dX11_reads_28 (by decide) ?_
          refine r_iald rfl (vp_lit (by decide)) dX11_reads_29 ?_
          refine r_bipush (v := 8) dX11_reads_30 (by decide) ?_
          refine r_icmp_ge (tgt := 39) dX11_reads_32 (by decide) (fun c => ?_) (fun c => ?_)
          · rw [if_pos c] at h
            exact RR.wk (ok_X11_reads_67_b39 hd ih h) (And.intro rfl (trivial))
          · rw [if_neg c] at h
            refine r_iconst (v := 1) dX11_reads_35 (by decide) ?_
            refine r_goto (tgt := 40) dX11_reads_36 (by decide) ?_
            exact RR.wk (ok_X11_reads_67_b40 hd ih _ h) (And.intro rfl (trivial))
      · rw [if_pos c] at h
        refine r_iconst (v := 0) dX11_reads_13 (by decide) ?_
        refine r_iret (by first | rfl | decide) dX11_reads_14 ?_
        obtain rfl := Option.some.inj h
        exact ⟨rfl, rfl, rfl⟩
def f_X11_reads_67 (I : mI) (L : mL) : rI := f_X11_reads_67_l2 fuel 1 I L
theorem ok_X11_reads_67 {d : Nat} (hd : 4 ≤ d) {I : mI} {L : mL} {o : Int32 × mI × mL} (h : f_X11_reads_67 I L = some o) : RR mX11_reads d 0 [some (.ref 67), none] [] I L (retQ (some (.int o.1)) o.2.1 o.2.2) := by
  unfold f_X11_reads_67 at h
  refine r_iconst (v := 1) dX11_reads_0 (by decide) ?_
  refine r_istore_n (i := 1) dX11_reads_1 rfl (by decide) rfl ?_
  simp only [List.set_cons_zero, List.set_cons_succ]
  exact RR.wk (ok_X11_reads_67_l2 hd _ _ _ _ _ h) (And.intro rfl (And.intro rfl (trivial)))
def f_X11_land_67_l83 : Nat → Int32 → mI → mL → rI
  | 0, _, _, _ => none
  | n + 1, x2, I, L => if 135 ≤ x2 then (some ((-20) - (I 67 8), I, L)) else (ck (inb x2 135) (ck (inb x2 135) (lt (uI I 68 x2.toNatClampNeg (I 74 x2.toNatClampNeg)) (fun M9 => lt (x2 + Int32.ofInt 1) (fun v10 => f_X11_land_67_l83 n v10 M9 L)))))
theorem ok_X11_land_67_l83 {d : Nat} (hd : 5 ≤ d) : ∀ (n : Nat) (x2 : Int32) (I : mI) (L : mL) (o : Int32 × mI × mL), f_X11_land_67_l83 n x2 I L = some o → RR mX11_land d 83 [some (.ref 67), none, some (.int x2)] [] I L (retQ (some (.int o.1)) o.2.1 o.2.2) := by
  intro n
  induction n with
  | zero => intro x2 I L o h; rw [f_X11_land_67_l83] at h; cases h
  | succ n ih =>
    intro x2 I L o h
    rw [f_X11_land_67_l83] at h
    refine r_iload_n (i := 2) dX11_land_83 rfl rfl ?_
    refine r_sipush (v := 135) dX11_land_84 (by decide) ?_
    refine r_icmp_ge (tgt := 108) dX11_land_87 (by decide) (fun c => ?_) (fun c => ?_)
    · rw [if_pos c] at h
      refine r_bipush (v := (-20)) dX11_land_108 (by decide) ?_
      refine r_aload_n (i := 0) dX11_land_110 rfl rfl ?_
      refine r_getI f_X11_117 dX11_land_111 rfl rfl ?_
      refine r_isub dX11_land_114 ?_
      refine r_iret (by first | rfl | decide) dX11_land_115 ?_
      obtain rfl := Option.some.inj h
      exact ⟨rfl, rfl, rfl⟩
    · rw [if_neg c] at h
      refine r_aload_n (i := 0) dX11_land_90 rfl rfl ?_
      refine r_getR f_X11_7 dX11_land_91 rfl rfl ?_
      refine r_iload_n (i := 2) dX11_land_94 rfl rfl ?_
      refine r_aload_n (i := 0) dX11_land_95 rfl rfl ?_
      refine r_getR f_X11_29 dX11_land_96 rfl rfl ?_
      refine r_iload_n (i := 2) dX11_land_99 rfl rfl ?_
      obtain ⟨hb, h⟩ := ck_some h
      refine r_iald rfl (inb_vp hb) dX11_land_100 ?_
      obtain ⟨hb, h⟩ := ck_some h
      refine r_iast rfl (inb_vp hb) dX11_land_101 ?_
      replace h := lt_some h
      refine r_iinc (v := _) dX11_land_102 rfl rfl (by decide) rfl ?_
      simp only [List.set_cons_zero, List.set_cons_succ]
      replace h := lt_some h
      refine r_goto (tgt := 83) dX11_land_105 (by decide) ?_
      exact RR.wk (ih _ _ _ _ h) (And.intro rfl (And.intro rfl (trivial)))
def f_X11_land_67_l2 : Nat → Int32 → mI → mL → rI
  | 0, _, _, _ => none
  | n + 1, x1, I, L => if 135 ≤ x1 then (lt (uI I 68 (0 : Int32).toNatClampNeg 0) (fun M1 => lt (uI M1 68 (1 : Int32).toNatClampNeg 0) (fun M2 => lt (uI M2 68 (3 : Int32).toNatClampNeg 0) (fun M3 => lt (uI M3 68 (4 : Int32).toNatClampNeg 0) (fun M4 => lt (uI M4 67 8 0) (fun M5 => bndI (f_X11_reads_67 M5 L) (fun r6 Ir6 Lr6 => lt (uI Ir6 67 4 0) (fun M8 => if r6 = 0 then (f_X11_land_67_l83 fuel 0 M8 Lr6) else (some (M8 68 (0 : Int32).toNatClampNeg, M8, Lr6)))))))))) else (ck (inb x1 135) (ck (inb x1 135) (lt (uI I 74 x1.toNatClampNeg (I 68 x1.toNatClampNeg)) (fun M11 => lt (x1 + Int32.ofInt 1) (fun v12 => f_X11_land_67_l2 n v12 M11 L)))))
theorem ok_X11_land_67_l2 {d : Nat} (hd : 5 ≤ d) : ∀ (n : Nat) (x1 : Int32) (I : mI) (L : mL) (o : Int32 × mI × mL), f_X11_land_67_l2 n x1 I L = some o → RR mX11_land d 2 [some (.ref 67), some (.int x1), none] [] I L (retQ (some (.int o.1)) o.2.1 o.2.2) := by
  intro n
  induction n with
  | zero => intro x1 I L o h; rw [f_X11_land_67_l2] at h; cases h
  | succ n ih =>
    intro x1 I L o h
    rw [f_X11_land_67_l2] at h
    refine r_iload_n (i := 1) dX11_land_2 rfl rfl ?_
    refine r_sipush (v := 135) dX11_land_3 (by decide) ?_
    refine r_icmp_ge (tgt := 27) dX11_land_6 (by decide) (fun c => ?_) (fun c => ?_)
    · rw [if_pos c] at h
      refine r_aload_n (i := 0) dX11_land_27 rfl rfl ?_
      refine r_getR f_X11_7 dX11_land_28 rfl rfl ?_
      refine r_iconst (v := 0) dX11_land_31 (by decide) ?_
      refine r_iconst (v := 0) dX11_land_32 (by decide) ?_
      refine r_iast rfl (vp_lit (by decide)) dX11_land_33 ?_
      replace h := lt_some h
      refine r_aload_n (i := 0) dX11_land_34 rfl rfl ?_
      refine r_getR f_X11_7 dX11_land_35 rfl rfl ?_
      refine r_iconst (v := 1) dX11_land_38 (by decide) ?_
      refine r_iconst (v := 0) dX11_land_39 (by decide) ?_
      refine r_iast rfl (vp_lit (by decide)) dX11_land_40 ?_
      replace h := lt_some h
      refine r_aload_n (i := 0) dX11_land_41 rfl rfl ?_
      refine r_getR f_X11_7 dX11_land_42 rfl rfl ?_
      refine r_iconst (v := 3) dX11_land_45 (by decide) ?_
      refine r_iconst (v := 0) dX11_land_46 (by decide) ?_
      refine r_iast rfl (vp_lit (by decide)) dX11_land_47 ?_
      replace h := lt_some h
      refine r_aload_n (i := 0) dX11_land_48 rfl rfl ?_
      refine r_getR f_X11_7 dX11_land_49 rfl rfl ?_
      refine r_iconst (v := 4) dX11_land_52 (by decide) ?_
      refine r_iconst (v := 0) dX11_land_53 (by decide) ?_
      refine r_iast rfl (vp_lit (by decide)) dX11_land_54 ?_
      replace h := lt_some h
      refine r_aload_n (i := 0) dX11_land_55 rfl rfl ?_
      refine r_iconst (v := 0) dX11_land_56 (by decide) ?_
      refine r_putI f_X11_117 rfl rfl dX11_land_57 rfl rfl ?_
      replace h := lt_some h
      refine r_aload_n (i := 0) dX11_land_60 rfl rfl ?_
      obtain ⟨⟨r6, Ir6, Lr6⟩, hr, h⟩ := bind_some h
      refine r_V (d' := 4) k_X11_143 dX11_land_61 (by omega) rfl rfl rfl (Nat.le_of_ble_eq_true rfl) (Nat.le_of_ble_eq_true rfl) (ok_X11_reads_67 (Nat.le_refl _) hr) (fun v I' L' hq => ?_)
      obtain ⟨rfl, rfl, rfl⟩ := hq
      simp only [Option.toList_some, Option.toList_none, List.drop_succ_cons, List.drop_zero, List.drop_nil, List.cons_append, List.nil_append]
      dsimp only at h
      refine r_istore_n (i := 1) dX11_land_64 rfl (by decide) rfl ?_
      simp only [List.set_cons_zero, List.set_cons_succ]
      refine r_aload_n (i := 0) dX11_land_65 rfl rfl ?_
      refine r_iconst (v := 0) dX11_land_66 (by decide) ?_
      refine r_putI f_X11_113 rfl rfl dX11_land_67 rfl rfl ?_
      replace h := lt_some h
      refine r_iload_n (i := 1) dX11_land_70 rfl rfl ?_
      refine r_if_eq (tgt := 81) dX11_land_71 (by decide) (fun c => ?_) (fun c => ?_)
      · rw [if_pos c] at h
        refine r_iconst (v := 0) dX11_land_81 (by decide) ?_
        refine r_istore_n (i := 2) dX11_land_82 rfl (by decide) rfl ?_
        simp only [List.set_cons_zero, List.set_cons_succ]
        exact RR.wk (ok_X11_land_67_l83 hd _ _ _ _ _ h) (And.intro rfl (And.intro rfl (trivial)))
      · rw [if_neg c] at h
        refine r_aload_n (i := 0) dX11_land_74 rfl rfl ?_
        refine r_getR f_X11_7 dX11_land_75 rfl rfl ?_
        refine r_iconst (v := 0) dX11_land_78 (by decide) ?_
        refine r_iald rfl (vp_lit (by decide)) dX11_land_79 ?_
        refine r_iret (by first | rfl | decide) dX11_land_80 ?_
        obtain rfl := Option.some.inj h
        exact ⟨rfl, rfl, rfl⟩
    · rw [if_neg c] at h
      refine r_aload_n (i := 0) dX11_land_9 rfl rfl ?_
      refine r_getR f_X11_29 dX11_land_10 rfl rfl ?_
      refine r_iload_n (i := 1) dX11_land_13 rfl rfl ?_
      refine r_aload_n (i := 0) dX11_land_14 rfl rfl ?_
      refine r_getR f_X11_7 dX11_land_15 rfl rfl ?_
      refine r_iload_n (i := 1) dX11_land_18 rfl rfl ?_
      obtain ⟨hb, h⟩ := ck_some h
      refine r_iald rfl (inb_vp hb) dX11_land_19 ?_
      obtain ⟨hb, h⟩ := ck_some h
      refine r_iast rfl (inb_vp hb) dX11_land_20 ?_
      replace h := lt_some h
      refine r_iinc (v := _) dX11_land_21 rfl rfl (by decide) rfl ?_
      simp only [List.set_cons_zero, List.set_cons_succ]
      replace h := lt_some h
      refine r_goto (tgt := 2) dX11_land_24 (by decide) ?_
      exact RR.wk (ih _ _ _ _ h) (And.intro rfl (And.intro rfl (trivial)))
def f_X11_land_67 (I : mI) (L : mL) : rI := f_X11_land_67_l2 fuel 0 I L
theorem ok_X11_land_67 {d : Nat} (hd : 5 ≤ d) {I : mI} {L : mL} {o : Int32 × mI × mL} (h : f_X11_land_67 I L = some o) : RR mX11_land d 0 [some (.ref 67), none, none] [] I L (retQ (some (.int o.1)) o.2.1 o.2.2) := by
  unfold f_X11_land_67 at h
  refine r_iconst (v := 0) dX11_land_0 (by decide) ?_
  refine r_istore_n (i := 1) dX11_land_1 rfl (by decide) rfl ?_
  simp only [List.set_cons_zero, List.set_cons_succ]
  exact RR.wk (ok_X11_land_67_l2 hd _ _ _ _ _ h) (And.intro rfl (And.intro rfl (trivial)))
def f_X11_count_67_l4 (I : mI) (L : mL) : Nat → Int32 → Int32 → Int32 → Option Int32
  | 0, _, _, _ => none
  | n + 1, x1, x2, x3 => if (I 68 (3 : Int32).toNatClampNeg) ≤ x3 then ((f_X11_in I L (x1.toInt64) 0 7).bind (fun r1 => if r1 = 0 then (some (-1)) else (if 6 ≤ x1 then (if x1 = 6 then ((f_X11_season_67 I L).bind (fun r2 => some r2)) else (some x2)) else (ck (inb x1 135) (some (I 68 x1.toNatClampNeg)))))) else (ck (inb (117 + x3) 135) (if (I 68 (117 + x3).toNatClampNeg) ≤ 0 then (lt (x2 + 0) (fun v3 => lt (x3 + Int32.ofInt 1) (fun v4 => f_X11_count_67_l4 I L n x1 v3 v4))) else (lt (x2 + 1) (fun v5 => lt (x3 + Int32.ofInt 1) (fun v6 => f_X11_count_67_l4 I L n x1 v5 v6)))))
theorem ok_X11_count_67_l4 {d : Nat} (hd : 1 ≤ d){I : mI} {L : mL} : ∀ (n : Nat) (x1 : Int32) (x2 : Int32) (x3 : Int32) (o : Int32), f_X11_count_67_l4 I L n x1 x2 x3 = some o → RR mX11_count d 4 [some (.ref 67), some (.int x1), some (.int x2), some (.int x3)] [] I L (retQ (some (.int o)) I L) := by
  intro n
  induction n with
  | zero => intro x1 x2 x3 o h; rw [f_X11_count_67_l4] at h; cases h
  | succ n ih =>
    intro x1 x2 x3 o h
    rw [f_X11_count_67_l4] at h
    refine r_iload_n (i := 3) dX11_count_4 rfl rfl ?_
    refine r_aload_n (i := 0) dX11_count_5 rfl rfl ?_
    refine r_getR f_X11_7 dX11_count_6 rfl rfl ?_
    refine r_iconst (v := 3) dX11_count_9 (by decide) ?_
    refine r_iald rfl (vp_lit (by decide)) dX11_count_10 ?_
    refine r_icmp_ge (tgt := 40) dX11_count_11 (by decide) (fun c => ?_) (fun c => ?_)
    · rw [if_pos c] at h
      refine r_iload_n (i := 1) dX11_count_40 rfl rfl ?_
      refine r_i2l dX11_count_41 ?_
      refine r_lconst (v := 0) dX11_count_42 (by decide) ?_
      refine r_ldc2 n_X11_91 dX11_count_43 ?_
      obtain ⟨r1, hr, h⟩ := bind_some h
      refine r_S (d' := 0) k_X11_50 dX11_count_46 (by omega) rfl (Nat.le_of_ble_eq_true rfl) (Nat.le_of_ble_eq_true rfl) (ok_X11_in (Nat.le_refl _) hr) (fun v I' L' hq => ?_)
      obtain ⟨rfl, rfl, rfl⟩ := hq
      simp only [Option.toList_some, Option.toList_none, List.drop_succ_cons, List.drop_zero, List.drop_nil, List.cons_append, List.nil_append]
      refine r_if_ne (tgt := 56) dX11_count_49 (by decide) (fun c => ?_) (fun c => ?_)
      · rw [if_neg c] at h
        refine r_iload_n (i := 1) dX11_count_56 rfl rfl ?_
        refine r_bipush (v := 6) dX11_count_57 (by decide) ?_
        refine r_icmp_ge (tgt := 71) dX11_count_59 (by decide) (fun c => ?_) (fun c => ?_)
        · rw [if_pos c] at h
          refine r_iload_n (i := 1) dX11_count_71 rfl rfl ?_
          refine r_bipush (v := 6) dX11_count_72 (by decide) ?_
          refine r_icmp_ne (tgt := 84) dX11_count_74 (by decide) (fun c => ?_) (fun c => ?_)
          · rw [if_neg c] at h
            refine r_iload_n (i := 2) dX11_count_84 rfl rfl ?_
            refine r_iret (by first | rfl | decide) dX11_count_85 ?_
            obtain rfl := Option.some.inj h
            exact ⟨rfl, rfl, rfl⟩
          · rw [if_pos c] at h
            refine r_aload_n (i := 0) dX11_count_77 rfl rfl ?_
            obtain ⟨r2, hr, h⟩ := bind_some h
            refine r_V (d' := 0) k_X11_54 dX11_count_78 (by omega) rfl rfl rfl (Nat.le_of_ble_eq_true rfl) (Nat.le_of_ble_eq_true rfl) (ok_X11_season_67 (Nat.le_refl _) hr) (fun v I' L' hq => ?_)
            obtain ⟨rfl, rfl, rfl⟩ := hq
            simp only [Option.toList_some, Option.toList_none, List.drop_succ_cons, List.drop_zero, List.drop_nil, List.cons_append, List.nil_append]
            refine r_goto (tgt := 85) dX11_count_81 (by decide) ?_
            refine r_iret (by first | rfl | decide) dX11_count_85 ?_
            obtain rfl := Option.some.inj h
            exact ⟨rfl, rfl, rfl⟩
        · rw [if_neg c] at h
          refine r_aload_n (i := 0) dX11_count_62 rfl rfl ?_
          refine r_getR f_X11_7 dX11_count_63 rfl rfl ?_
          refine r_iload_n (i := 1) dX11_count_66 rfl rfl ?_
          obtain ⟨hb, h⟩ := ck_some h
          refine r_iald rfl (inb_vp hb) dX11_count_67 ?_
          refine r_goto (tgt := 85) dX11_count_68 (by decide) ?_
          refine r_iret (by first | rfl | decide) dX11_count_85 ?_
          obtain rfl := Option.some.inj h
          exact ⟨rfl, rfl, rfl⟩
      · rw [if_pos c] at h
        refine r_iconst (v := (-1)) dX11_count_52 (by decide) ?_
        refine r_goto (tgt := 85) dX11_count_53 (by decide) ?_
        refine r_iret (by first | rfl | decide) dX11_count_85 ?_
        obtain rfl := Option.some.inj h
        exact ⟨rfl, rfl, rfl⟩
    · rw [if_neg c] at h
      refine r_iload_n (i := 2) dX11_count_14 rfl rfl ?_
      refine r_aload_n (i := 0) dX11_count_15 rfl rfl ?_
      refine r_getR f_X11_7 dX11_count_16 rfl rfl ?_
      refine r_bipush (v := 117) dX11_count_19 (by decide) ?_
      refine r_iload_n (i := 3) dX11_count_21 rfl rfl ?_
      refine r_iadd dX11_count_22 ?_
      obtain ⟨hb, h⟩ := ck_some h
      refine r_iald rfl (inb_vp hb) dX11_count_23 ?_
      refine r_if_le (tgt := 31) dX11_count_24 (by decide) (fun c => ?_) (fun c => ?_)
      · rw [if_pos c] at h
        refine r_iconst (v := 0) dX11_count_31 (by decide) ?_
        refine r_iadd dX11_count_32 ?_
        refine r_istore_n (i := 2) dX11_count_33 rfl (by decide) rfl ?_
        simp only [List.set_cons_zero, List.set_cons_succ]
        replace h := lt_some h
        refine r_iinc (v := _) dX11_count_34 rfl rfl (by decide) rfl ?_
        simp only [List.set_cons_zero, List.set_cons_succ]
        replace h := lt_some h
        refine r_goto (tgt := 4) dX11_count_37 (by decide) ?_
        exact RR.wk (ih _ _ _ _ h) (And.intro rfl (And.intro rfl (And.intro rfl (And.intro rfl (trivial)))))
      · rw [if_neg c] at h
        refine r_iconst (v := 1) dX11_count_27 (by decide) ?_
        refine r_goto (tgt := 32) dX11_count_28 (by decide) ?_
        refine r_iadd dX11_count_32 ?_
        refine r_istore_n (i := 2) dX11_count_33 rfl (by decide) rfl ?_
        simp only [List.set_cons_zero, List.set_cons_succ]
        replace h := lt_some h
        refine r_iinc (v := _) dX11_count_34 rfl rfl (by decide) rfl ?_
        simp only [List.set_cons_zero, List.set_cons_succ]
        replace h := lt_some h
        refine r_goto (tgt := 4) dX11_count_37 (by decide) ?_
        exact RR.wk (ih _ _ _ _ h) (And.intro rfl (And.intro rfl (And.intro rfl (And.intro rfl (trivial)))))
def f_X11_count_67 (I : mI) (L : mL) (a1 : Int32) : Option Int32 := f_X11_count_67_l4 I L fuel a1 0 0
theorem ok_X11_count_67 {d : Nat} (hd : 1 ≤ d) {I : mI} {L : mL} {a1 : Int32} {o : Int32} (h : f_X11_count_67 I L a1 = some o) : RR mX11_count d 0 [some (.ref 67), some (.int a1), none, none] [] I L (retQ (some (.int o)) I L) := by
  unfold f_X11_count_67 at h
  refine r_iconst (v := 0) dX11_count_0 (by decide) ?_
  refine r_istore_n (i := 2) dX11_count_1 rfl (by decide) rfl ?_
  simp only [List.set_cons_zero, List.set_cons_succ]
  refine r_iconst (v := 0) dX11_count_2 (by decide) ?_
  refine r_istore_n (i := 3) dX11_count_3 rfl (by decide) rfl ?_
  simp only [List.set_cons_zero, List.set_cons_succ]
  exact RR.wk (ok_X11_count_67_l4 hd _ _ _ _ _ h) (And.intro rfl (And.intro rfl (And.intro rfl (And.intro rfl (trivial)))))
def f_X11_goes_67_b59 (I : mI) (L : mL) (k27 : Int32 → Int32 → Int32 → Int32 → Int32 → mI → mL → rI) (x1 : Int32) (x2 : Int32) (x3 : Int32) (x4 : Int32) (x5 : Int32) (s0 : Int32) : rI := if s0 = 0 then (lt (x5 + Int32.ofInt 1) (fun v4 => k27 x1 x2 x3 x4 v4 I L)) else ((f_X11_weight_67 I L x5 x3).bind (fun r5 => (f_X11_weight_67 I L x4 x3).bind (fun r6 => if r6 ≤ r5 then (lt (x5 + Int32.ofInt 1) (fun v7 => k27 x1 x2 x3 x4 v7 I L)) else (lt (x5 + Int32.ofInt 1) (fun v8 => k27 x1 x2 x3 x5 v8 I L)))))
theorem ok_X11_goes_67_b59 {d : Nat} (hd : 2 ≤ d){I : mI} {L : mL} {k27 : Int32 → Int32 → Int32 → Int32 → Int32 → mI → mL → rI} (hk27 : ∀ (x1 : Int32) (x2 : Int32) (x3 : Int32) (x4 : Int32) (x5 : Int32) (I : mI) (L : mL) (o : Int32 × mI × mL), k27 x1 x2 x3 x4 x5 I L = some o → RR mX11_goes d 27 [some (.ref 67), some (.int x1), some (.int x2), some (.int x3), some (.int x4), some (.int x5), none] [] I L (retQ (some (.int o.1)) o.2.1 o.2.2)) (x1 : Int32) (x2 : Int32) (x3 : Int32) (x4 : Int32) (x5 : Int32) (s0 : Int32) {o : Int32 × mI × mL} (h : f_X11_goes_67_b59 I L k27 x1 x2 x3 x4 x5 s0 = some o) : RR mX11_goes d 59 [some (.ref 67), some (.int x1), some (.int x2), some (.int x3), some (.int x4), some (.int x5), none] [.int s0] I L (retQ (some (.int o.1)) o.2.1 o.2.2) := by
  unfold f_X11_goes_67_b59 at h
  refine r_istore dX11_goes_59 (by decide) rfl ?_
  simp only [List.set_cons_zero, List.set_cons_succ]
  refine r_iload dX11_goes_61 rfl ?_
  refine r_if_eq (tgt := 88) dX11_goes_63 (by decide) (fun c => ?_) (fun c => ?_)
  · rw [if_pos c] at h
    refine r_iload dX11_goes_88 rfl ?_
    refine r_istore dX11_goes_90 (by decide) rfl ?_
    simp only [List.set_cons_zero, List.set_cons_succ]
    refine r_iinc (v := _) dX11_goes_92 rfl rfl (by decide) rfl ?_
    simp only [List.set_cons_zero, List.set_cons_succ]
    replace h := lt_some h
    refine r_goto (tgt := 27) dX11_goes_95 (by decide) ?_
    exact RR.wk (hk27 _ _ _ _ _ _ _ _ h) (And.intro rfl (And.intro rfl (And.intro rfl (And.intro rfl (And.intro rfl (And.intro rfl (trivial)))))))
  · rw [if_neg c] at h
    refine r_aload_n (i := 0) dX11_goes_66 rfl rfl ?_
    refine r_iload dX11_goes_67 rfl ?_
    refine r_iload_n (i := 3) dX11_goes_69 rfl rfl ?_
    obtain ⟨r5, hr, h⟩ := bind_some h
    refine r_V (d' := 1) k_X11_88 dX11_goes_70 (by omega) rfl rfl rfl (Nat.le_of_ble_eq_true rfl) (Nat.le_of_ble_eq_true rfl) (ok_X11_weight_67 (Nat.le_refl _) hr) (fun v I' L' hq => ?_)
    obtain ⟨rfl, rfl, rfl⟩ := hq
    simp only [Option.toList_some, Option.toList_none, List.drop_succ_cons, List.drop_zero, List.drop_nil, List.cons_append, List.nil_append]
    refine r_aload_n (i := 0) dX11_goes_73 rfl rfl ?_
    refine r_iload dX11_goes_74 rfl ?_
    refine r_iload_n (i := 3) dX11_goes_76 rfl rfl ?_
    obtain ⟨r6, hr, h⟩ := bind_some h
    refine r_V (d' := 1) k_X11_88 dX11_goes_77 (by omega) rfl rfl rfl (Nat.le_of_ble_eq_true rfl) (Nat.le_of_ble_eq_true rfl) (ok_X11_weight_67 (Nat.le_refl _) hr) (fun v I' L' hq => ?_)
    obtain ⟨rfl, rfl, rfl⟩ := hq
    simp only [Option.toList_some, Option.toList_none, List.drop_succ_cons, List.drop_zero, List.drop_nil, List.cons_append, List.nil_append]
    refine r_icmp_ge (tgt := 88) dX11_goes_80 (by decide) (fun c => ?_) (fun c => ?_)
    · rw [if_pos c] at h
      refine r_iload dX11_goes_88 rfl ?_
      refine r_istore dX11_goes_90 (by decide) rfl ?_
      simp only [List.set_cons_zero, List.set_cons_succ]
      refine r_iinc (v := _) dX11_goes_92 rfl rfl (by decide) rfl ?_
      simp only [List.set_cons_zero, List.set_cons_succ]
      replace h := lt_some h
      refine r_goto (tgt := 27) dX11_goes_95 (by decide) ?_
      exact RR.wk (hk27 _ _ _ _ _ _ _ _ h) (And.intro rfl (And.intro rfl (And.intro rfl (And.intro rfl (And.intro rfl (And.intro rfl (trivial)))))))
    · rw [if_neg c] at h
      refine r_iload dX11_goes_83 rfl ?_
      refine r_goto (tgt := 90) dX11_goes_85 (by decide) ?_
      refine r_istore dX11_goes_90 (by decide) rfl ?_
      simp only [List.set_cons_zero, List.set_cons_succ]
      refine r_iinc (v := _) dX11_goes_92 rfl rfl (by decide) rfl ?_
      simp only [List.set_cons_zero, List.set_cons_succ]
      replace h := lt_some h
      refine r_goto (tgt := 27) dX11_goes_95 (by decide) ?_
      exact RR.wk (hk27 _ _ _ _ _ _ _ _ h) (And.intro rfl (And.intro rfl (And.intro rfl (And.intro rfl (And.intro rfl (And.intro rfl (trivial)))))))
def f_X11_goes_67_b58 (I : mI) (L : mL) (k27 : Int32 → Int32 → Int32 → Int32 → Int32 → mI → mL → rI) (x1 : Int32) (x2 : Int32) (x3 : Int32) (x4 : Int32) (x5 : Int32) : rI := f_X11_goes_67_b59 I L k27 x1 x2 x3 x4 x5 0
theorem ok_X11_goes_67_b58 {d : Nat} (hd : 2 ≤ d){I : mI} {L : mL} {k27 : Int32 → Int32 → Int32 → Int32 → Int32 → mI → mL → rI} (hk27 : ∀ (x1 : Int32) (x2 : Int32) (x3 : Int32) (x4 : Int32) (x5 : Int32) (I : mI) (L : mL) (o : Int32 × mI × mL), k27 x1 x2 x3 x4 x5 I L = some o → RR mX11_goes d 27 [some (.ref 67), some (.int x1), some (.int x2), some (.int x3), some (.int x4), some (.int x5), none] [] I L (retQ (some (.int o.1)) o.2.1 o.2.2)) (x1 : Int32) (x2 : Int32) (x3 : Int32) (x4 : Int32) (x5 : Int32) {o : Int32 × mI × mL} (h : f_X11_goes_67_b58 I L k27 x1 x2 x3 x4 x5 = some o) : RR mX11_goes d 58 [some (.ref 67), some (.int x1), some (.int x2), some (.int x3), some (.int x4), some (.int x5), none] [] I L (retQ (some (.int o.1)) o.2.1 o.2.2) := by
  unfold f_X11_goes_67_b58 at h
  refine r_iconst (v := 0) dX11_goes_58 (by decide) ?_
  exact RR.wk (ok_X11_goes_67_b59 hd hk27 _ _ _ _ _ _ h) (And.intro rfl (And.intro rfl (And.intro rfl (And.intro rfl (And.intro rfl (And.intro rfl (trivial)))))))
def f_X11_goes_67_l27 : Nat → Int32 → Int32 → Int32 → Int32 → Int32 → mI → mL → rI
  | 0, _, _, _, _, _, _, _ => none
  | n + 1, x1, x2, x3, x4, x5, I, L => if (I 68 (0 : Int32).toNatClampNeg) ≤ x5 then (ck (inb (129 + x1) 135) (lt (uI I 68 (129 + x1).toNatClampNeg x4) (fun M3 => if x4 = x2 then (some (0, M3, L)) else (some (1, M3, L))))) else (if x5 = x2 then (f_X11_goes_67_b58 I L (f_X11_goes_67_l27 n) x1 x2 x3 x4 x5) else ((f_X11_roadOf_67 I L x2 x5).bind (fun r9 => if r9 < 0 then (f_X11_goes_67_b58 I L (f_X11_goes_67_l27 n) x1 x2 x3 x4 x5) else (f_X11_goes_67_b59 I L (f_X11_goes_67_l27 n) x1 x2 x3 x4 x5 1))))
theorem ok_X11_goes_67_l27 {d : Nat} (hd : 2 ≤ d) : ∀ (n : Nat) (x1 : Int32) (x2 : Int32) (x3 : Int32) (x4 : Int32) (x5 : Int32) (I : mI) (L : mL) (o : Int32 × mI × mL), f_X11_goes_67_l27 n x1 x2 x3 x4 x5 I L = some o → RR mX11_goes d 27 [some (.ref 67), some (.int x1), some (.int x2), some (.int x3), some (.int x4), some (.int x5), none] [] I L (retQ (some (.int o.1)) o.2.1 o.2.2) := by
  intro n
  induction n with
  | zero => intro x1 x2 x3 x4 x5 I L o h; rw [f_X11_goes_67_l27] at h; cases h
  | succ n ih =>
    intro x1 x2 x3 x4 x5 I L o h
    rw [f_X11_goes_67_l27] at h
    refine r_iload dX11_goes_27 rfl ?_
    refine r_aload_n (i := 0) dX11_goes_29 rfl rfl ?_
    refine r_getR f_X11_7 dX11_goes_30 rfl rfl ?_
    refine r_iconst (v := 0) dX11_goes_33 (by decide) ?_
    refine r_iald rfl (vp_lit (by decide)) dX11_goes_34 ?_
    refine r_icmp_ge (tgt := 98) dX11_goes_35 (by decide) (fun c => ?_) (fun c => ?_)
    · rw [if_pos c] at h
      refine r_aload_n (i := 0) dX11_goes_98 rfl rfl ?_
      refine r_getR f_X11_7 dX11_goes_99 rfl rfl ?_
      refine r_sipush (v := 129) dX11_goes_102 (by decide) ?_
      refine r_iload_n (i := 1) dX11_goes_105 rfl rfl ?_
      refine r_iadd dX11_goes_106 ?_
      refine r_iload dX11_goes_107 rfl ?_
      obtain ⟨hb, h⟩ := ck_some h
      refine r_iast rfl (inb_vp hb) dX11_goes_109 ?_
      replace h := lt_some h
      refine r_iload dX11_goes_110 rfl ?_
      refine r_iload_n (i := 2) dX11_goes_112 rfl rfl ?_
      refine r_icmp_ne (tgt := 120) dX11_goes_113 (by decide) (fun c => ?_) (fun c => ?_)
      · rw [if_neg c] at h
        refine r_iconst (v := 1) dX11_goes_120 (by decide) ?_
        refine r_iret (by first | rfl | decide) dX11_goes_121 ?_
        obtain rfl := Option.some.inj h
        exact ⟨rfl, rfl, rfl⟩
      · rw [if_pos c] at h
        refine r_iconst (v := 0) dX11_goes_116 (by decide) ?_
        refine r_goto (tgt := 121) dX11_goes_117 (by decide) ?_
        refine r_iret (by first | rfl | decide) dX11_goes_121 ?_
        obtain rfl := Option.some.inj h
        exact ⟨rfl, rfl, rfl⟩
    · rw [if_neg c] at h
      refine r_iload dX11_goes_38 rfl ?_
      refine r_iload_n (i := 2) dX11_goes_40 rfl rfl ?_
      refine r_icmp_eq (tgt := 58) dX11_goes_41 (by decide) (fun c => ?_) (fun c => ?_)
      · rw [if_pos c] at h
        exact RR.wk (ok_X11_goes_67_b58 hd ih _ _ _ _ _ h) (And.intro rfl (And.intro rfl (And.intro rfl (And.intro rfl (And.intro rfl (And.intro rfl (trivial)))))))
      · rw [if_neg c] at h
        refine r_aload_n (i := 0) dX11_goes_44 rfl rfl ?_
        refine r_iload_n (i := 2) dX11_goes_45 rfl rfl ?_
        refine r_iload dX11_goes_46 rfl ?_
        obtain ⟨r9, hr, h⟩ := bind_some h
        refine r_V (d' := 0) k_X11_74 dX11_goes_48 (by omega) rfl rfl rfl (Nat.le_of_ble_eq_true rfl) (Nat.le_of_ble_eq_true rfl) (ok_X11_roadOf_67 (Nat.le_refl _) hr) (fun v I' L' hq => ?_)
        obtain ⟨rfl, rfl, rfl⟩ := hq
        simp only [Option.toList_some, Option.toList_none, List.drop_succ_cons, List.drop_zero, List.drop_nil, List.cons_append, List.nil_append]
        refine r_if_lt (tgt := 58) dX11_goes_51 (by decide) (fun c => ?_) (fun c => ?_)
        · rw [if_pos c] at h
          exact RR.wk (ok_X11_goes_67_b58 hd ih _ _ _ _ _ h) (And.intro rfl (And.intro rfl (And.intro rfl (And.intro rfl (And.intro rfl (And.intro rfl (trivial)))))))
        · rw [if_neg c] at h
          refine r_iconst (v := 1) dX11_goes_54 (by decide) ?_
          refine r_goto (tgt := 59) dX11_goes_55 (by decide) ?_
          exact RR.wk (ok_X11_goes_67_b59 hd ih _ _ _ _ _ _ h) (And.intro rfl (And.intro rfl (And.intro rfl (And.intro rfl (And.intro rfl (And.intro rfl (trivial)))))))
def f_X11_goes_67 (I : mI) (L : mL) (a1 : Int32) : rI := ck (inb (129 + a1) 135) (lt (I 68 (129 + a1).toNatClampNeg) (fun v1 => ck (inb (123 + a1) 135) (lt (I 68 (123 + a1).toNatClampNeg) (fun v2 => f_X11_goes_67_l27 fuel a1 v1 v2 v1 0 I L))))
theorem ok_X11_goes_67 {d : Nat} (hd : 2 ≤ d) {I : mI} {L : mL} {a1 : Int32} {o : Int32 × mI × mL} (h : f_X11_goes_67 I L a1 = some o) : RR mX11_goes d 0 [some (.ref 67), some (.int a1), none, none, none, none, none] [] I L (retQ (some (.int o.1)) o.2.1 o.2.2) := by
  unfold f_X11_goes_67 at h
  refine r_aload_n (i := 0) dX11_goes_0 rfl rfl ?_
  refine r_getR f_X11_7 dX11_goes_1 rfl rfl ?_
  refine r_sipush (v := 129) dX11_goes_4 (by decide) ?_
  refine r_iload_n (i := 1) dX11_goes_7 rfl rfl ?_
  refine r_iadd dX11_goes_8 ?_
  obtain ⟨hb, h⟩ := ck_some h
  refine r_iald rfl (inb_vp hb) dX11_goes_9 ?_
  refine r_istore_n (i := 2) dX11_goes_10 rfl (by decide) rfl ?_
  simp only [List.set_cons_zero, List.set_cons_succ]
  replace h := lt_some h
  refine r_aload_n (i := 0) dX11_goes_11 rfl rfl ?_
  refine r_getR f_X11_7 dX11_goes_12 rfl rfl ?_
  refine r_bipush (v := 123) dX11_goes_15 (by decide) ?_
  refine r_iload_n (i := 1) dX11_goes_17 rfl rfl ?_
  refine r_iadd dX11_goes_18 ?_
  obtain ⟨hb, h⟩ := ck_some h
  refine r_iald rfl (inb_vp hb) dX11_goes_19 ?_
  refine r_istore_n (i := 3) dX11_goes_20 rfl (by decide) rfl ?_
  simp only [List.set_cons_zero, List.set_cons_succ]
  replace h := lt_some h
  refine r_iload_n (i := 2) dX11_goes_21 rfl rfl ?_
  refine r_istore dX11_goes_22 (by decide) rfl ?_
  simp only [List.set_cons_zero, List.set_cons_succ]
  refine r_iconst (v := 0) dX11_goes_24 (by decide) ?_
  refine r_istore dX11_goes_25 (by decide) rfl ?_
  simp only [List.set_cons_zero, List.set_cons_succ]
  exact RR.wk (ok_X11_goes_67_l27 hd _ _ _ _ _ _ _ _ _ h) (And.intro rfl (And.intro rfl (And.intro rfl (And.intro rfl (And.intro rfl (And.intro rfl (trivial)))))))
def f_X11_weeks_67_b165 (I : mI) (L : mL) (k38 : Int32 → Int32 → Int32 → Int32 → mI → mL → rI) (k86 : Int32 → Int32 → Int32 → Int32 → Int32 → mI → mL → rI) (x1 : Int32) (x3 : Int32) (x4 : Int32) (x5 : Int32) (x6 : Int32) (s0 : Int32) (s1 : Int32) : rI := lt (s1 + s0) (fun v4 => if x6 = 0 then (ck (inb (117 + x5) 135) (ck (inb (117 + x5) 135) (lt (uI I 68 (117 + x5).toNatClampNeg (I 68 (117 + x5).toNatClampNeg)) (fun M5 => lt (x5 + Int32.ofInt 1) (fun v6 => k86 x1 v4 x3 x4 v6 M5 L))))) else (ck (inb (117 + x5) 135) (lt (uI I 68 (117 + x5).toNatClampNeg 0) (fun M7 => lt (x5 + Int32.ofInt 1) (fun v8 => k86 x1 v4 x3 x4 v8 M7 L)))))
theorem ok_X11_weeks_67_b165 {d : Nat} (hd : 3 ≤ d){I : mI} {L : mL} {k38 : Int32 → Int32 → Int32 → Int32 → mI → mL → rI} {k86 : Int32 → Int32 → Int32 → Int32 → Int32 → mI → mL → rI} (hk38 : ∀ (x1 : Int32) (x2 : Int32) (x3 : Int32) (x4 : Int32) (I : mI) (L : mL) (o : Int32 × mI × mL), k38 x1 x2 x3 x4 I L = some o → RR mX11_weeks d 38 [some (.ref 67), some (.int x1), some (.int x2), some (.int x3), some (.int x4), none, none] [] I L (retQ (some (.int o.1)) o.2.1 o.2.2)) (hk86 : ∀ (x1 : Int32) (x2 : Int32) (x3 : Int32) (x4 : Int32) (x5 : Int32) (I : mI) (L : mL) (o : Int32 × mI × mL), k86 x1 x2 x3 x4 x5 I L = some o → RR mX11_weeks d 86 [some (.ref 67), some (.int x1), some (.int x2), some (.int x3), some (.int x4), some (.int x5), none] [] I L (retQ (some (.int o.1)) o.2.1 o.2.2)) (x1 : Int32) (x3 : Int32) (x4 : Int32) (x5 : Int32) (x6 : Int32) (s0 : Int32) (s1 : Int32) {o : Int32 × mI × mL} (h : f_X11_weeks_67_b165 I L k38 k86 x1 x3 x4 x5 x6 s0 s1 = some o) : RR mX11_weeks d 165 [some (.ref 67), some (.int x1), none, some (.int x3), some (.int x4), some (.int x5), some (.int x6)] [.int s0, .int s1] I L (retQ (some (.int o.1)) o.2.1 o.2.2) := by
  unfold f_X11_weeks_67_b165 at h
  refine r_iadd dX11_weeks_165 ?_
  refine r_istore_n (i := 2) dX11_weeks_166 rfl (by decide) rfl ?_
  simp only [List.set_cons_zero, List.set_cons_succ]
  replace h := lt_some h
  refine r_aload_n (i := 0) dX11_weeks_167 rfl rfl ?_
  refine r_getR f_X11_7 dX11_weeks_168 rfl rfl ?_
  refine r_bipush (v := 117) dX11_weeks_171 (by decide) ?_
  refine r_iload dX11_weeks_173 rfl ?_
  refine r_iadd dX11_weeks_175 ?_
  refine r_iload dX11_weeks_176 rfl ?_
  refine r_if_eq (tgt := 185) dX11_weeks_178 (by decide) (fun c => ?_) (fun c => ?_)
  · rw [if_pos c] at h
    refine r_aload_n (i := 0) dX11_weeks_185 rfl rfl ?_
    refine r_getR f_X11_7 dX11_weeks_186 rfl rfl ?_
    refine r_bipush (v := 117) dX11_weeks_189 (by decide) ?_
    refine r_iload dX11_weeks_191 rfl ?_
    refine r_iadd dX11_weeks_193 ?_
    obtain ⟨hb, h⟩ := ck_some h
    refine r_iald rfl (inb_vp hb) dX11_weeks_194 ?_
    obtain ⟨hb, h⟩ := ck_some h
    refine r_iast rfl (inb_vp hb) dX11_weeks_195 ?_
    replace h := lt_some h
    refine r_iinc (v := _) dX11_weeks_196 rfl rfl (by decide) rfl ?_
    simp only [List.set_cons_zero, List.set_cons_succ]
    replace h := lt_some h
    refine r_goto (tgt := 86) dX11_weeks_199 (by decide) ?_
    exact RR.wk (hk86 _ _ _ _ _ _ _ _ h) (And.intro rfl (And.intro rfl (And.intro rfl (And.intro rfl (And.intro rfl (And.intro rfl (trivial)))))))
  · rw [if_neg c] at h
    refine r_iconst (v := 0) dX11_weeks_181 (by decide) ?_
    refine r_goto (tgt := 195) dX11_weeks_182 (by decide) ?_
    obtain ⟨hb, h⟩ := ck_some h
    refine r_iast rfl (inb_vp hb) dX11_weeks_195 ?_
    replace h := lt_some h
    refine r_iinc (v := _) dX11_weeks_196 rfl rfl (by decide) rfl ?_
    simp only [List.set_cons_zero, List.set_cons_succ]
    replace h := lt_some h
    refine r_goto (tgt := 86) dX11_weeks_199 (by decide) ?_
    exact RR.wk (hk86 _ _ _ _ _ _ _ _ h) (And.intro rfl (And.intro rfl (And.intro rfl (And.intro rfl (And.intro rfl (And.intro rfl (trivial)))))))
def f_X11_weeks_67_b152 (I : mI) (L : mL) (k38 : Int32 → Int32 → Int32 → Int32 → mI → mL → rI) (k86 : Int32 → Int32 → Int32 → Int32 → Int32 → mI → mL → rI) (x1 : Int32) (x2 : Int32) (x3 : Int32) (x4 : Int32) (x5 : Int32) (s0 : Int32) : rI := if s0 = 0 then (f_X11_weeks_67_b165 I L k38 k86 x1 x3 x4 x5 s0 0 x2) else (f_X11_weeks_67_b165 I L k38 k86 x1 x3 x4 x5 s0 1 x2)
theorem ok_X11_weeks_67_b152 {d : Nat} (hd : 3 ≤ d){I : mI} {L : mL} {k38 : Int32 → Int32 → Int32 → Int32 → mI → mL → rI} {k86 : Int32 → Int32 → Int32 → Int32 → Int32 → mI → mL → rI} (hk38 : ∀ (x1 : Int32) (x2 : Int32) (x3 : Int32) (x4 : Int32) (I : mI) (L : mL) (o : Int32 × mI × mL), k38 x1 x2 x3 x4 I L = some o → RR mX11_weeks d 38 [some (.ref 67), some (.int x1), some (.int x2), some (.int x3), some (.int x4), none, none] [] I L (retQ (some (.int o.1)) o.2.1 o.2.2)) (hk86 : ∀ (x1 : Int32) (x2 : Int32) (x3 : Int32) (x4 : Int32) (x5 : Int32) (I : mI) (L : mL) (o : Int32 × mI × mL), k86 x1 x2 x3 x4 x5 I L = some o → RR mX11_weeks d 86 [some (.ref 67), some (.int x1), some (.int x2), some (.int x3), some (.int x4), some (.int x5), none] [] I L (retQ (some (.int o.1)) o.2.1 o.2.2)) (x1 : Int32) (x2 : Int32) (x3 : Int32) (x4 : Int32) (x5 : Int32) (s0 : Int32) {o : Int32 × mI × mL} (h : f_X11_weeks_67_b152 I L k38 k86 x1 x2 x3 x4 x5 s0 = some o) : RR mX11_weeks d 152 [some (.ref 67), some (.int x1), some (.int x2), some (.int x3), some (.int x4), some (.int x5), none] [.int s0] I L (retQ (some (.int o.1)) o.2.1 o.2.2) := by
  unfold f_X11_weeks_67_b152 at h
  refine r_istore dX11_weeks_152 (by decide) rfl ?_
  simp only [List.set_cons_zero, List.set_cons_succ]
  refine r_iload_n (i := 2) dX11_weeks_154 rfl rfl ?_
  refine r_iload dX11_weeks_155 rfl ?_
  refine r_if_eq (tgt := 164) dX11_weeks_157 (by decide) (fun c => ?_) (fun c => ?_)
  · rw [if_pos c] at h
    refine r_iconst (v := 0) dX11_weeks_164 (by decide) ?_
    exact RR.wk (ok_X11_weeks_67_b165 hd hk38 hk86 _ _ _ _ _ _ _ h) (And.intro rfl (And.intro rfl (And.intro rfl (And.intro rfl (And.intro rfl (And.intro rfl (trivial)))))))
  · rw [if_neg c] at h
    refine r_iconst (v := 1) dX11_weeks_160 (by decide) ?_
    refine r_goto (tgt := 165) dX11_weeks_161 (by decide) ?_
    exact RR.wk (ok_X11_weeks_67_b165 hd hk38 hk86 _ _ _ _ _ _ _ h) (And.intro rfl (And.intro rfl (And.intro rfl (And.intro rfl (And.intro rfl (And.intro rfl (trivial)))))))
def f_X11_weeks_67_b151 (I : mI) (L : mL) (k38 : Int32 → Int32 → Int32 → Int32 → mI → mL → rI) (k86 : Int32 → Int32 → Int32 → Int32 → Int32 → mI → mL → rI) (x1 : Int32) (x2 : Int32) (x3 : Int32) (x4 : Int32) (x5 : Int32) : rI := f_X11_weeks_67_b152 I L k38 k86 x1 x2 x3 x4 x5 0
theorem ok_X11_weeks_67_b151 {d : Nat} (hd : 3 ≤ d){I : mI} {L : mL} {k38 : Int32 → Int32 → Int32 → Int32 → mI → mL → rI} {k86 : Int32 → Int32 → Int32 → Int32 → Int32 → mI → mL → rI} (hk38 : ∀ (x1 : Int32) (x2 : Int32) (x3 : Int32) (x4 : Int32) (I : mI) (L : mL) (o : Int32 × mI × mL), k38 x1 x2 x3 x4 I L = some o → RR mX11_weeks d 38 [some (.ref 67), some (.int x1), some (.int x2), some (.int x3), some (.int x4), none, none] [] I L (retQ (some (.int o.1)) o.2.1 o.2.2)) (hk86 : ∀ (x1 : Int32) (x2 : Int32) (x3 : Int32) (x4 : Int32) (x5 : Int32) (I : mI) (L : mL) (o : Int32 × mI × mL), k86 x1 x2 x3 x4 x5 I L = some o → RR mX11_weeks d 86 [some (.ref 67), some (.int x1), some (.int x2), some (.int x3), some (.int x4), some (.int x5), none] [] I L (retQ (some (.int o.1)) o.2.1 o.2.2)) (x1 : Int32) (x2 : Int32) (x3 : Int32) (x4 : Int32) (x5 : Int32) {o : Int32 × mI × mL} (h : f_X11_weeks_67_b151 I L k38 k86 x1 x2 x3 x4 x5 = some o) : RR mX11_weeks d 151 [some (.ref 67), some (.int x1), some (.int x2), some (.int x3), some (.int x4), some (.int x5), none] [] I L (retQ (some (.int o.1)) o.2.1 o.2.2) := by
  unfold f_X11_weeks_67_b151 at h
  refine r_iconst (v := 0) dX11_weeks_151 (by decide) ?_
  exact RR.wk (ok_X11_weeks_67_b152 hd hk38 hk86 _ _ _ _ _ _ h) (And.intro rfl (And.intro rfl (And.intro rfl (And.intro rfl (And.intro rfl (And.intro rfl (trivial)))))))
def f_X11_weeks_67_l86 (k38 : Int32 → Int32 → Int32 → Int32 → mI → mL → rI) : Nat → Int32 → Int32 → Int32 → Int32 → Int32 → mI → mL → rI
  | 0, _, _, _, _, _, _, _ => none
  | n + 1, x1, x2, x3, x4, x5, I, L => if (I 68 (3 : Int32).toNatClampNeg) ≤ x5 then (lt (x4 + Int32.ofInt 1) (fun v3 => k38 x1 x2 x3 v3 I L)) else (ck (inb (117 + x5) 135) (if (I 68 (117 + x5).toNatClampNeg) ≤ 0 then (f_X11_weeks_67_b151 I L k38 (f_X11_weeks_67_l86 k38 n) x1 x2 x3 x4 x5) else (ck (inb (111 + x5) 135) (ck (inb (99 + x5) 135) ((f_X11_weight_67 I L (I 68 (111 + x5).toNatClampNeg) (I 68 (99 + x5).toNatClampNeg)).bind (fun r9 => ck (inb (117 + x5) 135) (if r9 ≤ (I 68 (117 + x5).toNatClampNeg) then (f_X11_weeks_67_b151 I L k38 (f_X11_weeks_67_l86 k38 n) x1 x2 x3 x4 x5) else (f_X11_weeks_67_b152 I L k38 (f_X11_weeks_67_l86 k38 n) x1 x2 x3 x4 x5 1))))))))
theorem ok_X11_weeks_67_l86 {d : Nat} (hd : 3 ≤ d) {k38 : Int32 → Int32 → Int32 → Int32 → mI → mL → rI} (hk38 : ∀ (x1 : Int32) (x2 : Int32) (x3 : Int32) (x4 : Int32) (I : mI) (L : mL) (o : Int32 × mI × mL), k38 x1 x2 x3 x4 I L = some o → RR mX11_weeks d 38 [some (.ref 67), some (.int x1), some (.int x2), some (.int x3), some (.int x4), none, none] [] I L (retQ (some (.int o.1)) o.2.1 o.2.2)) : ∀ (n : Nat) (x1 : Int32) (x2 : Int32) (x3 : Int32) (x4 : Int32) (x5 : Int32) (I : mI) (L : mL) (o : Int32 × mI × mL), f_X11_weeks_67_l86 k38 n x1 x2 x3 x4 x5 I L = some o → RR mX11_weeks d 86 [some (.ref 67), some (.int x1), some (.int x2), some (.int x3), some (.int x4), some (.int x5), none] [] I L (retQ (some (.int o.1)) o.2.1 o.2.2) := by
  intro n
  induction n with
  | zero => intro x1 x2 x3 x4 x5 I L o h; rw [f_X11_weeks_67_l86] at h; cases h
  | succ n ih =>
    intro x1 x2 x3 x4 x5 I L o h
    rw [f_X11_weeks_67_l86] at h
    refine r_iload dX11_weeks_86 rfl ?_
    refine r_aload_n (i := 0) dX11_weeks_88 rfl rfl ?_
    refine r_getR f_X11_7 dX11_weeks_89 rfl rfl ?_
    refine r_iconst (v := 3) dX11_weeks_92 (by decide) ?_
    refine r_iald rfl (vp_lit (by decide)) dX11_weeks_93 ?_
    refine r_icmp_ge (tgt := 202) dX11_weeks_94 (by decide) (fun c => ?_) (fun c => ?_)
    · rw [if_pos c] at h
      refine r_iinc (v := _) dX11_weeks_202 rfl rfl (by decide) rfl ?_
      simp only [List.set_cons_zero, List.set_cons_succ]
      replace h := lt_some h
      refine r_goto (tgt := 38) dX11_weeks_205 (by decide) ?_
      exact RR.wk (hk38 _ _ _ _ _ _ _ h) (And.intro rfl (And.intro rfl (And.intro rfl (And.intro rfl (And.intro rfl (trivial))))))
    · rw [if_neg c] at h
      refine r_aload_n (i := 0) dX11_weeks_97 rfl rfl ?_
      refine r_getR f_X11_7 dX11_weeks_98 rfl rfl ?_
      refine r_bipush (v := 117) dX11_weeks_101 (by decide) ?_
      refine r_iload dX11_weeks_103 rfl ?_
      refine r_iadd dX11_weeks_105 ?_
      obtain ⟨hb, h⟩ := ck_some h
      refine r_iald rfl (inb_vp hb) dX11_weeks_106 ?_
      refine r_if_le (tgt := 151) dX11_weeks_107 (by decide) (fun c => ?_) (fun c => ?_)
      · rw [if_pos c] at h
        exact RR.wk (ok_X11_weeks_67_b151 hd hk38 ih _ _ _ _ _ h) (And.intro rfl (And.intro rfl (And.intro rfl (And.intro rfl (And.intro rfl (And.intro rfl (trivial)))))))
      · rw [if_neg c] at h
        refine r_aload_n (i := 0) dX11_weeks_110 rfl rfl ?_
        refine r_aload_n (i := 0) dX11_weeks_111 rfl rfl ?_
        refine r_getR f_X11_7 dX11_weeks_112 rfl rfl ?_
        refine r_bipush (v := 111) dX11_weeks_115 (by decide) ?_
        refine r_iload dX11_weeks_117 rfl ?_
        refine r_iadd dX11_weeks_119 ?_
        obtain ⟨hb, h⟩ := ck_some h
        refine r_iald rfl (inb_vp hb) dX11_weeks_120 ?_
        refine r_aload_n (i := 0) dX11_weeks_121 rfl rfl ?_
        refine r_getR f_X11_7 dX11_weeks_122 rfl rfl ?_
        refine r_bipush (v := 99) dX11_weeks_125 (by decide) ?_
        refine r_iload dX11_weeks_127 rfl ?_
        refine r_iadd dX11_weeks_129 ?_
        obtain ⟨hb, h⟩ := ck_some h
        refine r_iald rfl (inb_vp hb) dX11_weeks_130 ?_
        obtain ⟨r9, hr, h⟩ := bind_some h
        refine r_V (d' := 1) k_X11_88 dX11_weeks_131 (by omega) rfl rfl rfl (Nat.le_of_ble_eq_true rfl) (Nat.le_of_ble_eq_true rfl) (ok_X11_weight_67 (Nat.le_refl _) hr) (fun v I' L' hq => ?_)
        obtain ⟨rfl, rfl, rfl⟩ := hq
        simp only [Option.toList_some, Option.toList_none, List.drop_succ_cons, List.drop_zero, List.drop_nil, List.cons_append, List.nil_append]
        refine r_aload_n (i := 0) dX11_weeks_134 rfl rfl ?_
        refine r_getR f_X11_7 dX11_weeks_135 rfl rfl ?_
        refine r_bipush (v := 117) dX11_weeks_138 (by decide) ?_
        refine r_iload dX11_weeks_140 rfl ?_
        refine r_iadd dX11_weeks_142 ?_
        obtain ⟨hb, h⟩ := ck_some h
        refine r_iald rfl (inb_vp hb) dX11_weeks_143 ?_
        refine r_icmp_le (tgt := 151) dX11_weeks_144 (by decide) (fun c => ?_) (fun c => ?_)
        · rw [if_pos c] at h
          exact RR.wk (ok_X11_weeks_67_b151 hd hk38 ih _ _ _ _ _ h) (And.intro rfl (And.intro rfl (And.intro rfl (And.intro rfl (And.intro rfl (And.intro rfl (trivial)))))))
        · rw [if_neg c] at h
          refine r_iconst (v := 1) dX11_weeks_147 (by decide) ?_
          refine r_goto (tgt := 152) dX11_weeks_148 (by decide) ?_
          exact RR.wk (ok_X11_weeks_67_b152 hd hk38 ih _ _ _ _ _ _ h) (And.intro rfl (And.intro rfl (And.intro rfl (And.intro rfl (And.intro rfl (And.intro rfl (trivial)))))))
def f_X11_weeks_67_l57 (k38 : Int32 → Int32 → Int32 → Int32 → mI → mL → rI) : Nat → Int32 → Int32 → Int32 → Int32 → Int32 → mI → mL → rI
  | 0, _, _, _, _, _, _, _ => none
  | n + 1, x1, x2, x3, x4, x5, I, L => if (I 68 (4 : Int32).toNatClampNeg) ≤ x5 then (f_X11_weeks_67_l86 k38 fuel x1 x2 x3 x4 0 I L) else (bndI (f_X11_goes_67 I L x5) (fun r10 Ir10 Lr10 => lt (x3 + r10) (fun v12 => lt (x5 + Int32.ofInt 1) (fun v13 => f_X11_weeks_67_l57 k38 n x1 x2 v12 x4 v13 Ir10 Lr10))))
theorem ok_X11_weeks_67_l57 {d : Nat} (hd : 3 ≤ d) {k38 : Int32 → Int32 → Int32 → Int32 → mI → mL → rI} (hk38 : ∀ (x1 : Int32) (x2 : Int32) (x3 : Int32) (x4 : Int32) (I : mI) (L : mL) (o : Int32 × mI × mL), k38 x1 x2 x3 x4 I L = some o → RR mX11_weeks d 38 [some (.ref 67), some (.int x1), some (.int x2), some (.int x3), some (.int x4), none, none] [] I L (retQ (some (.int o.1)) o.2.1 o.2.2)) : ∀ (n : Nat) (x1 : Int32) (x2 : Int32) (x3 : Int32) (x4 : Int32) (x5 : Int32) (I : mI) (L : mL) (o : Int32 × mI × mL), f_X11_weeks_67_l57 k38 n x1 x2 x3 x4 x5 I L = some o → RR mX11_weeks d 57 [some (.ref 67), some (.int x1), some (.int x2), some (.int x3), some (.int x4), some (.int x5), none] [] I L (retQ (some (.int o.1)) o.2.1 o.2.2) := by
  intro n
  induction n with
  | zero => intro x1 x2 x3 x4 x5 I L o h; rw [f_X11_weeks_67_l57] at h; cases h
  | succ n ih =>
    intro x1 x2 x3 x4 x5 I L o h
    rw [f_X11_weeks_67_l57] at h
    refine r_iload dX11_weeks_57 rfl ?_
    refine r_aload_n (i := 0) dX11_weeks_59 rfl rfl ?_
    refine r_getR f_X11_7 dX11_weeks_60 rfl rfl ?_
    refine r_iconst (v := 4) dX11_weeks_63 (by decide) ?_
    refine r_iald rfl (vp_lit (by decide)) dX11_weeks_64 ?_
    refine r_icmp_ge (tgt := 83) dX11_weeks_65 (by decide) (fun c => ?_) (fun c => ?_)
    · rw [if_pos c] at h
      refine r_iconst (v := 0) dX11_weeks_83 (by decide) ?_
      refine r_istore dX11_weeks_84 (by decide) rfl ?_
      simp only [List.set_cons_zero, List.set_cons_succ]
      exact RR.wk (ok_X11_weeks_67_l86 hd hk38 _ _ _ _ _ _ _ _ _ h) (And.intro rfl (And.intro rfl (And.intro rfl (And.intro rfl (And.intro rfl (And.intro rfl (trivial)))))))
    · rw [if_neg c] at h
      refine r_iload_n (i := 3) dX11_weeks_68 rfl rfl ?_
      refine r_aload_n (i := 0) dX11_weeks_69 rfl rfl ?_
      refine r_iload dX11_weeks_70 rfl ?_
      obtain ⟨⟨r10, Ir10, Lr10⟩, hr, h⟩ := bind_some h
      refine r_V (d' := 2) k_X11_148 dX11_weeks_72 (by omega) rfl rfl rfl (Nat.le_of_ble_eq_true rfl) (Nat.le_of_ble_eq_true rfl) (ok_X11_goes_67 (Nat.le_refl _) hr) (fun v I' L' hq => ?_)
      obtain ⟨rfl, rfl, rfl⟩ := hq
      simp only [Option.toList_some, Option.toList_none, List.drop_succ_cons, List.drop_zero, List.drop_nil, List.cons_append, List.nil_append]
      dsimp only at h
      refine r_iadd dX11_weeks_75 ?_
      refine r_istore_n (i := 3) dX11_weeks_76 rfl (by decide) rfl ?_
      simp only [List.set_cons_zero, List.set_cons_succ]
      replace h := lt_some h
      refine r_iinc (v := _) dX11_weeks_77 rfl rfl (by decide) rfl ?_
      simp only [List.set_cons_zero, List.set_cons_succ]
      replace h := lt_some h
      refine r_goto (tgt := 57) dX11_weeks_80 (by decide) ?_
      exact RR.wk (ih _ _ _ _ _ _ _ _ h) (And.intro rfl (And.intro rfl (And.intro rfl (And.intro rfl (And.intro rfl (And.intro rfl (trivial)))))))
def f_X11_weeks_67_l38 : Nat → Int32 → Int32 → Int32 → Int32 → mI → mL → rI
  | 0, _, _, _, _, _, _ => none
  | n + 1, x1, x2, x3, x4, I, L => if x1 ≤ x4 then (some (x2 + (100 * x3), I, L)) else (lt (uI I 68 (5 : Int32).toNatClampNeg ((I 68 (5 : Int32).toNatClampNeg) + 1)) (fun M2 => f_X11_weeks_67_l57 (f_X11_weeks_67_l38 n) fuel x1 x2 x3 x4 0 M2 L))
theorem ok_X11_weeks_67_l38 {d : Nat} (hd : 3 ≤ d) : ∀ (n : Nat) (x1 : Int32) (x2 : Int32) (x3 : Int32) (x4 : Int32) (I : mI) (L : mL) (o : Int32 × mI × mL), f_X11_weeks_67_l38 n x1 x2 x3 x4 I L = some o → RR mX11_weeks d 38 [some (.ref 67), some (.int x1), some (.int x2), some (.int x3), some (.int x4), none, none] [] I L (retQ (some (.int o.1)) o.2.1 o.2.2) := by
  intro n
  induction n with
  | zero => intro x1 x2 x3 x4 I L o h; rw [f_X11_weeks_67_l38] at h; cases h
  | succ n ih =>
    intro x1 x2 x3 x4 I L o h
    rw [f_X11_weeks_67_l38] at h
    refine r_iload dX11_weeks_38 rfl ?_
    refine r_iload_n (i := 1) dX11_weeks_40 rfl rfl ?_
    refine r_icmp_ge (tgt := 208) dX11_weeks_41 (by decide) (fun c => ?_) (fun c => ?_)
    · rw [if_pos c] at h
      refine r_iload_n (i := 2) dX11_weeks_208 rfl rfl ?_
      refine r_bipush (v := 100) dX11_weeks_209 (by decide) ?_
      refine r_iload_n (i := 3) dX11_weeks_211 rfl rfl ?_
      refine r_imul dX11_weeks_212 ?_
      refine r_iadd dX11_weeks_213 ?_
      refine r_iret (by first | rfl | decide) dX11_weeks_214 ?_
      obtain rfl := Option.some.inj h
      exact ⟨rfl, rfl, rfl⟩
    · rw [if_neg c] at h
      refine r_aload_n (i := 0) dX11_weeks_44 rfl rfl ?_
      refine r_getR f_X11_7 dX11_weeks_45 rfl rfl ?_
      refine r_iconst (v := 5) dX11_weeks_48 (by decide) ?_
      refine r_dup2 dX11_weeks_49 rfl rfl ?_
      refine r_iald rfl (vp_lit (by decide)) dX11_weeks_50 ?_
      refine r_iconst (v := 1) dX11_weeks_51 (by decide) ?_
      refine r_iadd dX11_weeks_52 ?_
      refine r_iast rfl (vp_lit (by decide)) dX11_weeks_53 ?_
      replace h := lt_some h
      refine r_iconst (v := 0) dX11_weeks_54 (by decide) ?_
      refine r_istore dX11_weeks_55 (by decide) rfl ?_
      simp only [List.set_cons_zero, List.set_cons_succ]
      exact RR.wk (ok_X11_weeks_67_l57 hd ih _ _ _ _ _ _ _ _ _ h) (And.intro rfl (And.intro rfl (And.intro rfl (And.intro rfl (And.intro rfl (And.intro rfl (trivial)))))))
def f_X11_weeks_67 (I : mI) (L : mL) (a1 : Int32) : rI := (f_X11_in I L (a1.toInt64) 1 52).bind (fun r1 => if r1 = 0 then (some ((-1), I, L)) else (if ((I 68 (5 : Int32).toNatClampNeg) + a1) ≤ 9999 then (f_X11_weeks_67_l38 fuel a1 0 0 0 I L) else (some ((-3), I, L))))
theorem ok_X11_weeks_67 {d : Nat} (hd : 3 ≤ d) {I : mI} {L : mL} {a1 : Int32} {o : Int32 × mI × mL} (h : f_X11_weeks_67 I L a1 = some o) : RR mX11_weeks d 0 [some (.ref 67), some (.int a1), none, none, none, none, none] [] I L (retQ (some (.int o.1)) o.2.1 o.2.2) := by
  unfold f_X11_weeks_67 at h
  refine r_iload_n (i := 1) dX11_weeks_0 rfl rfl ?_
  refine r_i2l dX11_weeks_1 ?_
  refine r_lconst (v := 1) dX11_weeks_2 (by decide) ?_
  refine r_ldc2 n_X11_146 dX11_weeks_3 ?_
  obtain ⟨r1, hr, h⟩ := bind_some h
  refine r_S (d' := 0) k_X11_50 dX11_weeks_6 (by omega) rfl (Nat.le_of_ble_eq_true rfl) (Nat.le_of_ble_eq_true rfl) (ok_X11_in (Nat.le_refl _) hr) (fun v I' L' hq => ?_)
  obtain ⟨rfl, rfl, rfl⟩ := hq
  simp only [Option.toList_some, Option.toList_none, List.drop_succ_cons, List.drop_zero, List.drop_nil, List.cons_append, List.nil_append]
  refine r_if_ne (tgt := 14) dX11_weeks_9 (by decide) (fun c => ?_) (fun c => ?_)
  · rw [if_neg c] at h
    refine r_aload_n (i := 0) dX11_weeks_14 rfl rfl ?_
    refine r_getR f_X11_7 dX11_weeks_15 rfl rfl ?_
    refine r_iconst (v := 5) dX11_weeks_18 (by decide) ?_
    refine r_iald rfl (vp_lit (by decide)) dX11_weeks_19 ?_
    refine r_iload_n (i := 1) dX11_weeks_20 rfl rfl ?_
    refine r_iadd dX11_weeks_21 ?_
    refine r_sipush (v := 9999) dX11_weeks_22 (by decide) ?_
    refine r_icmp_le (tgt := 31) dX11_weeks_25 (by decide) (fun c => ?_) (fun c => ?_)
    · rw [if_pos c] at h
      refine r_iconst (v := 0) dX11_weeks_31 (by decide) ?_
      refine r_istore_n (i := 2) dX11_weeks_32 rfl (by decide) rfl ?_
      simp only [List.set_cons_zero, List.set_cons_succ]
      refine r_iconst (v := 0) dX11_weeks_33 (by decide) ?_
      refine r_istore_n (i := 3) dX11_weeks_34 rfl (by decide) rfl ?_
      simp only [List.set_cons_zero, List.set_cons_succ]
      refine r_iconst (v := 0) dX11_weeks_35 (by decide) ?_
      refine r_istore dX11_weeks_36 (by decide) rfl ?_
      simp only [List.set_cons_zero, List.set_cons_succ]
      exact RR.wk (ok_X11_weeks_67_l38 hd _ _ _ _ _ _ _ _ h) (And.intro rfl (And.intro rfl (And.intro rfl (And.intro rfl (And.intro rfl (trivial))))))
    · rw [if_neg c] at h
      refine r_bipush (v := (-3)) dX11_weeks_28 (by decide) ?_
      refine r_iret (by first | rfl | decide) dX11_weeks_30 ?_
      obtain rfl := Option.some.inj h
      exact ⟨rfl, rfl, rfl⟩
  · rw [if_pos c] at h
    refine r_iconst (v := (-1)) dX11_weeks_12 (by decide) ?_
    refine r_iret (by first | rfl | decide) dX11_weeks_13 ?_
    obtain rfl := Option.some.inj h
    exact ⟨rfl, rfl, rfl⟩
def f_X11_costOf_67_b43 (I : mI) (L : mL) (x1 : Int32) (x2 : Int32) (x4 : Int32) (x6 : Int32) (s0 : Int32) : Option Int32 := ck (inb (95 + x1) 135) (if s0 = 0 then (ck (inb (76 + x6) 135) ((f_X11_weight_67 I L x4 x2).bind (fun r2 => some ((I 68 (95 + x1).toNatClampNeg) + (((I 68 (76 + x6).toNatClampNeg) * r2) / 10))))) else (some ((I 68 (95 + x1).toNatClampNeg) + 0)))
theorem ok_X11_costOf_67_b43 {d : Nat} (hd : 2 ≤ d){I : mI} {L : mL} (x1 : Int32) (x2 : Int32) (x4 : Int32) (x6 : Int32) (s0 : Int32) {o : Int32} (h : f_X11_costOf_67_b43 I L x1 x2 x4 x6 s0 = some o) : RR mX11_costOf d 43 [some (.ref 67), some (.int x1), some (.int x2), none, some (.int x4), none, some (.int x6), none] [.int s0] I L (retQ (some (.int o)) I L) := by
  unfold f_X11_costOf_67_b43 at h
  refine r_istore dX11_costOf_43 (by decide) rfl ?_
  simp only [List.set_cons_zero, List.set_cons_succ]
  refine r_aload_n (i := 0) dX11_costOf_45 rfl rfl ?_
  refine r_getR f_X11_7 dX11_costOf_46 rfl rfl ?_
  refine r_bipush (v := 95) dX11_costOf_49 (by decide) ?_
  refine r_iload_n (i := 1) dX11_costOf_51 rfl rfl ?_
  refine r_iadd dX11_costOf_52 ?_
  obtain ⟨hb, h⟩ := ck_some h
  refine r_iald rfl (inb_vp hb) dX11_costOf_53 ?_
  refine r_iload dX11_costOf_54 rfl ?_
  refine r_if_eq (tgt := 63) dX11_costOf_56 (by decide) (fun c => ?_) (fun c => ?_)
  · rw [if_pos c] at h
    refine r_aload_n (i := 0) dX11_costOf_63 rfl rfl ?_
    refine r_getR f_X11_7 dX11_costOf_64 rfl rfl ?_
    refine r_bipush (v := 76) dX11_costOf_67 (by decide) ?_
    refine r_iload dX11_costOf_69 rfl ?_
    refine r_iadd dX11_costOf_71 ?_
    obtain ⟨hb, h⟩ := ck_some h
    refine r_iald rfl (inb_vp hb) dX11_costOf_72 ?_
    refine r_aload_n (i := 0) dX11_costOf_73 rfl rfl ?_
    refine r_iload dX11_costOf_74 rfl ?_
    refine r_iload_n (i := 2) dX11_costOf_76 rfl rfl ?_
    obtain ⟨r2, hr, h⟩ := bind_some h
    refine r_V (d' := 1) k_X11_88 dX11_costOf_77 (by omega) rfl rfl rfl (Nat.le_of_ble_eq_true rfl) (Nat.le_of_ble_eq_true rfl) (ok_X11_weight_67 (Nat.le_refl _) hr) (fun v I' L' hq => ?_)
    obtain ⟨rfl, rfl, rfl⟩ := hq
    simp only [Option.toList_some, Option.toList_none, List.drop_succ_cons, List.drop_zero, List.drop_nil, List.cons_append, List.nil_append]
    refine r_imul dX11_costOf_80 ?_
    refine r_bipush (v := 10) dX11_costOf_81 (by decide) ?_
    refine r_idiv dX11_costOf_83 (by decide) ?_
    refine r_iadd dX11_costOf_84 ?_
    refine r_iret (by first | rfl | decide) dX11_costOf_85 ?_
    obtain rfl := Option.some.inj h
    exact ⟨rfl, rfl, rfl⟩
  · rw [if_neg c] at h
    refine r_iconst (v := 0) dX11_costOf_59 (by decide) ?_
    refine r_goto (tgt := 84) dX11_costOf_60 (by decide) ?_
    refine r_iadd dX11_costOf_84 ?_
    refine r_iret (by first | rfl | decide) dX11_costOf_85 ?_
    obtain rfl := Option.some.inj h
    exact ⟨rfl, rfl, rfl⟩
def f_X11_costOf_67_b42 (I : mI) (L : mL) (x1 : Int32) (x2 : Int32) (x4 : Int32) (x6 : Int32) : Option Int32 := f_X11_costOf_67_b43 I L x1 x2 x4 x6 0
theorem ok_X11_costOf_67_b42 {d : Nat} (hd : 2 ≤ d){I : mI} {L : mL} (x1 : Int32) (x2 : Int32) (x4 : Int32) (x6 : Int32) {o : Int32} (h : f_X11_costOf_67_b42 I L x1 x2 x4 x6 = some o) : RR mX11_costOf d 42 [some (.ref 67), some (.int x1), some (.int x2), none, some (.int x4), none, some (.int x6), none] [] I L (retQ (some (.int o)) I L) := by
  unfold f_X11_costOf_67_b42 at h
  refine r_iconst (v := 0) dX11_costOf_42 (by decide) ?_
  exact RR.wk (ok_X11_costOf_67_b43 hd _ _ _ _ _ h) (And.intro rfl (And.intro rfl (And.intro rfl (And.intro rfl (And.intro rfl (trivial))))))
def f_X11_costOf_67 (I : mI) (L : mL) (a1 : Int32) (a2 : Int32) (a3 : Int32) (a4 : Int32) (a5 : Int32) : Option Int32 := (f_X11_roadOf_67 I L a4 a5).bind (fun r1 => if 0 ≤ r1 then (if ((a3 >>> (a4 &&& 31)) &&& 1) = 1 then (if ((a3 >>> (a5 &&& 31)) &&& 1) = 1 then (f_X11_costOf_67_b43 I L a1 a2 a4 r1 1) else (f_X11_costOf_67_b42 I L a1 a2 a4 r1)) else (f_X11_costOf_67_b42 I L a1 a2 a4 r1)) else (some 100000000))
theorem ok_X11_costOf_67 {d : Nat} (hd : 2 ≤ d) {I : mI} {L : mL} {a1 : Int32} {a2 : Int32} {a3 : Int32} {a4 : Int32} {a5 : Int32} {o : Int32} (h : f_X11_costOf_67 I L a1 a2 a3 a4 a5 = some o) : RR mX11_costOf d 0 [some (.ref 67), some (.int a1), some (.int a2), some (.int a3), some (.int a4), some (.int a5), none, none] [] I L (retQ (some (.int o)) I L) := by
  unfold f_X11_costOf_67 at h
  refine r_aload_n (i := 0) dX11_costOf_0 rfl rfl ?_
  refine r_iload dX11_costOf_1 rfl ?_
  refine r_iload dX11_costOf_3 rfl ?_
  obtain ⟨r1, hr, h⟩ := bind_some h
  refine r_V (d' := 0) k_X11_74 dX11_costOf_5 (by omega) rfl rfl rfl (Nat.le_of_ble_eq_true rfl) (Nat.le_of_ble_eq_true rfl) (ok_X11_roadOf_67 (Nat.le_refl _) hr) (fun v I' L' hq => ?_)
  obtain ⟨rfl, rfl, rfl⟩ := hq
  simp only [Option.toList_some, Option.toList_none, List.drop_succ_cons, List.drop_zero, List.drop_nil, List.cons_append, List.nil_append]
  refine r_istore dX11_costOf_8 (by decide) rfl ?_
  simp only [List.set_cons_zero, List.set_cons_succ]
  refine r_iload dX11_costOf_10 rfl ?_
  refine r_if_ge (tgt := 18) dX11_costOf_12 (by decide) (fun c => ?_) (fun c => ?_)
  · rw [if_pos c] at h
    refine r_iload_n (i := 3) dX11_costOf_18 rfl rfl ?_
    refine r_iload dX11_costOf_19 rfl ?_
    refine r_ishr dX11_costOf_21 ?_
    refine r_iconst (v := 1) dX11_costOf_22 (by decide) ?_
    refine r_iand dX11_costOf_23 ?_
    refine r_iconst (v := 1) dX11_costOf_24 (by decide) ?_
    refine r_icmp_ne (tgt := 42) dX11_costOf_25 (by decide) (fun c => ?_) (fun c => ?_)
    · rw [if_neg c] at h
      exact RR.wk (ok_X11_costOf_67_b42 hd _ _ _ _ h) (And.intro rfl (And.intro rfl (And.intro rfl (And.intro rfl (And.intro rfl (trivial))))))
    · rw [if_pos c] at h
      refine r_iload_n (i := 3) dX11_costOf_28 rfl rfl ?_
      refine r_iload dX11_costOf_29 rfl ?_
      refine r_ishr dX11_costOf_31 ?_
      refine r_iconst (v := 1) dX11_costOf_32 (by decide) ?_
      refine r_iand dX11_costOf_33 ?_
      refine r_iconst (v := 1) dX11_costOf_34 (by decide) ?_
      refine r_icmp_ne (tgt := 42) dX11_costOf_35 (by decide) (fun c => ?_) (fun c => ?_)
      · rw [if_neg c] at h
        exact RR.wk (ok_X11_costOf_67_b42 hd _ _ _ _ h) (And.intro rfl (And.intro rfl (And.intro rfl (And.intro rfl (And.intro rfl (trivial))))))
      · rw [if_pos c] at h
        refine r_iconst (v := 1) dX11_costOf_38 (by decide) ?_
        refine r_goto (tgt := 43) dX11_costOf_39 (by decide) ?_
        exact RR.wk (ok_X11_costOf_67_b43 hd _ _ _ _ _ h) (And.intro rfl (And.intro rfl (And.intro rfl (And.intro rfl (And.intro rfl (trivial))))))
  · rw [if_neg c] at h
    refine r_ldc n_X11_151 dX11_costOf_15 ?_
    refine r_iret (by first | rfl | decide) dX11_costOf_17 ?_
    obtain rfl := Option.some.inj h
    exact ⟨rfl, rfl, rfl⟩
def f_X11_bears_67 (I : mI) (L : mL) (a1 : Int32) (a2 : Int32) (a3 : Int32) : Option Int32 := (f_X11_weight_67 I L a3 a2).bind (fun r1 => ck (inb (91 + a1) 135) (if (I 68 (91 + a1).toNatClampNeg) < r1 then (some 0) else (some 1)))
theorem ok_X11_bears_67 {d : Nat} (hd : 2 ≤ d) {I : mI} {L : mL} {a1 : Int32} {a2 : Int32} {a3 : Int32} {o : Int32} (h : f_X11_bears_67 I L a1 a2 a3 = some o) : RR mX11_bears d 0 [some (.ref 67), some (.int a1), some (.int a2), some (.int a3)] [] I L (retQ (some (.int o)) I L) := by
  unfold f_X11_bears_67 at h
  refine r_aload_n (i := 0) dX11_bears_0 rfl rfl ?_
  refine r_iload_n (i := 3) dX11_bears_1 rfl rfl ?_
  refine r_iload_n (i := 2) dX11_bears_2 rfl rfl ?_
  obtain ⟨r1, hr, h⟩ := bind_some h
  refine r_V (d' := 1) k_X11_88 dX11_bears_3 (by omega) rfl rfl rfl (Nat.le_of_ble_eq_true rfl) (Nat.le_of_ble_eq_true rfl) (ok_X11_weight_67 (Nat.le_refl _) hr) (fun v I' L' hq => ?_)
  obtain ⟨rfl, rfl, rfl⟩ := hq
  simp only [Option.toList_some, Option.toList_none, List.drop_succ_cons, List.drop_zero, List.drop_nil, List.cons_append, List.nil_append]
  refine r_aload_n (i := 0) dX11_bears_6 rfl rfl ?_
  refine r_getR f_X11_7 dX11_bears_7 rfl rfl ?_
  refine r_bipush (v := 91) dX11_bears_10 (by decide) ?_
  refine r_iload_n (i := 1) dX11_bears_12 rfl rfl ?_
  refine r_iadd dX11_bears_13 ?_
  obtain ⟨hb, h⟩ := ck_some h
  refine r_iald rfl (inb_vp hb) dX11_bears_14 ?_
  refine r_icmp_gt (tgt := 22) dX11_bears_15 (by decide) (fun c => ?_) (fun c => ?_)
  · rw [if_pos c] at h
    refine r_iconst (v := 0) dX11_bears_22 (by decide) ?_
    refine r_iret (by first | rfl | decide) dX11_bears_23 ?_
    obtain rfl := Option.some.inj h
    exact ⟨rfl, rfl, rfl⟩
  · rw [if_neg c] at h
    refine r_iconst (v := 1) dX11_bears_18 (by decide) ?_
    refine r_goto (tgt := 23) dX11_bears_19 (by decide) ?_
    refine r_iret (by first | rfl | decide) dX11_bears_23 ?_
    obtain rfl := Option.some.inj h
    exact ⟨rfl, rfl, rfl⟩
