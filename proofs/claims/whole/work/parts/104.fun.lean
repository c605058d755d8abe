def f_X4_addTotal_63 (I : mI) (L : mL) (a1 : Int32) (a2 : Int32) : rV := lt (uI I 48 11 a2) (fun M1 => ck (inb a1 6) (ck (inb a1 6) (bndI (f_X5_bestPlace_48 M1 L (M1 12 a1.toNatClampNeg) (M1 11 a1.toNatClampNeg)) (fun r2 Ir2 Lr2 => if r2 < 0 then (some (Ir2, Lr2)) else (ck (inb a2 256) (ck (inb a2 256) (lt (uI Ir2 64 a2.toNatClampNeg ((Ir2 64 a2.toNatClampNeg) + (Ir2 48 13))) (fun M4 => some (M4, Lr2)))))))))
theorem ok_X4_addTotal_63 {d : Nat} (hd : 3 ≤ d) {I : mI} {L : mL} {a1 : Int32} {a2 : Int32} {o : mI × mL} (h : f_X4_addTotal_63 I L a1 a2 = some o) : RR mX4_addTotal d 0 [some (.ref 63), some (.int a1), some (.int a2)] [] I L (retQ none o.1 o.2) := by
  unfold f_X4_addTotal_63 at h
  refine r_aload_n (i := 0) dX4_addTotal_0 rfl rfl ?_
  refine r_getR f_X4_19 dX4_addTotal_1 rfl rfl ?_
  refine r_iload_n (i := 2) dX4_addTotal_4 rfl rfl ?_
  refine r_putI f_X4_75 rfl rfl dX4_addTotal_5 rfl rfl ?_
  replace h := lt_some h
  refine r_aload_n (i := 0) dX4_addTotal_8 rfl rfl ?_
  refine r_getR f_X4_19 dX4_addTotal_9 rfl rfl ?_
  refine r_aload_n (i := 0) dX4_addTotal_12 rfl rfl ?_
  refine r_getR f_X4_15 dX4_addTotal_13 rfl rfl ?_
  refine r_getR f_X4_78 dX4_addTotal_16 rfl rfl ?_
  refine r_iload_n (i := 1) dX4_addTotal_19 rfl rfl ?_
  obtain ⟨hb, h⟩ := ck_some h
  refine r_iald rfl (inb_vp hb) dX4_addTotal_20 ?_
  refine r_aload_n (i := 0) dX4_addTotal_21 rfl rfl ?_
  refine r_getR f_X4_15 dX4_addTotal_22 rfl rfl ?_
  refine r_getR f_X4_81 dX4_addTotal_25 rfl rfl ?_
  refine r_iload_n (i := 1) dX4_addTotal_28 rfl rfl ?_
  obtain ⟨hb, h⟩ := ck_some h
  refine r_iald rfl (inb_vp hb) dX4_addTotal_29 ?_
  obtain ⟨⟨r2, Ir2, Lr2⟩, hr, h⟩ := bind_some h
  refine r_V (d' := 2) k_X4_84 dX4_addTotal_30 (by omega) rfl rfl rfl (Nat.le_of_ble_eq_true rfl) (Nat.le_of_ble_eq_true rfl) (ok_X5_bestPlace_48 (Nat.le_refl _) hr) (fun v I' L' hq => ?_)
  obtain ⟨rfl, rfl, rfl⟩ := hq
  simp only [Option.toList_some, Option.toList_none, List.drop_succ_cons, List.drop_zero, List.drop_nil, List.cons_append, List.nil_append]
  dsimp only at h
  refine r_if_lt (tgt := 52) dX4_addTotal_33 (by decide) (fun c => ?_) (fun c => ?_)
  · rw [if_pos c] at h
    refine r_vret dX4_addTotal_52 ?_
    obtain rfl := Option.some.inj h
    exact ⟨rfl, rfl, rfl⟩
  · rw [if_neg c] at h
    refine r_aload_n (i := 0) dX4_addTotal_36 rfl rfl ?_
    refine r_getR f_X4_9 dX4_addTotal_37 rfl rfl ?_
    refine r_iload_n (i := 2) dX4_addTotal_40 rfl rfl ?_
    refine r_dup2 dX4_addTotal_41 rfl rfl ?_
    obtain ⟨hb, h⟩ := ck_some h
    refine r_iald rfl (inb_vp hb) dX4_addTotal_42 ?_
    refine r_aload_n (i := 0) dX4_addTotal_43 rfl rfl ?_
    refine r_getR f_X4_19 dX4_addTotal_44 rfl rfl ?_
    refine r_getI f_X4_88 dX4_addTotal_47 rfl rfl ?_
    refine r_iadd dX4_addTotal_50 ?_
    obtain ⟨hb, h⟩ := ck_some h
    refine r_iast rfl (inb_vp hb) dX4_addTotal_51 ?_
    replace h := lt_some h
    refine r_vret dX4_addTotal_52 ?_
    obtain rfl := Option.some.inj h
    exact ⟨rfl, rfl, rfl⟩
def f_X4_worth_63_l24 : Nat → Int32 → Int32 → mI → mL → rI
  | 0, _, _, _, _ => none
  | n + 1, x1, x3, I, L => if (I 1 10) ≤ x3 then (ck (inb x1 256) (some ((I 64 x1.toNatClampNeg) - (I 64 (0 : Int32).toNatClampNeg), I, L))) else (ck (inb x3 6) (bndV (f_X5_weigh_48 I L (I 10 x3.toNatClampNeg)) (fun Ir5 Lr5 => bndV (f_X4_addTotal_63 Ir5 Lr5 x3 0) (fun Ir7 Lr7 => if x1 = 0 then (lt (x3 + Int32.ofInt 1) (fun v9 => f_X4_worth_63_l24 n x1 v9 Ir7 Lr7)) else (bndV (f_X4_addTotal_63 Ir7 Lr7 x3 x1) (fun Ir10 Lr10 => lt (x3 + Int32.ofInt 1) (fun v12 => f_X4_worth_63_l24 n x1 v12 Ir10 Lr10)))))))
theorem ok_X4_worth_63_l24 {d : Nat} (hd : 4 ≤ d) : ∀ (n : Nat) (x1 : Int32) (x3 : Int32) (I : mI) (L : mL) (o : Int32 × mI × mL), f_X4_worth_63_l24 n x1 x3 I L = some o → RR mX4_worth d 24 [some (.ref 63), some (.int x1), none, some (.int x3)] [] I L (retQ (some (.int o.1)) o.2.1 o.2.2) := by
  intro n
  induction n with
  | zero => intro x1 x3 I L o h; rw [f_X4_worth_63_l24] at h; cases h
  | succ n ih =>
    intro x1 x3 I L o h
    rw [f_X4_worth_63_l24] at h
    refine r_iload_n (i := 3) dX4_worth_24 rfl rfl ?_
    refine r_aload_n (i := 0) dX4_worth_25 rfl rfl ?_
    refine r_getR f_X4_15 dX4_worth_26 rfl rfl ?_
    refine r_getI f_X4_29 dX4_worth_29 rfl rfl ?_
    refine r_icmp_ge (tgt := 73) dX4_worth_32 (by decide) (fun c => ?_) (fun c => ?_)
    · rw [if_pos c] at h
      refine r_aload_n (i := 0) dX4_worth_73 rfl rfl ?_
      refine r_getR f_X4_9 dX4_worth_74 rfl rfl ?_
      refine r_iload_n (i := 1) dX4_worth_77 rfl rfl ?_
      obtain ⟨hb, h⟩ := ck_some h
      refine r_iald rfl (inb_vp hb) dX4_worth_78 ?_
      refine r_aload_n (i := 0) dX4_worth_79 rfl rfl ?_
      refine r_getR f_X4_9 dX4_worth_80 rfl rfl ?_
      refine r_iconst (v := 0) dX4_worth_83 (by decide) ?_
      refine r_iald rfl (vp_lit (by decide)) dX4_worth_84 ?_
      refine r_isub dX4_worth_85 ?_
      refine r_iret (by first | rfl | decide) dX4_worth_86 ?_
      obtain rfl := Option.some.inj h
      exact ⟨rfl, rfl, rfl⟩
    · rw [if_neg c] at h
      refine r_aload_n (i := 0) dX4_worth_35 rfl rfl ?_
      refine r_getR f_X4_19 dX4_worth_36 rfl rfl ?_
      refine r_aload_n (i := 0) dX4_worth_39 rfl rfl ?_
      refine r_getR f_X4_15 dX4_worth_40 rfl rfl ?_
      refine r_getR f_X4_35 dX4_worth_43 rfl rfl ?_
      refine r_iload_n (i := 3) dX4_worth_46 rfl rfl ?_
      obtain ⟨hb, h⟩ := ck_some h
      refine r_iald rfl (inb_vp hb) dX4_worth_47 ?_
      obtain ⟨⟨Ir5, Lr5⟩, hr, h⟩ := bind_some h
      refine r_V (d' := 3) k_X4_38 dX4_worth_48 (by omega) rfl rfl rfl (Nat.le_of_ble_eq_true rfl) (Nat.le_of_ble_eq_true rfl) (ok_X5_weigh_48 (Nat.le_refl _) hr) (fun v I' L' hq => ?_)
      obtain ⟨rfl, rfl, rfl⟩ := hq
      simp only [Option.toList_some, Option.toList_none, List.drop_succ_cons, List.drop_zero, List.drop_nil, List.cons_append, List.nil_append]
      dsimp only at h
      refine r_aload_n (i := 0) dX4_worth_51 rfl rfl ?_
      refine r_iload_n (i := 3) dX4_worth_52 rfl rfl ?_
      refine r_iconst (v := 0) dX4_worth_53 (by decide) ?_
      obtain ⟨⟨Ir7, Lr7⟩, hr, h⟩ := bind_some h
      refine r_V (d' := 3) k_X4_41 dX4_worth_54 (by omega) rfl rfl rfl (Nat.le_of_ble_eq_true rfl) (Nat.le_of_ble_eq_true rfl) (ok_X4_addTotal_63 (Nat.le_refl _) hr) (fun v I' L' hq => ?_)
      obtain ⟨rfl, rfl, rfl⟩ := hq
      simp only [Option.toList_some, Option.toList_none, List.drop_succ_cons, List.drop_zero, List.drop_nil, List.cons_append, List.nil_append]
      dsimp only at h
      refine r_iload_n (i := 1) dX4_worth_57 rfl rfl ?_
      refine r_if_eq (tgt := 67) dX4_worth_58 (by decide) (fun c => ?_) (fun c => ?_)
      · rw [if_pos c] at h
        refine r_iinc (v := _) dX4_worth_67 rfl rfl (by decide) rfl ?_
        simp only [List.set_cons_zero, List.set_cons_succ]
        replace h := lt_some h
        refine r_goto (tgt := 24) dX4_worth_70 (by decide) ?_
        exact RR.wk (ih _ _ _ _ _ h) (And.intro rfl (And.intro rfl (And.intro rfl (trivial))))
      · rw [if_neg c] at h
        refine r_aload_n (i := 0) dX4_worth_61 rfl rfl ?_
        refine r_iload_n (i := 3) dX4_worth_62 rfl rfl ?_
        refine r_iload_n (i := 1) dX4_worth_63 rfl rfl ?_
        obtain ⟨⟨Ir10, Lr10⟩, hr, h⟩ := bind_some h
        refine r_V (d' := 3) k_X4_41 dX4_worth_64 (by omega) rfl rfl rfl (Nat.le_of_ble_eq_true rfl) (Nat.le_of_ble_eq_true rfl) (ok_X4_addTotal_63 (Nat.le_refl _) hr) (fun v I' L' hq => ?_)
        obtain ⟨rfl, rfl, rfl⟩ := hq
        simp only [Option.toList_some, Option.toList_none, List.drop_succ_cons, List.drop_zero, List.drop_nil, List.cons_append, List.nil_append]
        dsimp only at h
        refine r_iinc (v := _) dX4_worth_67 rfl rfl (by decide) rfl ?_
        simp only [List.set_cons_zero, List.set_cons_succ]
        replace h := lt_some h
        refine r_goto (tgt := 24) dX4_worth_70 (by decide) ?_
        exact RR.wk (ih _ _ _ _ _ h) (And.intro rfl (And.intro rfl (And.intro rfl (trivial))))
def f_X4_worth_63 (I : mI) (L : mL) (a1 : Int32) (a2 : Int32) : rI := lt (uI I 64 (0 : Int32).toNatClampNeg 0) (fun M1 => ck (inb a1 256) (lt (uI M1 64 a1.toNatClampNeg 0) (fun M2 => bndV (f_X5_harness_48 M2 L a2) (fun Ir3 Lr3 => f_X4_worth_63_l24 fuel a1 0 Ir3 Lr3))))
theorem ok_X4_worth_63 {d : Nat} (hd : 4 ≤ d) {I : mI} {L : mL} {a1 : Int32} {a2 : Int32} {o : Int32 × mI × mL} (h : f_X4_worth_63 I L a1 a2 = some o) : RR mX4_worth d 0 [some (.ref 63), some (.int a1), some (.int a2), none] [] I L (retQ (some (.int o.1)) o.2.1 o.2.2) := by
  unfold f_X4_worth_63 at h
  refine r_aload_n (i := 0) dX4_worth_0 rfl rfl ?_
  refine r_getR f_X4_9 dX4_worth_1 rfl rfl ?_
  refine r_iconst (v := 0) dX4_worth_4 (by decide) ?_
  refine r_iconst (v := 0) dX4_worth_5 (by decide) ?_
  refine r_iast rfl (vp_lit (by decide)) dX4_worth_6 ?_
  replace h := lt_some h
  refine r_aload_n (i := 0) dX4_worth_7 rfl rfl ?_
  refine r_getR f_X4_9 dX4_worth_8 rfl rfl ?_
  refine r_iload_n (i := 1) dX4_worth_11 rfl rfl ?_
  refine r_iconst (v := 0) dX4_worth_12 (by decide) ?_
  obtain ⟨hb, h⟩ := ck_some h
  refine r_iast rfl (inb_vp hb) dX4_worth_13 ?_
  replace h := lt_some h
  refine r_aload_n (i := 0) dX4_worth_14 rfl rfl ?_
  refine r_getR f_X4_19 dX4_worth_15 rfl rfl ?_
  refine r_iload_n (i := 2) dX4_worth_18 rfl rfl ?_
  obtain ⟨⟨Ir3, Lr3⟩, hr, h⟩ := bind_some h
  refine r_V (d' := 1) k_X4_23 dX4_worth_19 (by omega) rfl rfl rfl (Nat.le_of_ble_eq_true rfl) (Nat.le_of_ble_eq_true rfl) (ok_X5_harness_48 (Nat.le_refl _) hr) (fun v I' L' hq => ?_)
  obtain ⟨rfl, rfl, rfl⟩ := hq
  simp only [Option.toList_some, Option.toList_none, List.drop_succ_cons, List.drop_zero, List.drop_nil, List.cons_append, List.nil_append]
  dsimp only at h
  refine r_iconst (v := 0) dX4_worth_22 (by decide) ?_
  refine r_istore_n (i := 3) dX4_worth_23 rfl (by decide) rfl ?_
  simp only [List.set_cons_zero, List.set_cons_succ]
  exact RR.wk (ok_X4_worth_63_l24 hd _ _ _ _ _ _ h) (And.intro rfl (And.intro rfl (And.intro rfl (trivial))))
def f_X10_league_0 (I : mI) (L : mL) (a1 : Int32) (a2 : Int32) : rI := (f_X3_hasSet_2 I L a1).bind (fun r1 => if r1 = 0 then (some ((-1000001), I, L)) else ((f_X7_hasCart_1 I L a2).bind (fun r2 => if r2 = 0 then (some ((-1000001), I, L)) else (bndI (f_X4_worth_63 I L a1 a2) (fun r3 Ir3 Lr3 => some (r3, Ir3, Lr3))))))
theorem ok_X10_league_0 {d : Nat} (hd : 5 ≤ d) {I : mI} {L : mL} {a1 : Int32} {a2 : Int32} {o : Int32 × mI × mL} (h : f_X10_league_0 I L a1 a2 = some o) : RR mX10_league d 0 [some (.ref 0), some (.int a1), some (.int a2)] [] I L (retQ (some (.int o.1)) o.2.1 o.2.2) := by
  unfold f_X10_league_0 at h
  refine r_aload_n (i := 0) dX10_league_0 rfl rfl ?_
  refine r_getR f_X10_10 dX10_league_1 rfl rfl ?_
  refine r_getR f_X10_76 dX10_league_4 rfl rfl ?_
  refine r_iload_n (i := 1) dX10_league_7 rfl rfl ?_
  obtain ⟨r1, hr, h⟩ := bind_some h
  refine r_V (d' := 0) k_X10_275 dX10_league_8 (by omega) rfl rfl rfl (Nat.le_of_ble_eq_true rfl) (Nat.le_of_ble_eq_true rfl) (ok_X3_hasSet_2 (Nat.le_refl _) hr) (fun v I' L' hq => ?_)
  obtain ⟨rfl, rfl, rfl⟩ := hq
  simp only [Option.toList_some, Option.toList_none, List.drop_succ_cons, List.drop_zero, List.drop_nil, List.cons_append, List.nil_append]
  refine r_if_eq (tgt := 25) dX10_league_11 (by decide) (fun c => ?_) (fun c => ?_)
  · rw [if_pos c] at h
    refine r_ldc n_X10_232 dX10_league_25 ?_
    refine r_iret (by first | rfl | decide) dX10_league_27 ?_
    obtain rfl := Option.some.inj h
    exact ⟨rfl, rfl, rfl⟩
  · rw [if_neg c] at h
    refine r_aload_n (i := 0) dX10_league_14 rfl rfl ?_
    refine r_getR f_X10_10 dX10_league_15 rfl rfl ?_
    refine r_iload_n (i := 2) dX10_league_18 rfl rfl ?_
    obtain ⟨r2, hr, h⟩ := bind_some h
    refine r_V (d' := 0) k_X10_210 dX10_league_19 (by omega) rfl rfl rfl (Nat.le_of_ble_eq_true rfl) (Nat.le_of_ble_eq_true rfl) (ok_X7_hasCart_1 (Nat.le_refl _) hr) (fun v I' L' hq => ?_)
    obtain ⟨rfl, rfl, rfl⟩ := hq
    simp only [Option.toList_some, Option.toList_none, List.drop_succ_cons, List.drop_zero, List.drop_nil, List.cons_append, List.nil_append]
    refine r_if_ne (tgt := 28) dX10_league_22 (by decide) (fun c => ?_) (fun c => ?_)
    · rw [if_neg c] at h
      refine r_aload_n (i := 0) dX10_league_28 rfl rfl ?_
      refine r_getR f_X10_61 dX10_league_29 rfl rfl ?_
      refine r_iload_n (i := 1) dX10_league_32 rfl rfl ?_
      refine r_iload_n (i := 2) dX10_league_33 rfl rfl ?_
      obtain ⟨⟨r3, Ir3, Lr3⟩, hr, h⟩ := bind_some h
      refine r_V (d' := 4) k_X10_278 dX10_league_34 (by omega) rfl rfl rfl (Nat.le_of_ble_eq_true rfl) (Nat.le_of_ble_eq_true rfl) (ok_X4_worth_63 (Nat.le_refl _) hr) (fun v I' L' hq => ?_)
      obtain ⟨rfl, rfl, rfl⟩ := hq
      simp only [Option.toList_some, Option.toList_none, List.drop_succ_cons, List.drop_zero, List.drop_nil, List.cons_append, List.nil_append]
      dsimp only at h
      refine r_iret (by first | rfl | decide) dX10_league_37 ?_
      obtain rfl := Option.some.inj h
      exact ⟨rfl, rfl, rfl⟩
    · rw [if_pos c] at h
      refine r_ldc n_X10_232 dX10_league_25 ?_
      refine r_iret (by first | rfl | decide) dX10_league_27 ?_
      obtain rfl := Option.some.inj h
      exact ⟨rfl, rfl, rfl⟩
def f_X10_isMember_0 (I : mI) (L : mL) (a1 : Int32) (a2 : Int32) : Option Int32 := (f_X3_hasSet_2 I L a2).bind (fun r1 => if r1 = 0 then (some 0) else ((f_X3_hasParish_2 I L a1).bind (fun r2 => if r2 = 0 then (some 0) else (if ((a2 >>> (a1 &&& 31)) &&& 1) = 0 then (some 0) else (some 1)))))
theorem ok_X10_isMember_0 {d : Nat} (hd : 1 ≤ d) {I : mI} {L : mL} {a1 : Int32} {a2 : Int32} {o : Int32} (h : f_X10_isMember_0 I L a1 a2 = some o) : RR mX10_isMember d 0 [some (.ref 0), some (.int a1), some (.int a2)] [] I L (retQ (some (.int o)) I L) := by
  unfold f_X10_isMember_0 at h
  refine r_aload_n (i := 0) dX10_isMember_0 rfl rfl ?_
  refine r_getR f_X10_10 dX10_isMember_1 rfl rfl ?_
  refine r_getR f_X10_76 dX10_isMember_4 rfl rfl ?_
  refine r_iload_n (i := 2) dX10_isMember_7 rfl rfl ?_
  obtain ⟨r1, hr, h⟩ := bind_some h
  refine r_V (d' := 0) k_X10_275 dX10_isMember_8 (by omega) rfl rfl rfl (Nat.le_of_ble_eq_true rfl) (Nat.le_of_ble_eq_true rfl) (ok_X3_hasSet_2 (Nat.le_refl _) hr) (fun v I' L' hq => ?_)
  obtain ⟨rfl, rfl, rfl⟩ := hq
  simp only [Option.toList_some, Option.toList_none, List.drop_succ_cons, List.drop_zero, List.drop_nil, List.cons_append, List.nil_append]
  refine r_if_eq (tgt := 40) dX10_isMember_11 (by decide) (fun c => ?_) (fun c => ?_)
  · rw [if_pos c] at h
    refine r_iconst (v := 0) dX10_isMember_40 (by decide) ?_
    refine r_iret (by first | rfl | decide) dX10_isMember_41 ?_
    obtain rfl := Option.some.inj h
    exact ⟨rfl, rfl, rfl⟩
  · rw [if_neg c] at h
    refine r_aload_n (i := 0) dX10_isMember_14 rfl rfl ?_
    refine r_getR f_X10_10 dX10_isMember_15 rfl rfl ?_
    refine r_getR f_X10_76 dX10_isMember_18 rfl rfl ?_
    refine r_iload_n (i := 1) dX10_isMember_21 rfl rfl ?_
    obtain ⟨r2, hr, h⟩ := bind_some h
    refine r_V (d' := 0) k_X10_90 dX10_isMember_22 (by omega) rfl rfl rfl (Nat.le_of_ble_eq_true rfl) (Nat.le_of_ble_eq_true rfl) (ok_X3_hasParish_2 (Nat.le_refl _) hr) (fun v I' L' hq => ?_)
    obtain ⟨rfl, rfl, rfl⟩ := hq
    simp only [Option.toList_some, Option.toList_none, List.drop_succ_cons, List.drop_zero, List.drop_nil, List.cons_append, List.nil_append]
    refine r_if_eq (tgt := 40) dX10_isMember_25 (by decide) (fun c => ?_) (fun c => ?_)
    · rw [if_pos c] at h
      refine r_iconst (v := 0) dX10_isMember_40 (by decide) ?_
      refine r_iret (by first | rfl | decide) dX10_isMember_41 ?_
      obtain rfl := Option.some.inj h
      exact ⟨rfl, rfl, rfl⟩
    · rw [if_neg c] at h
      refine r_iload_n (i := 2) dX10_isMember_28 rfl rfl ?_
      refine r_iload_n (i := 1) dX10_isMember_29 rfl rfl ?_
      refine r_ishr dX10_isMember_30 ?_
      refine r_iconst (v := 1) dX10_isMember_31 (by decide) ?_
      refine r_iand dX10_isMember_32 ?_
      refine r_if_eq (tgt := 40) dX10_isMember_33 (by decide) (fun c => ?_) (fun c => ?_)
      · rw [if_pos c] at h
        refine r_iconst (v := 0) dX10_isMember_40 (by decide) ?_
        refine r_iret (by first | rfl | decide) dX10_isMember_41 ?_
        obtain rfl := Option.some.inj h
        exact ⟨rfl, rfl, rfl⟩
      · rw [if_neg c] at h
        refine r_iconst (v := 1) dX10_isMember_36 (by decide) ?_
        refine r_goto (tgt := 41) dX10_isMember_37 (by decide) ?_
        refine r_iret (by first | rfl | decide) dX10_isMember_41 ?_
        obtain rfl := Option.some.inj h
        exact ⟨rfl, rfl, rfl⟩
def f_J7_fill_53178_64_l5 : Nat → Int32 → Int32 → Int32 → mI → mL → rV
  | 0, _, _, _, _, _ => none
  | n + 1, x1, x2, x3, I, L => if x3 ≤ x2 then (some (I, L)) else (ck (inb x2 256) (lt (uI I 64 x2.toNatClampNeg x1) (fun M1 => lt (x2 + Int32.ofInt 1) (fun v2 => f_J7_fill_53178_64_l5 n x1 v2 x3 M1 L))))
theorem ok_J7_fill_53178_64_l5 {d : Nat} (hd : 0 ≤ d) : ∀ (n : Nat) (x1 : Int32) (x2 : Int32) (x3 : Int32) (I : mI) (L : mL) (o : mI × mL), f_J7_fill_53178_64_l5 n x1 x2 x3 I L = some o → RR mJ7_fill_53178 d 5 [some (.ref 64), some (.int x1), some (.int x2), some (.int x3)] [] I L (retQ none o.1 o.2) := by
  intro n
  induction n with
  | zero => intro x1 x2 x3 I L o h; rw [f_J7_fill_53178_64_l5] at h; cases h
  | succ n ih =>
    intro x1 x2 x3 I L o h
    rw [f_J7_fill_53178_64_l5] at h
    refine r_iload_n (i := 2) dJ7_fill_53178_5 rfl rfl ?_
    refine r_iload_n (i := 3) dJ7_fill_53178_6 rfl rfl ?_
    refine r_icmp_ge (tgt := 20) dJ7_fill_53178_7 (by decide) (fun c => ?_) (fun c => ?_)
    · rw [if_pos c] at h
      refine r_vret dJ7_fill_53178_20 ?_
      obtain rfl := Option.some.inj h
      exact ⟨rfl, rfl, rfl⟩
    · rw [if_neg c] at h
      refine r_aload_n (i := 0) dJ7_fill_53178_10 rfl rfl ?_
      refine r_iload_n (i := 2) dJ7_fill_53178_11 rfl rfl ?_
      refine r_iload_n (i := 1) dJ7_fill_53178_12 rfl rfl ?_
      obtain ⟨hb, h⟩ := ck_some h
      refine r_iast rfl (inb_vp hb) dJ7_fill_53178_13 ?_
      replace h := lt_some h
      refine r_iinc (v := _) dJ7_fill_53178_14 rfl rfl (by decide) rfl ?_
      simp only [List.set_cons_zero, List.set_cons_succ]
      replace h := lt_some h
      refine r_goto (tgt := 5) dJ7_fill_53178_17 (by decide) ?_
      exact RR.wk (ih _ _ _ _ _ _ h) (And.intro rfl (And.intro rfl (And.intro rfl (And.intro rfl (trivial)))))
def f_J7_fill_53178_64 (I : mI) (L : mL) (a1 : Int32) : rV := f_J7_fill_53178_64_l5 fuel a1 0 256 I L
theorem ok_J7_fill_53178_64 {d : Nat} (hd : 0 ≤ d) {I : mI} {L : mL} {a1 : Int32} {o : mI × mL} (h : f_J7_fill_53178_64 I L a1 = some o) : RR mJ7_fill_53178 d 0 [some (.ref 64), some (.int a1), none, none] [] I L (retQ none o.1 o.2) := by
  unfold f_J7_fill_53178_64 at h
  refine r_iconst (v := 0) dJ7_fill_53178_0 (by decide) ?_
  refine r_istore_n (i := 2) dJ7_fill_53178_1 rfl (by decide) rfl ?_
  simp only [List.set_cons_zero, List.set_cons_succ]
  refine r_aload_n (i := 0) dJ7_fill_53178_2 rfl rfl ?_
  refine r_alenI (v := 256) rfl (by decide) dJ7_fill_53178_3 ?_
  refine r_istore_n (i := 3) dJ7_fill_53178_4 rfl (by decide) rfl ?_
  simp only [List.set_cons_zero, List.set_cons_succ]
  exact RR.wk (ok_J7_fill_53178_64_l5 hd _ _ _ _ _ _ _ h) (And.intro rfl (And.intro rfl (And.intro rfl (And.intro rfl (trivial)))))
def f_X4_findTotals_63_l48 (k18 : Int32 → Int32 → mI → mL → rV) : Nat → Int32 → Int32 → Int32 → mI → mL → rV
  | 0, _, _, _, _, _ => none
  | n + 1, x1, x3, x4, I, L => if x1 < x4 then (lt (x3 + Int32.ofInt 1) (fun v7 => k18 x1 v7 I L)) else (if (x4 &&& (x1 ^^^ (-1))) = 0 then (bndV (f_X4_addTotal_63 I L x3 x4) (fun Ir9 Lr9 => lt (x4 + Int32.ofInt 1) (fun v11 => f_X4_findTotals_63_l48 k18 n x1 x3 v11 Ir9 Lr9))) else (lt (x4 + Int32.ofInt 1) (fun v8 => f_X4_findTotals_63_l48 k18 n x1 x3 v8 I L)))
theorem ok_X4_findTotals_63_l48 {d : Nat} (hd : 4 ≤ d) {k18 : Int32 → Int32 → mI → mL → rV} (hk18 : ∀ (x1 : Int32) (x3 : Int32) (I : mI) (L : mL) (o : mI × mL), k18 x1 x3 I L = some o → RR mX4_findTotals d 18 [some (.ref 63), some (.int x1), none, some (.int x3), none] [] I L (retQ none o.1 o.2)) : ∀ (n : Nat) (x1 : Int32) (x3 : Int32) (x4 : Int32) (I : mI) (L : mL) (o : mI × mL), f_X4_findTotals_63_l48 k18 n x1 x3 x4 I L = some o → RR mX4_findTotals d 48 [some (.ref 63), some (.int x1), none, some (.int x3), some (.int x4)] [] I L (retQ none o.1 o.2) := by
  intro n
  induction n with
  | zero => intro x1 x3 x4 I L o h; rw [f_X4_findTotals_63_l48] at h; cases h
  | succ n ih =>
    intro x1 x3 x4 I L o h
    rw [f_X4_findTotals_63_l48] at h
    refine r_iload dX4_findTotals_48 rfl ?_
    refine r_iload_n (i := 1) dX4_findTotals_50 rfl rfl ?_
    refine r_icmp_gt (tgt := 76) dX4_findTotals_51 (by decide) (fun c => ?_) (fun c => ?_)
    · rw [if_pos c] at h
      refine r_iinc (v := _) dX4_findTotals_76 rfl rfl (by decide) rfl ?_
      simp only [List.set_cons_zero, List.set_cons_succ]
      replace h := lt_some h
      refine r_goto (tgt := 18) dX4_findTotals_79 (by decide) ?_
      exact RR.wk (hk18 _ _ _ _ _ h) (And.intro rfl (And.intro rfl (And.intro rfl (trivial))))
    · rw [if_neg c] at h
      refine r_iload dX4_findTotals_54 rfl ?_
      refine r_iload_n (i := 1) dX4_findTotals_56 rfl rfl ?_
      refine r_iconst (v := (-1)) dX4_findTotals_57 (by decide) ?_
      refine r_ixor dX4_findTotals_58 ?_
      refine r_iand dX4_findTotals_59 ?_
      refine r_if_ne (tgt := 70) dX4_findTotals_60 (by decide) (fun c => ?_) (fun c => ?_)
      · rw [if_neg c] at h
        refine r_iinc (v := _) dX4_findTotals_70 rfl rfl (by decide) rfl ?_
        simp only [List.set_cons_zero, List.set_cons_succ]
        replace h := lt_some h
        refine r_goto (tgt := 48) dX4_findTotals_73 (by decide) ?_
        exact RR.wk (ih _ _ _ _ _ _ h) (And.intro rfl (And.intro rfl (And.intro rfl (And.intro rfl (trivial)))))
      · rw [if_pos c] at h
        refine r_aload_n (i := 0) dX4_findTotals_63 rfl rfl ?_
        refine r_iload_n (i := 3) dX4_findTotals_64 rfl rfl ?_
        refine r_iload dX4_findTotals_65 rfl ?_
        obtain ⟨⟨Ir9, Lr9⟩, hr, h⟩ := bind_some h
        refine r_V (d' := 3) k_X4_41 dX4_findTotals_67 (by omega) rfl rfl rfl (Nat.le_of_ble_eq_true rfl) (Nat.le_of_ble_eq_true rfl) (ok_X4_addTotal_63 (Nat.le_refl _) hr) (fun v I' L' hq => ?_)
        obtain ⟨rfl, rfl, rfl⟩ := hq
        simp only [Option.toList_some, Option.toList_none, List.drop_succ_cons, List.drop_zero, List.drop_nil, List.cons_append, List.nil_append]
        dsimp only at h
        refine r_iinc (v := _) dX4_findTotals_70 rfl rfl (by decide) rfl ?_
        simp only [List.set_cons_zero, List.set_cons_succ]
        replace h := lt_some h
        refine r_goto (tgt := 48) dX4_findTotals_73 (by decide) ?_
        exact RR.wk (ih _ _ _ _ _ _ h) (And.intro rfl (And.intro rfl (And.intro rfl (And.intro rfl (trivial)))))
def f_X4_findTotals_63_l18 : Nat → Int32 → Int32 → mI → mL → rV
  | 0, _, _, _, _ => none
  | n + 1, x1, x3, I, L => if (I 1 10) ≤ x3 then (some (I, L)) else (ck (inb x3 6) (bndV (f_X5_weigh_48 I L (I 10 x3.toNatClampNeg)) (fun Ir5 Lr5 => f_X4_findTotals_63_l48 (f_X4_findTotals_63_l18 n) fuel x1 x3 0 Ir5 Lr5)))
theorem ok_X4_findTotals_63_l18 {d : Nat} (hd : 4 ≤ d) : ∀ (n : Nat) (x1 : Int32) (x3 : Int32) (I : mI) (L : mL) (o : mI × mL), f_X4_findTotals_63_l18 n x1 x3 I L = some o → RR mX4_findTotals d 18 [some (.ref 63), some (.int x1), none, some (.int x3), none] [] I L (retQ none o.1 o.2) := by
  intro n
  induction n with
  | zero => intro x1 x3 I L o h; rw [f_X4_findTotals_63_l18] at h; cases h
  | succ n ih =>
    intro x1 x3 I L o h
    rw [f_X4_findTotals_63_l18] at h
    refine r_iload_n (i := 3) dX4_findTotals_18 rfl rfl ?_
    refine r_aload_n (i := 0) dX4_findTotals_19 rfl rfl ?_
    refine r_getR f_X4_15 dX4_findTotals_20 rfl rfl ?_
    refine r_getI f_X4_29 dX4_findTotals_23 rfl rfl ?_
    refine r_icmp_ge (tgt := 82) dX4_findTotals_26 (by decide) (fun c => ?_) (fun c => ?_)
    · rw [if_pos c] at h
      refine r_vret dX4_findTotals_82 ?_
      obtain rfl := Option.some.inj h
      exact ⟨rfl, rfl, rfl⟩
    · rw [if_neg c] at h
      refine r_aload_n (i := 0) dX4_findTotals_29 rfl rfl ?_
      refine r_getR f_X4_19 dX4_findTotals_30 rfl rfl ?_
      refine r_aload_n (i := 0) dX4_findTotals_33 rfl rfl ?_
      refine r_getR f_X4_15 dX4_findTotals_34 rfl rfl ?_
      refine r_getR f_X4_35 dX4_findTotals_37 rfl rfl ?_
      refine r_iload_n (i := 3) dX4_findTotals_40 rfl rfl ?_
      obtain ⟨hb, h⟩ := ck_some h
      refine r_iald rfl (inb_vp hb) dX4_findTotals_41 ?_
      obtain ⟨⟨Ir5, Lr5⟩, hr, h⟩ := bind_some h
      refine r_V (d' := 3) k_X4_38 dX4_findTotals_42 (by omega) rfl rfl rfl (Nat.le_of_ble_eq_true rfl) (Nat.le_of_ble_eq_true rfl) (ok_X5_weigh_48 (Nat.le_refl _) hr) (fun v I' L' hq => ?_)
      obtain ⟨rfl, rfl, rfl⟩ := hq
      simp only [Option.toList_some, Option.toList_none, List.drop_succ_cons, List.drop_zero, List.drop_nil, List.cons_append, List.nil_append]
      dsimp only at h
      refine r_iconst (v := 0) dX4_findTotals_45 (by decide) ?_
      refine r_istore dX4_findTotals_46 (by decide) rfl ?_
      simp only [List.set_cons_zero, List.set_cons_succ]
      exact RR.wk (ok_X4_findTotals_63_l48 hd ih _ _ _ _ _ _ _ h) (And.intro rfl (And.intro rfl (And.intro rfl (And.intro rfl (trivial)))))
def f_X4_findTotals_63 (I : mI) (L : mL) (a1 : Int32) (a2 : Int32) : rV := bndV (f_J7_fill_53178_64 I L 0) (fun Ir1 Lr1 => bndV (f_X5_harness_48 Ir1 Lr1 a2) (fun Ir3 Lr3 => f_X4_findTotals_63_l18 fuel a1 0 Ir3 Lr3))
theorem ok_X4_findTotals_63 {d : Nat} (hd : 4 ≤ d) {I : mI} {L : mL} {a1 : Int32} {a2 : Int32} {o : mI × mL} (h : f_X4_findTotals_63 I L a1 a2 = some o) : RR mX4_findTotals d 0 [some (.ref 63), some (.int a1), some (.int a2), none, none] [] I L (retQ none o.1 o.2) := by
  unfold f_X4_findTotals_63 at h
  refine r_aload_n (i := 0) dX4_findTotals_0 rfl rfl ?_
  refine r_getR f_X4_9 dX4_findTotals_1 rfl rfl ?_
  refine r_iconst (v := 0) dX4_findTotals_4 (by decide) ?_
  obtain ⟨⟨Ir1, Lr1⟩, hr, h⟩ := bind_some h
  refine r_S (d' := 0) k_X4_69 dX4_findTotals_5 (by omega) rfl (Nat.le_of_ble_eq_true rfl) (Nat.le_of_ble_eq_true rfl) (ok_J7_fill_53178_64 (Nat.le_refl _) hr) (fun v I' L' hq => ?_)
  obtain ⟨rfl, rfl, rfl⟩ := hq
  simp only [Option.toList_some, Option.toList_none, List.drop_succ_cons, List.drop_zero, List.drop_nil, List.cons_append, List.nil_append]
  dsimp only at h
  refine r_aload_n (i := 0) dX4_findTotals_8 rfl rfl ?_
  refine r_getR f_X4_19 dX4_findTotals_9 rfl rfl ?_
  refine r_iload_n (i := 2) dX4_findTotals_12 rfl rfl ?_
  obtain ⟨⟨Ir3, Lr3⟩, hr, h⟩ := bind_some h
  refine r_V (d' := 1) k_X4_23 dX4_findTotals_13 (by omega) rfl rfl rfl (Nat.le_of_ble_eq_true rfl) (Nat.le_of_ble_eq_true rfl) (ok_X5_harness_48 (Nat.le_refl _) hr) (fun v I' L' hq => ?_)
  obtain ⟨rfl, rfl, rfl⟩ := hq
  simp only [Option.toList_some, Option.toList_none, List.drop_succ_cons, List.drop_zero, List.drop_nil, List.cons_append, List.nil_append]
  dsimp only at h
  refine r_iconst (v := 0) dX4_findTotals_16 (by decide) ?_
  refine r_istore_n (i := 3) dX4_findTotals_17 rfl (by decide) rfl ?_
  simp only [List.set_cons_zero, List.set_cons_succ]
  exact RR.wk (ok_X4_findTotals_63_l18 hd _ _ _ _ _ _ h) (And.intro rfl (And.intro rfl (And.intro rfl (trivial))))
def f_X4_commonDivisor_l9 (I : mI) (L : mL) : Nat → Int64 → Int64 → Int32 → Option Int64
  | 0, _, _, _ => none
  | n + 1, x4, x6, x8 => if 100 ≤ x8 then (some x4) else (if (lg_cmp x6 0) = 0 then (some x4) else (ck (nzL x6) (lt (x4 - x4 / x6 * x6) (fun v1 => lt (x8 + Int32.ofInt 1) (fun v2 => f_X4_commonDivisor_l9 I L n x6 v1 v2)))))
theorem ok_X4_commonDivisor_l9 {d : Nat} (hd : 0 ≤ d){I : mI} {L : mL} : ∀ (n : Nat) (x4 : Int64) (x6 : Int64) (x8 : Int32) (o : Int64), f_X4_commonDivisor_l9 I L n x4 x6 x8 = some o → RR mX4_commonDivisor d 9 [none, none, none, none, some (.long x4), none, some (.long x6), none, some (.int x8), none, none] [] I L (retQ (some (.long o)) I L) := by
  intro n
  induction n with
  | zero => intro x4 x6 x8 o h; rw [f_X4_commonDivisor_l9] at h; cases h
  | succ n ih =>
    intro x4 x6 x8 o h
    rw [f_X4_commonDivisor_l9] at h
    refine r_iload dX4_commonDivisor_9 rfl ?_
    refine r_bipush (v := 100) dX4_commonDivisor_11 (by decide) ?_
    refine r_icmp_ge (tgt := 44) dX4_commonDivisor_13 (by decide) (fun c => ?_) (fun c => ?_)
    · rw [if_pos c] at h
      refine r_lload dX4_commonDivisor_44 rfl ?_
      refine r_lret dX4_commonDivisor_46 ?_
      obtain rfl := Option.some.inj h
      exact ⟨rfl, rfl, rfl⟩
    · rw [if_neg c] at h
      refine r_lload dX4_commonDivisor_16 rfl ?_
      refine r_lconst (v := 0) dX4_commonDivisor_18 (by decide) ?_
      refine r_lcmp dX4_commonDivisor_19 ?_
      refine r_if_eq (tgt := 44) dX4_commonDivisor_20 (by decide) (fun c => ?_) (fun c => ?_)
      · rw [if_pos c] at h
        refine r_lload dX4_commonDivisor_44 rfl ?_
        refine r_lret dX4_commonDivisor_46 ?_
        obtain rfl := Option.some.inj h
        exact ⟨rfl, rfl, rfl⟩
      · rw [if_neg c] at h
        refine r_lload dX4_commonDivisor_23 rfl ?_
        refine r_lload dX4_commonDivisor_25 rfl ?_
        obtain ⟨hb, h⟩ := ck_some h
        refine r_lrem dX4_commonDivisor_27 (nzL_ne hb) ?_
        refine r_lstore dX4_commonDivisor_28 (by decide) rfl ?_
        simp only [List.set_cons_zero, List.set_cons_succ]
        replace h := lt_some h
        refine r_lload dX4_commonDivisor_30 rfl ?_
        refine r_lstore dX4_commonDivisor_32 (by decide) rfl ?_
        simp only [List.set_cons_zero, List.set_cons_succ]
        refine r_lload dX4_commonDivisor_34 rfl ?_
        refine r_lstore dX4_commonDivisor_36 (by decide) rfl ?_
        simp only [List.set_cons_zero, List.set_cons_succ]
        refine r_iinc (v := _) dX4_commonDivisor_38 rfl rfl (by decide) rfl ?_
        simp only [List.set_cons_zero, List.set_cons_succ]
        replace h := lt_some h
        refine r_goto (tgt := 9) dX4_commonDivisor_41 (by decide) ?_
        exact RR.wk (ih _ _ _ _ h) (And.intro rfl (And.intro rfl (And.intro rfl (trivial))))
def f_X4_commonDivisor (I : mI) (L : mL) (a0 : Int64) (a1 : Int64) : Option Int64 := f_X4_commonDivisor_l9 I L fuel a1 a0 0
theorem ok_X4_commonDivisor {d : Nat} (hd : 0 ≤ d) {I : mI} {L : mL} {a0 : Int64} {a1 : Int64} {o : Int64} (h : f_X4_commonDivisor I L a0 a1 = some o) : RR mX4_commonDivisor d 0 [some (.long a0), none, some (.long a1), none, none, none, none, none, none, none, none] [] I L (retQ (some (.long o)) I L) := by
  unfold f_X4_commonDivisor at h
  refine r_lload_n (i := 2) dX4_commonDivisor_0 rfl rfl ?_
  refine r_lstore dX4_commonDivisor_1 (by decide) rfl ?_
  simp only [List.set_cons_zero, List.set_cons_succ]
  refine r_lload_n (i := 0) dX4_commonDivisor_3 rfl rfl ?_
  refine r_lstore dX4_commonDivisor_4 (by decide) rfl ?_
  simp only [List.set_cons_zero, List.set_cons_succ]
  refine r_iconst (v := 0) dX4_commonDivisor_6 (by decide) ?_
  refine r_istore dX4_commonDivisor_7 (by decide) rfl ?_
  simp only [List.set_cons_zero, List.set_cons_succ]
  exact RR.wk (ok_X4_commonDivisor_l9 hd _ _ _ _ _ h) (And.intro rfl (And.intro rfl (And.intro rfl (trivial))))
def f_X4_findPart_63_b131 (I : mI) (L : mL) (x4 : Int32) (x8 : Int64) (s0 : Int64) : rV := lt (uL L 63 3 s0) (fun M6 => if (lg_cmp x8 0) ≤ 0 then (lt (uL M6 63 4 1) (fun M7 => some (I, M7))) else (ck (inb x4 9) (ck (nzL x8) (lt (uL M6 63 4 ((ordL x4) / x8)) (fun M8 => some (I, M8))))))
theorem ok_X4_findPart_63_b131 {d : Nat} (hd : 5 ≤ d){I : mI} {L : mL} (x4 : Int32) (x8 : Int64) (s0 : Int64) {o : mI × mL} (h : f_X4_findPart_63_b131 I L x4 x8 s0 = some o) : RR mX4_findPart d 131 [some (.ref 63), none, none, none, some (.int x4), none, none, none, some (.long x8), none] [.long s0, .ref 63] I L (retQ none o.1 o.2) := by
  unfold f_X4_findPart_63_b131 at h
  refine r_putL f_X4_62 rfl rfl dX4_findPart_131 rfl rfl ?_
  replace h := lt_some h
  refine r_aload_n (i := 0) dX4_findPart_134 rfl rfl ?_
  refine r_lload dX4_findPart_135 rfl ?_
  refine r_lconst (v := 0) dX4_findPart_137 (by decide) ?_
  refine r_lcmp dX4_findPart_138 ?_
  refine r_if_le (tgt := 154) dX4_findPart_139 (by decide) (fun c => ?_) (fun c => ?_)
  · rw [if_pos c] at h
    refine r_lconst (v := 1) dX4_findPart_154 (by decide) ?_
    refine r_putL f_X4_66 rfl rfl dX4_findPart_155 rfl rfl ?_
    replace h := lt_some h
    refine r_vret dX4_findPart_158 ?_
    obtain rfl := Option.some.inj h
    exact ⟨rfl, rfl, rfl⟩
  · rw [if_neg c] at h
    refine r_ords f_X4_54 dX4_findPart_142 ?_
    refine r_iload dX4_findPart_145 rfl ?_
    obtain ⟨hb, h⟩ := ck_some h
    refine r_ordsA (inb_vp hb) dX4_findPart_147 ?_
    refine r_lload dX4_findPart_148 rfl ?_
    obtain ⟨hb, h⟩ := ck_some h
    refine r_ldiv dX4_findPart_150 (nzL_ne hb) ?_
    refine r_goto (tgt := 155) dX4_findPart_151 (by decide) ?_
    refine r_putL f_X4_66 rfl rfl dX4_findPart_155 rfl rfl ?_
    replace h := lt_some h
    refine r_vret dX4_findPart_158 ?_
    obtain rfl := Option.some.inj h
    exact ⟨rfl, rfl, rfl⟩
def f_X4_findPart_63_l27 : Nat → Int32 → Int32 → Int32 → Int64 → Int32 → mI → mL → rV
  | 0, _, _, _, _, _, _, _ => none
  | n + 1, x1, x4, x5, x6, x8, I, L => if x5 < x8 then (ck (inb x4 9) ((f_X4_commonDivisor I L x6 (ordL x4)).bind (fun r5 => if (lg_cmp r5 0) ≤ 0 then (f_X4_findPart_63_b131 I L x4 r5 0) else (ck (nzL r5) (f_X4_findPart_63_b131 I L x4 r5 (x6 / r5)))))) else (if (x8 &&& (x5 ^^^ (-1))) = 0 then ((f_J6_bitCount_0f7a4 I L x8).bind (fun r10 => ck (inb r10 9) (ck (inb ((x4 - 1) - r10) 9) (ck (inb (x8 ||| ((1 : Int32) <<< (x1 &&& 31))) 256) (ck (inb x8 256) (lt (x6 + (((ordL r10) * (ordL ((x4 - 1) - r10))) * (((I 64 (x8 ||| ((1 : Int32) <<< (x1 &&& 31))).toNatClampNeg) - (I 64 x8.toNatClampNeg)).toInt64))) (fun v11 => lt (x8 + Int32.ofInt 1) (fun v12 => f_X4_findPart_63_l27 n x1 x4 x5 v11 v12 I L)))))))) else (lt (x8 + Int32.ofInt 1) (fun v9 => f_X4_findPart_63_l27 n x1 x4 x5 x6 v9 I L)))
theorem ok_X4_findPart_63_l27 {d : Nat} (hd : 5 ≤ d) : ∀ (n : Nat) (x1 : Int32) (x4 : Int32) (x5 : Int32) (x6 : Int64) (x8 : Int32) (I : mI) (L : mL) (o : mI × mL), f_X4_findPart_63_l27 n x1 x4 x5 x6 x8 I L = some o → RR mX4_findPart d 27 [some (.ref 63), some (.int x1), none, none, some (.int x4), some (.int x5), some (.long x6), none, some (.int x8), none] [] I L (retQ none o.1 o.2) := by
  intro n
  induction n with
  | zero => intro x1 x4 x5 x6 x8 I L o h; rw [f_X4_findPart_63_l27] at h; cases h
  | succ n ih =>
    intro x1 x4 x5 x6 x8 I L o h
    rw [f_X4_findPart_63_l27] at h
    refine r_iload dX4_findPart_27 rfl ?_
    refine r_iload dX4_findPart_29 rfl ?_
    refine r_icmp_gt (tgt := 101) dX4_findPart_31 (by decide) (fun c => ?_) (fun c => ?_)
    · rw [if_pos c] at h
      refine r_lload dX4_findPart_101 rfl ?_
      refine r_ords f_X4_54 dX4_findPart_103 ?_
      refine r_iload dX4_findPart_106 rfl ?_
      obtain ⟨hb, h⟩ := ck_some h
      refine r_ordsA (inb_vp hb) dX4_findPart_108 ?_
      obtain ⟨r5, hr, h⟩ := bind_some h
      refine r_S (d' := 0) k_X4_58 dX4_findPart_109 (by omega) rfl (Nat.le_of_ble_eq_true rfl) (Nat.le_of_ble_eq_true rfl) (ok_X4_commonDivisor (Nat.le_refl _) hr) (fun v I' L' hq => ?_)
      obtain ⟨rfl, rfl, rfl⟩ := hq
      simp only [Option.toList_some, Option.toList_none, List.drop_succ_cons, List.drop_zero, List.drop_nil, List.cons_append, List.nil_append]
      refine r_lstore dX4_findPart_112 (by decide) rfl ?_
      simp only [List.set_cons_zero, List.set_cons_succ]
      refine r_aload_n (i := 0) dX4_findPart_114 rfl rfl ?_
      refine r_lload dX4_findPart_115 rfl ?_
      refine r_lconst (v := 0) dX4_findPart_117 (by decide) ?_
      refine r_lcmp dX4_findPart_118 ?_
      refine r_if_le (tgt := 130) dX4_findPart_119 (by decide) (fun c => ?_) (fun c => ?_)
      · rw [if_pos c] at h
        refine r_lconst (v := 0) dX4_findPart_130 (by decide) ?_
        exact RR.wk (ok_X4_findPart_63_b131 hd _ _ _ h) (And.intro rfl (And.intro rfl (And.intro rfl (trivial))))
      · rw [if_neg c] at h
        refine r_lload dX4_findPart_122 rfl ?_
        refine r_lload dX4_findPart_124 rfl ?_
        obtain ⟨hb, h⟩ := ck_some h
        refine r_ldiv dX4_findPart_126 (nzL_ne hb) ?_
        refine r_goto (tgt := 131) dX4_findPart_127 (by decide) ?_
        exact RR.wk (ok_X4_findPart_63_b131 hd _ _ _ h) (And.intro rfl (And.intro rfl (And.intro rfl (trivial))))
    · rw [if_neg c] at h
      refine r_iload dX4_findPart_34 rfl ?_
      refine r_iload dX4_findPart_36 rfl ?_
      refine r_iconst (v := (-1)) dX4_findPart_38 (by decide) ?_
      refine r_ixor dX4_findPart_39 ?_
      refine r_iand dX4_findPart_40 ?_
      refine r_if_ne (tgt := 95) dX4_findPart_41 (by decide) (fun c => ?_) (fun c => ?_)
      · rw [if_neg c] at h
        refine r_iinc (v := _) dX4_findPart_95 rfl rfl (by decide) rfl ?_
        simp only [List.set_cons_zero, List.set_cons_succ]
        replace h := lt_some h
        refine r_goto (tgt := 27) dX4_findPart_98 (by decide) ?_
        exact RR.wk (ih _ _ _ _ _ _ _ _ h) (And.intro rfl (And.intro rfl (And.intro rfl (And.intro rfl (And.intro rfl (And.intro rfl (trivial)))))))
      · rw [if_pos c] at h
        refine r_iload dX4_findPart_44 rfl ?_
        obtain ⟨r10, hr, h⟩ := bind_some h
        refine r_S (d' := 0) k_X4_48 dX4_findPart_46 (by omega) rfl (Nat.le_of_ble_eq_true rfl) (Nat.le_of_ble_eq_true rfl) (ok_J6_bitCount_0f7a4 (Nat.le_refl _) hr) (fun v I' L' hq => ?_)
        obtain ⟨rfl, rfl, rfl⟩ := hq
        simp only [Option.toList_some, Option.toList_none, List.drop_succ_cons, List.drop_zero, List.drop_nil, List.cons_append, List.nil_append]
        refine r_istore dX4_findPart_49 (by decide) rfl ?_
        simp only [List.set_cons_zero, List.set_cons_succ]
        refine r_lload dX4_findPart_51 rfl ?_
        refine r_ords f_X4_54 dX4_findPart_53 ?_
        refine r_iload dX4_findPart_56 rfl ?_
        obtain ⟨hb, h⟩ := ck_some h
        refine r_ordsA (inb_vp hb) dX4_findPart_58 ?_
        refine r_ords f_X4_54 dX4_findPart_59 ?_
        refine r_iload dX4_findPart_62 rfl ?_
        refine r_iconst (v := 1) dX4_findPart_64 (by decide) ?_
        refine r_isub dX4_findPart_65 ?_
        refine r_iload dX4_findPart_66 rfl ?_
        refine r_isub dX4_findPart_68 ?_
        obtain ⟨hb, h⟩ := ck_some h
        refine r_ordsA (inb_vp hb) dX4_findPart_69 ?_
        refine r_lmul dX4_findPart_70 ?_
        refine r_aload_n (i := 0) dX4_findPart_71 rfl rfl ?_
        refine r_getR f_X4_9 dX4_findPart_72 rfl rfl ?_
        refine r_iload dX4_findPart_75 rfl ?_
        refine r_iconst (v := 1) dX4_findPart_77 (by decide) ?_
        refine r_iload_n (i := 1) dX4_findPart_78 rfl rfl ?_
        refine r_ishl dX4_findPart_79 ?_
        refine r_ior dX4_findPart_80 ?_
        obtain ⟨hb, h⟩ := ck_some h
        refine r_iald rfl (inb_vp hb) dX4_findPart_81 ?_
        refine r_aload_n (i := 0) dX4_findPart_82 rfl rfl ?_
        refine r_getR f_X4_9 dX4_findPart_83 rfl rfl ?_
        refine r_iload dX4_findPart_86 rfl ?_
        obtain ⟨hb, h⟩ := ck_some h
        refine r_iald rfl (inb_vp hb) dX4_findPart_88 ?_
        refine r_isub dX4_findPart_89 ?_
        refine r_i2l dX4_findPart_90 ?_
        refine r_lmul dX4_findPart_91 ?_
        refine r_ladd dX4_findPart_92 ?_
        refine r_lstore dX4_findPart_93 (by decide) rfl ?_
        simp only [List.set_cons_zero, List.set_cons_succ]
        replace h := lt_some h
        refine r_iinc (v := _) dX4_findPart_95 rfl rfl (by decide) rfl ?_
        simp only [List.set_cons_zero, List.set_cons_succ]
        replace h := lt_some h
        refine r_goto (tgt := 27) dX4_findPart_98 (by decide) ?_
        exact RR.wk (ih _ _ _ _ _ _ _ _ h) (And.intro rfl (And.intro rfl (And.intro rfl (And.intro rfl (And.intro rfl (And.intro rfl (trivial)))))))
def f_X4_findPart_63 (I : mI) (L : mL) (a1 : Int32) (a2 : Int32) (a3 : Int32) : rV := bndV (f_X4_findTotals_63 I L a2 a3) (fun Ir1 Lr1 => (f_J6_bitCount_0f7a4 Ir1 Lr1 a2).bind (fun r3 => lt (a2 &&& (((1 : Int32) <<< (a1 &&& 31)) ^^^ (-1))) (fun v4 => f_X4_findPart_63_l27 fuel a1 r3 v4 0 0 Ir1 Lr1)))
theorem ok_X4_findPart_63 {d : Nat} (hd : 5 ≤ d) {I : mI} {L : mL} {a1 : Int32} {a2 : Int32} {a3 : Int32} {o : mI × mL} (h : f_X4_findPart_63 I L a1 a2 a3 = some o) : RR mX4_findPart d 0 [some (.ref 63), some (.int a1), some (.int a2), some (.int a3), none, none, none, none, none, none] [] I L (retQ none o.1 o.2) := by
  unfold f_X4_findPart_63 at h
  refine r_aload_n (i := 0) dX4_findPart_0 rfl rfl ?_
  refine r_iload_n (i := 2) dX4_findPart_1 rfl rfl ?_
  refine r_iload_n (i := 3) dX4_findPart_2 rfl rfl ?_
  obtain ⟨⟨Ir1, Lr1⟩, hr, h⟩ := bind_some h
  refine r_V (d' := 4) k_X4_45 dX4_findPart_3 (by omega) rfl rfl rfl (Nat.le_of_ble_eq_true rfl) (Nat.le_of_ble_eq_true rfl) (ok_X4_findTotals_63 (Nat.le_refl _) hr) (fun v I' L' hq => ?_)
  obtain ⟨rfl, rfl, rfl⟩ := hq
  simp only [Option.toList_some, Option.toList_none, List.drop_succ_cons, List.drop_zero, List.drop_nil, List.cons_append, List.nil_append]
  dsimp only at h
  refine r_iload_n (i := 2) dX4_findPart_6 rfl rfl ?_
  obtain ⟨r3, hr, h⟩ := bind_some h
  refine r_S (d' := 0) k_X4_48 dX4_findPart_7 (by omega) rfl (Nat.le_of_ble_eq_true rfl) (Nat.le_of_ble_eq_true rfl) (ok_J6_bitCount_0f7a4 (Nat.le_refl _) hr) (fun v I' L' hq => ?_)
  obtain ⟨rfl, rfl, rfl⟩ := hq
  simp only [Option.toList_some, Option.toList_none, List.drop_succ_cons, List.drop_zero, List.drop_nil, List.cons_append, List.nil_append]
  refine r_istore dX4_findPart_10 (by decide) rfl ?_
  simp only [List.set_cons_zero, List.set_cons_succ]
  refine r_iload_n (i := 2) dX4_findPart_12 rfl rfl ?_
  refine r_iconst (v := 1) dX4_findPart_13 (by decide) ?_
  refine r_iload_n (i := 1) dX4_findPart_14 rfl rfl ?_
  refine r_ishl dX4_findPart_15 ?_
  refine r_iconst (v := (-1)) dX4_findPart_16 (by decide) ?_
  refine r_ixor dX4_findPart_17 ?_
  refine r_iand dX4_findPart_18 ?_
  refine r_istore dX4_findPart_19 (by decide) rfl ?_
  simp only [List.set_cons_zero, List.set_cons_succ]
  replace h := lt_some h
  refine r_lconst (v := 0) dX4_findPart_21 (by decide) ?_
  refine r_lstore dX4_findPart_22 (by decide) rfl ?_
  simp only [List.set_cons_zero, List.set_cons_succ]
  refine r_iconst (v := 0) dX4_findPart_24 (by decide) ?_
  refine r_istore dX4_findPart_25 (by decide) rfl ?_
  simp only [List.set_cons_zero, List.set_cons_succ]
  exact RR.wk (ok_X4_findPart_63_l27 hd _ _ _ _ _ _ _ _ _ h) (And.intro rfl (And.intro rfl (And.intro rfl (And.intro rfl (And.intro rfl (And.intro rfl (trivial)))))))
def f_X10_upper_0 (I : mI) (L : mL) (a1 : Int32) (a2 : Int32) (a3 : Int32) : rL := (f_X10_isMember_0 I L a1 a2).bind (fun r1 => if r1 = 0 then (some ((-1000001), I, L)) else ((f_X7_hasCart_1 I L a3).bind (fun r2 => if r2 = 0 then (some ((-1000001), I, L)) else (bndV (f_X4_findPart_63 I L a1 a2 a3) (fun Ir3 Lr3 => some (Lr3 63 3, Ir3, Lr3))))))
theorem ok_X10_upper_0 {d : Nat} (hd : 6 ≤ d) {I : mI} {L : mL} {a1 : Int32} {a2 : Int32} {a3 : Int32} {o : Int64 × mI × mL} (h : f_X10_upper_0 I L a1 a2 a3 = some o) : RR mX10_upper d 0 [some (.ref 0), some (.int a1), some (.int a2), some (.int a3)] [] I L (retQ (some (.long o.1)) o.2.1 o.2.2) := by
  unfold f_X10_upper_0 at h
  refine r_aload_n (i := 0) dX10_upper_0 rfl rfl ?_
  refine r_iload_n (i := 1) dX10_upper_1 rfl rfl ?_
  refine r_iload_n (i := 2) dX10_upper_2 rfl rfl ?_
  obtain ⟨r1, hr, h⟩ := bind_some h
  refine r_V (d' := 1) k_X10_281 dX10_upper_3 (by omega) rfl rfl rfl (Nat.le_of_ble_eq_true rfl) (Nat.le_of_ble_eq_true rfl) (ok_X10_isMember_0 (Nat.le_refl _) hr) (fun v I' L' hq => ?_)
  obtain ⟨rfl, rfl, rfl⟩ := hq
  simp only [Option.toList_some, Option.toList_none, List.drop_succ_cons, List.drop_zero, List.drop_nil, List.cons_append, List.nil_append]
  refine r_if_eq (tgt := 20) dX10_upper_6 (by decide) (fun c => ?_) (fun c => ?_)
  · rw [if_pos c] at h
    refine r_ldc2 n_X10_284 dX10_upper_20 ?_
    refine r_lret dX10_upper_23 ?_
    obtain rfl := Option.some.inj h
    exact ⟨rfl, rfl, rfl⟩
  · rw [if_neg c] at h
    refine r_aload_n (i := 0) dX10_upper_9 rfl rfl ?_
    refine r_getR f_X10_10 dX10_upper_10 rfl rfl ?_
    refine r_iload_n (i := 3) dX10_upper_13 rfl rfl ?_
    obtain ⟨r2, hr, h⟩ := bind_some h
    refine r_V (d' := 0) k_X10_210 dX10_upper_14 (by omega) rfl rfl rfl (Nat.le_of_ble_eq_true rfl) (Nat.le_of_ble_eq_true rfl) (ok_X7_hasCart_1 (Nat.le_refl _) hr) (fun v I' L' hq => ?_)
    obtain ⟨rfl, rfl, rfl⟩ := hq
    simp only [Option.toList_some, Option.toList_none, List.drop_succ_cons, List.drop_zero, List.drop_nil, List.cons_append, List.nil_append]
    refine r_if_ne (tgt := 24) dX10_upper_17 (by decide) (fun c => ?_) (fun c => ?_)
    · rw [if_neg c] at h
      refine r_aload_n (i := 0) dX10_upper_24 rfl rfl ?_
      refine r_getR f_X10_61 dX10_upper_25 rfl rfl ?_
      refine r_iload_n (i := 1) dX10_upper_28 rfl rfl ?_
      refine r_iload_n (i := 2) dX10_upper_29 rfl rfl ?_
      refine r_iload_n (i := 3) dX10_upper_30 rfl rfl ?_
      obtain ⟨⟨Ir3, Lr3⟩, hr, h⟩ := bind_some h
      refine r_V (d' := 5) k_X10_286 dX10_upper_31 (by omega) rfl rfl rfl (Nat.le_of_ble_eq_true rfl) (Nat.le_of_ble_eq_true rfl) (ok_X4_findPart_63 (Nat.le_refl _) hr) (fun v I' L' hq => ?_)
      obtain ⟨rfl, rfl, rfl⟩ := hq
      simp only [Option.toList_some, Option.toList_none, List.drop_succ_cons, List.drop_zero, List.drop_nil, List.cons_append, List.nil_append]
      dsimp only at h
      refine r_aload_n (i := 0) dX10_upper_34 rfl rfl ?_
      refine r_getR f_X10_61 dX10_upper_35 rfl rfl ?_
      refine r_getL f_X10_289 dX10_upper_38 rfl rfl ?_
      refine r_lret dX10_upper_41 ?_
      obtain rfl := Option.some.inj h
      exact ⟨rfl, rfl, rfl⟩
    · rw [if_pos c] at h
      refine r_ldc2 n_X10_284 dX10_upper_20 ?_
      refine r_lret dX10_upper_23 ?_
      obtain rfl := Option.some.inj h
      exact ⟨rfl, rfl, rfl⟩
def f_X10_lower_0 (I : mI) (L : mL) (a1 : Int32) (a2 : Int32) (a3 : Int32) : rL := (f_X10_isMember_0 I L a1 a2).bind (fun r1 => if r1 = 0 then (some ((-1), I, L)) else ((f_X7_hasCart_1 I L a3).bind (fun r2 => if r2 = 0 then (some ((-1), I, L)) else (bndV (f_X4_findPart_63 I L a1 a2 a3) (fun Ir3 Lr3 => some (Lr3 63 4, Ir3, Lr3))))))
theorem ok_X10_lower_0 {d : Nat} (hd : 6 ≤ d) {I : mI} {L : mL} {a1 : Int32} {a2 : Int32} {a3 : Int32} {o : Int64 × mI × mL} (h : f_X10_lower_0 I L a1 a2 a3 = some o) : RR mX10_lower d 0 [some (.ref 0), some (.int a1), some (.int a2), some (.int a3)] [] I L (retQ (some (.long o.1)) o.2.1 o.2.2) := by
  unfold f_X10_lower_0 at h
  refine r_aload_n (i := 0) dX10_lower_0 rfl rfl ?_
  refine r_iload_n (i := 1) dX10_lower_1 rfl rfl ?_
  refine r_iload_n (i := 2) dX10_lower_2 rfl rfl ?_
  obtain ⟨r1, hr, h⟩ := bind_some h
  refine r_V (d' := 1) k_X10_281 dX10_lower_3 (by omega) rfl rfl rfl (Nat.le_of_ble_eq_true rfl) (Nat.le_of_ble_eq_true rfl) (ok_X10_isMember_0 (Nat.le_refl _) hr) (fun v I' L' hq => ?_)
  obtain ⟨rfl, rfl, rfl⟩ := hq
  simp only [Option.toList_some, Option.toList_none, List.drop_succ_cons, List.drop_zero, List.drop_nil, List.cons_append, List.nil_append]
  refine r_if_eq (tgt := 20) dX10_lower_6 (by decide) (fun c => ?_) (fun c => ?_)
  · rw [if_pos c] at h
    refine r_ldc2 n_X10_293 dX10_lower_20 ?_
    refine r_lret dX10_lower_23 ?_
    obtain rfl := Option.some.inj h
    exact ⟨rfl, rfl, rfl⟩
  · rw [if_neg c] at h
    refine r_aload_n (i := 0) dX10_lower_9 rfl rfl ?_
    refine r_getR f_X10_10 dX10_lower_10 rfl rfl ?_
    refine r_iload_n (i := 3) dX10_lower_13 rfl rfl ?_
    obtain ⟨r2, hr, h⟩ := bind_some h
    refine r_V (d' := 0) k_X10_210 dX10_lower_14 (by omega) rfl rfl rfl (Nat.le_of_ble_eq_true rfl) (Nat.le_of_ble_eq_true rfl) (ok_X7_hasCart_1 (Nat.le_refl _) hr) (fun v I' L' hq => ?_)
    obtain ⟨rfl, rfl, rfl⟩ := hq
    simp only [Option.toList_some, Option.toList_none, List.drop_succ_cons, List.drop_zero, List.drop_nil, List.cons_append, List.nil_append]
    refine r_if_ne (tgt := 24) dX10_lower_17 (by decide) (fun c => ?_) (fun c => ?_)
    · rw [if_neg c] at h
      refine r_aload_n (i := 0) dX10_lower_24 rfl rfl ?_
      refine r_getR f_X10_61 dX10_lower_25 rfl rfl ?_
      refine r_iload_n (i := 1) dX10_lower_28 rfl rfl ?_
      refine r_iload_n (i := 2) dX10_lower_29 rfl rfl ?_
      refine r_iload_n (i := 3) dX10_lower_30 rfl rfl ?_
      obtain ⟨⟨Ir3, Lr3⟩, hr, h⟩ := bind_some h
      refine r_V (d' := 5) k_X10_286 dX10_lower_31 (by omega) rfl rfl rfl (Nat.le_of_ble_eq_true rfl) (Nat.le_of_ble_eq_true rfl) (ok_X4_findPart_63 (Nat.le_refl _) hr) (fun v I' L' hq => ?_)
      obtain ⟨rfl, rfl, rfl⟩ := hq
      simp only [Option.toList_some, Option.toList_none, List.drop_succ_cons, List.drop_zero, List.drop_nil, List.cons_append, List.nil_append]
      dsimp only at h
      refine r_aload_n (i := 0) dX10_lower_34 rfl rfl ?_
      refine r_getR f_X10_61 dX10_lower_35 rfl rfl ?_
      refine r_getL f_X10_295 dX10_lower_38 rfl rfl ?_
      refine r_lret dX10_lower_41 ?_
      obtain rfl := Option.some.inj h
      exact ⟨rfl, rfl, rfl⟩
    · rw [if_pos c] at h
      refine r_ldc2 n_X10_293 dX10_lower_20 ?_
      refine r_lret dX10_lower_23 ?_
      obtain rfl := Option.some.inj h
      exact ⟨rfl, rfl, rfl⟩
def f_X7_wouldBeLighter_1_l5 (I : mI) (L : mL) : Nat → Int32 → Int32 → Int32 → Int32 → Option Int32
  | 0, _, _, _, _ => none
  | n + 1, x1, x2, x3, x4 => if (I 1 11) ≤ x4 then (some x3) else (ck (inb x4 6) (lt (I 14 x4.toNatClampNeg) (fun v1 => ck (inb x4 6) (if (I 15 x4.toNatClampNeg) = x1 then (ck (inb x1 8) ((f_X3_weight I L (I 3 x1.toNatClampNeg) x2 v1).bind (fun r3 => (f_X7_weightAt_1 I L x1 v1).bind (fun r4 => if r4 ≤ r3 then (lt (x4 + Int32.ofInt 1) (fun v5 => f_X7_wouldBeLighter_1_l5 I L n x1 x2 x3 v5)) else (lt (x3 ||| ((1 : Int32) <<< (x4 &&& 31))) (fun v6 => lt (x4 + Int32.ofInt 1) (fun v7 => f_X7_wouldBeLighter_1_l5 I L n x1 x2 v6 v7))))))) else (lt (x4 + Int32.ofInt 1) (fun v2 => f_X7_wouldBeLighter_1_l5 I L n x1 x2 x3 v2))))))
theorem ok_X7_wouldBeLighter_1_l5 {d : Nat} (hd : 3 ≤ d){I : mI} {L : mL} : ∀ (n : Nat) (x1 : Int32) (x2 : Int32) (x3 : Int32) (x4 : Int32) (o : Int32), f_X7_wouldBeLighter_1_l5 I L n x1 x2 x3 x4 = some o → RR mX7_wouldBeLighter d 5 [some (.ref 1), some (.int x1), some (.int x2), some (.int x3), some (.int x4), none] [] I L (retQ (some (.int o)) I L) := by
  intro n
  induction n with
  | zero => intro x1 x2 x3 x4 o h; rw [f_X7_wouldBeLighter_1_l5] at h; cases h
  | succ n ih =>
    intro x1 x2 x3 x4 o h
    rw [f_X7_wouldBeLighter_1_l5] at h
    refine r_iload dX7_wouldBeLighter_5 rfl ?_
    refine r_aload_n (i := 0) dX7_wouldBeLighter_7 rfl rfl ?_
    refine r_getI f_X7_75 dX7_wouldBeLighter_8 rfl rfl ?_
    refine r_icmp_ge (tgt := 72) dX7_wouldBeLighter_11 (by decide) (fun c => ?_) (fun c => ?_)
    · rw [if_pos c] at h
      refine r_iload_n (i := 3) dX7_wouldBeLighter_72 rfl rfl ?_
      refine r_iret (by first | rfl | decide) dX7_wouldBeLighter_73 ?_
      obtain rfl := Option.some.inj h
      exact ⟨rfl, rfl, rfl⟩
    · rw [if_neg c] at h
      refine r_aload_n (i := 0) dX7_wouldBeLighter_14 rfl rfl ?_
      refine r_getR f_X7_37 dX7_wouldBeLighter_15 rfl rfl ?_
      refine r_iload dX7_wouldBeLighter_18 rfl ?_
      obtain ⟨hb, h⟩ := ck_some h
      refine r_iald rfl (inb_vp hb) dX7_wouldBeLighter_20 ?_
      refine r_istore dX7_wouldBeLighter_21 (by decide) rfl ?_
      simp only [List.set_cons_zero, List.set_cons_succ]
      replace h := lt_some h
      refine r_aload_n (i := 0) dX7_wouldBeLighter_23 rfl rfl ?_
      refine r_getR f_X7_40 dX7_wouldBeLighter_24 rfl rfl ?_
      refine r_iload dX7_wouldBeLighter_27 rfl ?_
      obtain ⟨hb, h⟩ := ck_some h
      refine r_iald rfl (inb_vp hb) dX7_wouldBeLighter_29 ?_
      refine r_iload_n (i := 1) dX7_wouldBeLighter_30 rfl rfl ?_
      refine r_icmp_ne (tgt := 66) dX7_wouldBeLighter_31 (by decide) (fun c => ?_) (fun c => ?_)
      · rw [if_neg c] at h
        refine r_iinc (v := _) dX7_wouldBeLighter_66 rfl rfl (by decide) rfl ?_
        simp only [List.set_cons_zero, List.set_cons_succ]
        replace h := lt_some h
        refine r_goto (tgt := 5) dX7_wouldBeLighter_69 (by decide) ?_
        exact RR.wk (ih _ _ _ _ _ h) (And.intro rfl (And.intro rfl (And.intro rfl (And.intro rfl (And.intro rfl (trivial))))))
      · rw [if_pos c] at h
        refine r_aload_n (i := 0) dX7_wouldBeLighter_34 rfl rfl ?_
        refine r_getR f_X7_12 dX7_wouldBeLighter_35 rfl rfl ?_
        refine r_getR f_X7_51 dX7_wouldBeLighter_38 rfl rfl ?_
        refine r_iload_n (i := 1) dX7_wouldBeLighter_41 rfl rfl ?_
        obtain ⟨hb, h⟩ := ck_some h
        refine r_iald rfl (inb_vp hb) dX7_wouldBeLighter_42 ?_
        refine r_iload_n (i := 2) dX7_wouldBeLighter_43 rfl rfl ?_
        refine r_iload dX7_wouldBeLighter_44 rfl ?_
        obtain ⟨r3, hr, h⟩ := bind_some h
        refine r_S (d' := 0) k_X7_61 dX7_wouldBeLighter_46 (by omega) rfl (Nat.le_of_ble_eq_true rfl) (Nat.le_of_ble_eq_true rfl) (ok_X3_weight (Nat.le_refl _) hr) (fun v I' L' hq => ?_)
        obtain ⟨rfl, rfl, rfl⟩ := hq
        simp only [Option.toList_some, Option.toList_none, List.drop_succ_cons, List.drop_zero, List.drop_nil, List.cons_append, List.nil_append]
        refine r_aload_n (i := 0) dX7_wouldBeLighter_49 rfl rfl ?_
        refine r_iload_n (i := 1) dX7_wouldBeLighter_50 rfl rfl ?_
        refine r_iload dX7_wouldBeLighter_51 rfl ?_
        obtain ⟨r4, hr, h⟩ := bind_some h
        refine r_V (d' := 2) k_X7_65 dX7_wouldBeLighter_53 (by omega) rfl rfl rfl (Nat.le_of_ble_eq_true rfl) (Nat.le_of_ble_eq_true rfl) (ok_X7_weightAt_1 (Nat.le_refl _) hr) (fun v I' L' hq => ?_)
        obtain ⟨rfl, rfl, rfl⟩ := hq
        simp only [Option.toList_some, Option.toList_none, List.drop_succ_cons, List.drop_zero, List.drop_nil, List.cons_append, List.nil_append]
        refine r_icmp_ge (tgt := 66) dX7_wouldBeLighter_56 (by decide) (fun c => ?_) (fun c => ?_)
        · rw [if_pos c] at h
          refine r_iinc (v := _) dX7_wouldBeLighter_66 rfl rfl (by decide) rfl ?_
          simp only [List.set_cons_zero, List.set_cons_succ]
          replace h := lt_some h
          refine r_goto (tgt := 5) dX7_wouldBeLighter_69 (by decide) ?_
          exact RR.wk (ih _ _ _ _ _ h) (And.intro rfl (And.intro rfl (And.intro rfl (And.intro rfl (And.intro rfl (trivial))))))
        · rw [if_neg c] at h
          refine r_iload_n (i := 3) dX7_wouldBeLighter_59 rfl rfl ?_
          refine r_iconst (v := 1) dX7_wouldBeLighter_60 (by decide) ?_
          refine r_iload dX7_wouldBeLighter_61 rfl ?_
          refine r_ishl dX7_wouldBeLighter_63 ?_
          refine r_ior dX7_wouldBeLighter_64 ?_
          refine r_istore_n (i := 3) dX7_wouldBeLighter_65 rfl (by decide) rfl ?_
          simp only [List.set_cons_zero, List.set_cons_succ]
          replace h := lt_some h
          refine r_iinc (v := _) dX7_wouldBeLighter_66 rfl rfl (by decide) rfl ?_
          simp only [List.set_cons_zero, List.set_cons_succ]
          replace h := lt_some h
          refine r_goto (tgt := 5) dX7_wouldBeLighter_69 (by decide) ?_
          exact RR.wk (ih _ _ _ _ _ h) (And.intro rfl (And.intro rfl (And.intro rfl (And.intro rfl (And.intro rfl (trivial))))))
def f_X7_wouldBeLighter_1 (I : mI) (L : mL) (a1 : Int32) (a2 : Int32) : Option Int32 := f_X7_wouldBeLighter_1_l5 I L fuel a1 a2 0 0
theorem ok_X7_wouldBeLighter_1 {d : Nat} (hd : 3 ≤ d) {I : mI} {L : mL} {a1 : Int32} {a2 : Int32} {o : Int32} (h : f_X7_wouldBeLighter_1 I L a1 a2 = some o) : RR mX7_wouldBeLighter d 0 [some (.ref 1), some (.int a1), some (.int a2), none, none, none] [] I L (retQ (some (.int o)) I L) := by
  unfold f_X7_wouldBeLighter_1 at h
  refine r_iconst (v := 0) dX7_wouldBeLighter_0 (by decide) ?_
  refine r_istore_n (i := 3) dX7_wouldBeLighter_1 rfl (by decide) rfl ?_
  simp only [List.set_cons_zero, List.set_cons_succ]
  refine r_iconst (v := 0) dX7_wouldBeLighter_2 (by decide) ?_
  refine r_istore dX7_wouldBeLighter_3 (by decide) rfl ?_
  simp only [List.set_cons_zero, List.set_cons_succ]
  exact RR.wk (ok_X7_wouldBeLighter_1_l5 hd _ _ _ _ _ _ h) (And.intro rfl (And.intro rfl (And.intro rfl (And.intro rfl (And.intro rfl (trivial))))))
def f_X7_wouldFall_1_l5 (I : mI) (L : mL) : Nat → Int32 → Int32 → Int32 → Int32 → Option Int32
  | 0, _, _, _, _ => none
  | n + 1, x1, x2, x3, x4 => if (I 1 10) ≤ x4 then (some x3) else (ck (inb x4 6) (if (I 12 x4.toNatClampNeg) = x1 then (ck (inb x4 6) (if (I 13 x4.toNatClampNeg) ≤ 0 then (lt (x4 + Int32.ofInt 1) (fun v2 => f_X7_wouldFall_1_l5 I L n x1 x2 x3 v2)) else (ck (inb x1 8) (ck (inb x4 6) ((f_X3_weight I L (I 3 x1.toNatClampNeg) x2 (I 10 x4.toNatClampNeg)).bind (fun r3 => ck (inb x4 6) (if r3 ≤ (I 13 x4.toNatClampNeg) then (lt (x4 + Int32.ofInt 1) (fun v4 => f_X7_wouldFall_1_l5 I L n x1 x2 x3 v4)) else (lt (x3 ||| ((1 : Int32) <<< (x4 &&& 31))) (fun v5 => lt (x4 + Int32.ofInt 1) (fun v6 => f_X7_wouldFall_1_l5 I L n x1 x2 v5 v6)))))))))) else (lt (x4 + Int32.ofInt 1) (fun v1 => f_X7_wouldFall_1_l5 I L n x1 x2 x3 v1))))
theorem ok_X7_wouldFall_1_l5 {d : Nat} (hd : 1 ≤ d){I : mI} {L : mL} : ∀ (n : Nat) (x1 : Int32) (x2 : Int32) (x3 : Int32) (x4 : Int32) (o : Int32), f_X7_wouldFall_1_l5 I L n x1 x2 x3 x4 = some o → RR mX7_wouldFall d 5 [some (.ref 1), some (.int x1), some (.int x2), some (.int x3), some (.int x4)] [] I L (retQ (some (.int o)) I L) := by
  intro n
  induction n with
  | zero => intro x1 x2 x3 x4 o h; rw [f_X7_wouldFall_1_l5] at h; cases h
  | succ n ih =>
    intro x1 x2 x3 x4 o h
    rw [f_X7_wouldFall_1_l5] at h
    refine r_iload dX7_wouldFall_5 rfl ?_
    refine r_aload_n (i := 0) dX7_wouldFall_7 rfl rfl ?_
    refine r_getI f_X7_72 dX7_wouldFall_8 rfl rfl ?_
    refine r_icmp_ge (tgt := 78) dX7_wouldFall_11 (by decide) (fun c => ?_) (fun c => ?_)
    · rw [if_pos c] at h
      refine r_iload_n (i := 3) dX7_wouldFall_78 rfl rfl ?_
      refine r_iret (by first | rfl | decide) dX7_wouldFall_79 ?_
      obtain rfl := Option.some.inj h
      exact ⟨rfl, rfl, rfl⟩
    · rw [if_neg c] at h
      refine r_aload_n (i := 0) dX7_wouldFall_14 rfl rfl ?_
      refine r_getR f_X7_31 dX7_wouldFall_15 rfl rfl ?_
      refine r_iload dX7_wouldFall_18 rfl ?_
      obtain ⟨hb, h⟩ := ck_some h
      refine r_iald rfl (inb_vp hb) dX7_wouldFall_20 ?_
      refine r_iload_n (i := 1) dX7_wouldFall_21 rfl rfl ?_
      refine r_icmp_ne (tgt := 72) dX7_wouldFall_22 (by decide) (fun c => ?_) (fun c => ?_)
      · rw [if_neg c] at h
        refine r_iinc (v := _) dX7_wouldFall_72 rfl rfl (by decide) rfl ?_
        simp only [List.set_cons_zero, List.set_cons_succ]
        replace h := lt_some h
        refine r_goto (tgt := 5) dX7_wouldFall_75 (by decide) ?_
        exact RR.wk (ih _ _ _ _ _ h) (And.intro rfl (And.intro rfl (And.intro rfl (And.intro rfl (And.intro rfl (trivial))))))
      · rw [if_pos c] at h
        refine r_aload_n (i := 0) dX7_wouldFall_25 rfl rfl ?_
        refine r_getR f_X7_34 dX7_wouldFall_26 rfl rfl ?_
        refine r_iload dX7_wouldFall_29 rfl ?_
        obtain ⟨hb, h⟩ := ck_some h
        refine r_iald rfl (inb_vp hb) dX7_wouldFall_31 ?_
        refine r_if_le (tgt := 72) dX7_wouldFall_32 (by decide) (fun c => ?_) (fun c => ?_)
        · rw [if_pos c] at h
          refine r_iinc (v := _) dX7_wouldFall_72 rfl rfl (by decide) rfl ?_
          simp only [List.set_cons_zero, List.set_cons_succ]
          replace h := lt_some h
          refine r_goto (tgt := 5) dX7_wouldFall_75 (by decide) ?_
          exact RR.wk (ih _ _ _ _ _ h) (And.intro rfl (And.intro rfl (And.intro rfl (And.intro rfl (And.intro rfl (trivial))))))
        · rw [if_neg c] at h
          refine r_aload_n (i := 0) dX7_wouldFall_35 rfl rfl ?_
          refine r_getR f_X7_12 dX7_wouldFall_36 rfl rfl ?_
          refine r_getR f_X7_51 dX7_wouldFall_39 rfl rfl ?_
          refine r_iload_n (i := 1) dX7_wouldFall_42 rfl rfl ?_
          obtain ⟨hb, h⟩ := ck_some h
          refine r_iald rfl (inb_vp hb) dX7_wouldFall_43 ?_
          refine r_iload_n (i := 2) dX7_wouldFall_44 rfl rfl ?_
          refine r_aload_n (i := 0) dX7_wouldFall_45 rfl rfl ?_
          refine r_getR f_X7_25 dX7_wouldFall_46 rfl rfl ?_
          refine r_iload dX7_wouldFall_49 rfl ?_
          obtain ⟨hb, h⟩ := ck_some h
          refine r_iald rfl (inb_vp hb) dX7_wouldFall_51 ?_
          obtain ⟨r3, hr, h⟩ := bind_some h
          refine r_S (d' := 0) k_X7_61 dX7_wouldFall_52 (by omega) rfl (Nat.le_of_ble_eq_true rfl) (Nat.le_of_ble_eq_true rfl) (ok_X3_weight (Nat.le_refl _) hr) (fun v I' L' hq => ?_)
          obtain ⟨rfl, rfl, rfl⟩ := hq
          simp only [Option.toList_some, Option.toList_none, List.drop_succ_cons, List.drop_zero, List.drop_nil, List.cons_append, List.nil_append]
          refine r_aload_n (i := 0) dX7_wouldFall_55 rfl rfl ?_
          refine r_getR f_X7_34 dX7_wouldFall_56 rfl rfl ?_
          refine r_iload dX7_wouldFall_59 rfl ?_
          obtain ⟨hb, h⟩ := ck_some h
          refine r_iald rfl (inb_vp hb) dX7_wouldFall_61 ?_
          refine r_icmp_le (tgt := 72) dX7_wouldFall_62 (by decide) (fun c => ?_) (fun c => ?_)
          · rw [if_pos c] at h
            refine r_iinc (v := _) dX7_wouldFall_72 rfl rfl (by decide) rfl ?_
            simp only [List.set_cons_zero, List.set_cons_succ]
            replace h := lt_some h
            refine r_goto (tgt := 5) dX7_wouldFall_75 (by decide) ?_
            exact RR.wk (ih _ _ _ _ _ h) (And.intro rfl (And.intro rfl (And.intro rfl (And.intro rfl (And.intro rfl (trivial))))))
          · rw [if_neg c] at h
            refine r_iload_n (i := 3) dX7_wouldFall_65 rfl rfl ?_
            refine r_iconst (v := 1) dX7_wouldFall_66 (by decide) ?_
            refine r_iload dX7_wouldFall_67 rfl ?_
            refine r_ishl dX7_wouldFall_69 ?_
            refine r_ior dX7_wouldFall_70 ?_
            refine r_istore_n (i := 3) dX7_wouldFall_71 rfl (by decide) rfl ?_
            simp only [List.set_cons_zero, List.set_cons_succ]
            replace h := lt_some h
            refine r_iinc (v := _) dX7_wouldFall_72 rfl rfl (by decide) rfl ?_
            simp only [List.set_cons_zero, List.set_cons_succ]
            replace h := lt_some h
            refine r_goto (tgt := 5) dX7_wouldFall_75 (by decide) ?_
            exact RR.wk (ih _ _ _ _ _ h) (And.intro rfl (And.intro rfl (And.intro rfl (And.intro rfl (And.intro rfl (trivial))))))
def f_X7_wouldFall_1 (I : mI) (L : mL) (a1 : Int32) (a2 : Int32) : Option Int32 := f_X7_wouldFall_1_l5 I L fuel a1 a2 0 0
theorem ok_X7_wouldFall_1 {d : Nat} (hd : 1 ≤ d) {I : mI} {L : mL} {a1 : Int32} {a2 : Int32} {o : Int32} (h : f_X7_wouldFall_1 I L a1 a2 = some o) : RR mX7_wouldFall d 0 [some (.ref 1), some (.int a1), some (.int a2), none, none] [] I L (retQ (some (.int o)) I L) := by
  unfold f_X7_wouldFall_1 at h
  refine r_iconst (v := 0) dX7_wouldFall_0 (by decide) ?_
  refine r_istore_n (i := 3) dX7_wouldFall_1 rfl (by decide) rfl ?_
  simp only [List.set_cons_zero, List.set_cons_succ]
  refine r_iconst (v := 0) dX7_wouldFall_2 (by decide) ?_
  refine r_istore dX7_wouldFall_3 (by decide) rfl ?_
  simp only [List.set_cons_zero, List.set_cons_succ]
  exact RR.wk (ok_X7_wouldFall_1_l5 hd _ _ _ _ _ _ h) (And.intro rfl (And.intro rfl (And.intro rfl (And.intro rfl (And.intro rfl (trivial))))))
def f_X10_change_0 (I : mI) (L : mL) (a1 : Int32) (a2 : Int32) (a3 : Int32) : Option Int32 := (f_X3_hasParish_2 I L a1).bind (fun r1 => if r1 = 0 then (some (-1)) else ((f_X10_within I L a2 1 9).bind (fun r2 => if r2 = 0 then (some (-1)) else ((f_X10_within I L a3 0 1).bind (fun r3 => if r3 = 0 then (some (-1)) else (if a3 = 0 then ((f_X7_wouldFall_1 I L a1 a2).bind (fun r5 => some r5)) else ((f_X7_wouldBeLighter_1 I L a1 a2).bind (fun r4 => some r4))))))))
theorem ok_X10_change_0 {d : Nat} (hd : 4 ≤ d) {I : mI} {L : mL} {a1 : Int32} {a2 : Int32} {a3 : Int32} {o : Int32} (h : f_X10_change_0 I L a1 a2 a3 = some o) : RR mX10_change d 0 [some (.ref 0), some (.int a1), some (.int a2), some (.int a3)] [] I L (retQ (some (.int o)) I L) := by
  unfold f_X10_change_0 at h
  refine r_aload_n (i := 0) dX10_change_0 rfl rfl ?_
  refine r_getR f_X10_10 dX10_change_1 rfl rfl ?_
  refine r_getR f_X10_76 dX10_change_4 rfl rfl ?_
  refine r_iload_n (i := 1) dX10_change_7 rfl rfl ?_
  obtain ⟨r1, hr, h⟩ := bind_some h
  refine r_V (d' := 0) k_X10_90 dX10_change_8 (by omega) rfl rfl rfl (Nat.le_of_ble_eq_true rfl) (Nat.le_of_ble_eq_true rfl) (ok_X3_hasParish_2 (Nat.le_refl _) hr) (fun v I' L' hq => ?_)
  obtain ⟨rfl, rfl, rfl⟩ := hq
  simp only [Option.toList_some, Option.toList_none, List.drop_succ_cons, List.drop_zero, List.drop_nil, List.cons_append, List.nil_append]
  refine r_if_eq (tgt := 33) dX10_change_11 (by decide) (fun c => ?_) (fun c => ?_)
  · rw [if_pos c] at h
    refine r_iconst (v := (-1)) dX10_change_33 (by decide) ?_
    refine r_iret (by first | rfl | decide) dX10_change_34 ?_
    obtain rfl := Option.some.inj h
    exact ⟨rfl, rfl, rfl⟩
  · rw [if_neg c] at h
    refine r_iload_n (i := 2) dX10_change_14 rfl rfl ?_
    refine r_iconst (v := 1) dX10_change_15 (by decide) ?_
    refine r_bipush (v := 9) dX10_change_16 (by decide) ?_
    obtain ⟨r2, hr, h⟩ := bind_some h
    refine r_S (d' := 0) k_X10_72 dX10_change_18 (by omega) rfl (Nat.le_of_ble_eq_true rfl) (Nat.le_of_ble_eq_true rfl) (ok_X10_within (Nat.le_refl _) hr) (fun v I' L' hq => ?_)
    obtain ⟨rfl, rfl, rfl⟩ := hq
    simp only [Option.toList_some, Option.toList_none, List.drop_succ_cons, List.drop_zero, List.drop_nil, List.cons_append, List.nil_append]
    refine r_if_eq (tgt := 33) dX10_change_21 (by decide) (fun c => ?_) (fun c => ?_)
    · rw [if_pos c] at h
      refine r_iconst (v := (-1)) dX10_change_33 (by decide) ?_
      refine r_iret (by first | rfl | decide) dX10_change_34 ?_
      obtain rfl := Option.some.inj h
      exact ⟨rfl, rfl, rfl⟩
    · rw [if_neg c] at h
      refine r_iload_n (i := 3) dX10_change_24 rfl rfl ?_
      refine r_iconst (v := 0) dX10_change_25 (by decide) ?_
      refine r_iconst (v := 1) dX10_change_26 (by decide) ?_
      obtain ⟨r3, hr, h⟩ := bind_some h
      refine r_S (d' := 0) k_X10_72 dX10_change_27 (by omega) rfl (Nat.le_of_ble_eq_true rfl) (Nat.le_of_ble_eq_true rfl) (ok_X10_within (Nat.le_refl _) hr) (fun v I' L' hq => ?_)
      obtain ⟨rfl, rfl, rfl⟩ := hq
      simp only [Option.toList_some, Option.toList_none, List.drop_succ_cons, List.drop_zero, List.drop_nil, List.cons_append, List.nil_append]
      refine r_if_ne (tgt := 35) dX10_change_30 (by decide) (fun c => ?_) (fun c => ?_)
      · rw [if_neg c] at h
        refine r_iload_n (i := 3) dX10_change_35 rfl rfl ?_
        refine r_if_ne (tgt := 51) dX10_change_36 (by decide) (fun c => ?_) (fun c => ?_)
        · rw [if_neg c] at h
          refine r_aload_n (i := 0) dX10_change_51 rfl rfl ?_
          refine r_getR f_X10_10 dX10_change_52 rfl rfl ?_
          refine r_iload_n (i := 1) dX10_change_55 rfl rfl ?_
          refine r_iload_n (i := 2) dX10_change_56 rfl rfl ?_
          obtain ⟨r4, hr, h⟩ := bind_some h
          refine r_V (d' := 3) k_X10_301 dX10_change_57 (by omega) rfl rfl rfl (Nat.le_of_ble_eq_true rfl) (Nat.le_of_ble_eq_true rfl) (ok_X7_wouldBeLighter_1 (Nat.le_refl _) hr) (fun v I' L' hq => ?_)
          obtain ⟨rfl, rfl, rfl⟩ := hq
          simp only [Option.toList_some, Option.toList_none, List.drop_succ_cons, List.drop_zero, List.drop_nil, List.cons_append, List.nil_append]
          refine r_iret (by first | rfl | decide) dX10_change_60 ?_
          obtain rfl := Option.some.inj h
          exact ⟨rfl, rfl, rfl⟩
        · rw [if_pos c] at h
          refine r_aload_n (i := 0) dX10_change_39 rfl rfl ?_
          refine r_getR f_X10_10 dX10_change_40 rfl rfl ?_
          refine r_iload_n (i := 1) dX10_change_43 rfl rfl ?_
          refine r_iload_n (i := 2) dX10_change_44 rfl rfl ?_
          obtain ⟨r5, hr, h⟩ := bind_some h
          refine r_V (d' := 1) k_X10_298 dX10_change_45 (by omega) rfl rfl rfl (Nat.le_of_ble_eq_true rfl) (Nat.le_of_ble_eq_true rfl) (ok_X7_wouldFall_1 (Nat.le_refl _) hr) (fun v I' L' hq => ?_)
          obtain ⟨rfl, rfl, rfl⟩ := hq
          simp only [Option.toList_some, Option.toList_none, List.drop_succ_cons, List.drop_zero, List.drop_nil, List.cons_append, List.nil_append]
          refine r_goto (tgt := 60) dX10_change_48 (by decide) ?_
          refine r_iret (by first | rfl | decide) dX10_change_60 ?_
          obtain rfl := Option.some.inj h
          exact ⟨rfl, rfl, rfl⟩
      · rw [if_pos c] at h
        refine r_iconst (v := (-1)) dX10_change_33 (by decide) ?_
        refine r_iret (by first | rfl | decide) dX10_change_34 ?_
        obtain rfl := Option.some.inj h
        exact ⟨rfl, rfl, rfl⟩
def f_X10_well_0 (I : mI) (L : mL) (a1 : Int32) (a2 : Int32) : Option Int32 := (f_X3_hasParish_2 I L a1).bind (fun r1 => if r1 = 0 then (some (-1)) else ((f_X10_within I L a2 1 999).bind (fun r2 => if r2 = 0 then (some (-1)) else (ck (inb a1 8) (if (I 3 a1.toNatClampNeg) = 2 then (some (-4)) else ((f_X7_weightAt_1 I L a1 1).bind (fun r3 => some (a2 * r3))))))))
theorem ok_X10_well_0 {d : Nat} (hd : 3 ≤ d) {I : mI} {L : mL} {a1 : Int32} {a2 : Int32} {o : Int32} (h : f_X10_well_0 I L a1 a2 = some o) : RR mX10_well d 0 [some (.ref 0), some (.int a1), some (.int a2)] [] I L (retQ (some (.int o)) I L) := by
  unfold f_X10_well_0 at h
  refine r_aload_n (i := 0) dX10_well_0 rfl rfl ?_
  refine r_getR f_X10_10 dX10_well_1 rfl rfl ?_
  refine r_getR f_X10_76 dX10_well_4 rfl rfl ?_
  refine r_iload_n (i := 1) dX10_well_7 rfl rfl ?_
  obtain ⟨r1, hr, h⟩ := bind_some h
  refine r_V (d' := 0) k_X10_90 dX10_well_8 (by omega) rfl rfl rfl (Nat.le_of_ble_eq_true rfl) (Nat.le_of_ble_eq_true rfl) (ok_X3_hasParish_2 (Nat.le_refl _) hr) (fun v I' L' hq => ?_)
  obtain ⟨rfl, rfl, rfl⟩ := hq
  simp only [Option.toList_some, Option.toList_none, List.drop_succ_cons, List.drop_zero, List.drop_nil, List.cons_append, List.nil_append]
  refine r_if_eq (tgt := 25) dX10_well_11 (by decide) (fun c => ?_) (fun c => ?_)
  · rw [if_pos c] at h
    refine r_iconst (v := (-1)) dX10_well_25 (by decide) ?_
    refine r_iret (by first | rfl | decide) dX10_well_26 ?_
    obtain rfl := Option.some.inj h
    exact ⟨rfl, rfl, rfl⟩
  · rw [if_neg c] at h
    refine r_iload_n (i := 2) dX10_well_14 rfl rfl ?_
    refine r_iconst (v := 1) dX10_well_15 (by decide) ?_
    refine r_sipush (v := 999) dX10_well_16 (by decide) ?_
    obtain ⟨r2, hr, h⟩ := bind_some h
    refine r_S (d' := 0) k_X10_72 dX10_well_19 (by omega) rfl (Nat.le_of_ble_eq_true rfl) (Nat.le_of_ble_eq_true rfl) (ok_X10_within (Nat.le_refl _) hr) (fun v I' L' hq => ?_)
    obtain ⟨rfl, rfl, rfl⟩ := hq
    simp only [Option.toList_some, Option.toList_none, List.drop_succ_cons, List.drop_zero, List.drop_nil, List.cons_append, List.nil_append]
    refine r_if_ne (tgt := 27) dX10_well_22 (by decide) (fun c => ?_) (fun c => ?_)
    · rw [if_neg c] at h
      refine r_aload_n (i := 0) dX10_well_27 rfl rfl ?_
      refine r_getR f_X10_10 dX10_well_28 rfl rfl ?_
      refine r_getR f_X10_76 dX10_well_31 rfl rfl ?_
      refine r_getR f_X10_143 dX10_well_34 rfl rfl ?_
      refine r_iload_n (i := 1) dX10_well_37 rfl rfl ?_
      obtain ⟨hb, h⟩ := ck_some h
      refine r_iald rfl (inb_vp hb) dX10_well_38 ?_
      refine r_iconst (v := 2) dX10_well_39 (by decide) ?_
      refine r_icmp_ne (tgt := 46) dX10_well_40 (by decide) (fun c => ?_) (fun c => ?_)
      · rw [if_neg c] at h
        refine r_iload_n (i := 2) dX10_well_46 rfl rfl ?_
        refine r_aload_n (i := 0) dX10_well_47 rfl rfl ?_
        refine r_getR f_X10_10 dX10_well_48 rfl rfl ?_
        refine r_iload_n (i := 1) dX10_well_51 rfl rfl ?_
        refine r_iconst (v := 1) dX10_well_52 (by decide) ?_
        obtain ⟨r3, hr, h⟩ := bind_some h
        refine r_V (d' := 2) k_X10_171 dX10_well_53 (by omega) rfl rfl rfl (Nat.le_of_ble_eq_true rfl) (Nat.le_of_ble_eq_true rfl) (ok_X7_weightAt_1 (Nat.le_refl _) hr) (fun v I' L' hq => ?_)
        obtain ⟨rfl, rfl, rfl⟩ := hq
        simp only [Option.toList_some, Option.toList_none, List.drop_succ_cons, List.drop_zero, List.drop_nil, List.cons_append, List.nil_append]
        refine r_imul dX10_well_56 ?_
        refine r_iret (by first | rfl | decide) dX10_well_57 ?_
        obtain rfl := Option.some.inj h
        exact ⟨rfl, rfl, rfl⟩
      · rw [if_pos c] at h
        refine r_bipush (v := (-4)) dX10_well_43 (by decide) ?_
        refine r_iret (by first | rfl | decide) dX10_well_45 ?_
        obtain rfl := Option.some.inj h
        exact ⟨rfl, rfl, rfl⟩
    · rw [if_pos c] at h
      refine r_iconst (v := (-1)) dX10_well_25 (by decide) ?_
      refine r_iret (by first | rfl | decide) dX10_well_26 ?_
      obtain rfl := Option.some.inj h
      exact ⟨rfl, rfl, rfl⟩
def f_X3_copyFrom_17_2 (I : mI) (L : mL) : rV := ck (cpk 0 0 8 8 8) (lt (pI I 18 (va_cpy (I 3) (I 18) (0 : Int32).toNatClampNeg (0 : Int32).toNatClampNeg (8 : Int32).toNatClampNeg)) (fun M1 => ck (cpk 0 0 32 32 32) (lt (pI M1 19 (va_cpy (M1 4) (M1 19) (0 : Int32).toNatClampNeg (0 : Int32).toNatClampNeg (32 : Int32).toNatClampNeg)) (fun M2 => ck (cpk 0 0 15 15 15) (lt (pI M2 20 (va_cpy (M2 5) (M2 20) (0 : Int32).toNatClampNeg (0 : Int32).toNatClampNeg (15 : Int32).toNatClampNeg)) (fun M3 => ck (cpk 0 0 15 15 15) (lt (pI M3 21 (va_cpy (M3 6) (M3 21) (0 : Int32).toNatClampNeg (0 : Int32).toNatClampNeg (15 : Int32).toNatClampNeg)) (fun M4 => ck (cpk 0 0 15 15 15) (lt (pI M4 22 (va_cpy (M4 7) (M4 22) (0 : Int32).toNatClampNeg (0 : Int32).toNatClampNeg (15 : Int32).toNatClampNeg)) (fun M5 => lt (uI M5 17 5 (M5 2 5)) (fun M6 => lt (uI M6 17 6 (M6 2 6)) (fun M7 => some (M7, L)))))))))))))
theorem ok_X3_copyFrom_17_2 {d : Nat} (hd : 1 ≤ d) {I : mI} {L : mL} {o : mI × mL} (h : f_X3_copyFrom_17_2 I L = some o) : RR mX3_copyFrom d 0 [some (.ref 17), some (.ref 2)] [] I L (retQ none o.1 o.2) := by
  unfold f_X3_copyFrom_17_2 at h
  refine r_aload_n (i := 1) dX3_copyFrom_0 rfl rfl ?_
  refine r_getR f_X3_9 dX3_copyFrom_1 rfl rfl ?_
  refine r_iconst (v := 0) dX3_copyFrom_4 (by decide) ?_
  refine r_aload_n (i := 0) dX3_copyFrom_5 rfl rfl ?_
  refine r_getR f_X3_9 dX3_copyFrom_6 rfl rfl ?_
  refine r_iconst (v := 0) dX3_copyFrom_9 (by decide) ?_
  refine r_bipush (v := 8) dX3_copyFrom_10 (by decide) ?_
  obtain ⟨hb, h⟩ := ck_some h
  obtain ⟨hc1, hc2, hc3, hc4, hc5⟩ := cpk_spec hb
  refine r_copyI k_X3_46 rfl rfl hc1 hc2 hc3 hc4 hc5 dX3_copyFrom_12 (by omega) (Nat.le_of_ble_eq_true rfl) ?_
  replace h := lt_some h
  refine r_aload_n (i := 1) dX3_copyFrom_15 rfl rfl ?_
  refine r_getR f_X3_15 dX3_copyFrom_16 rfl rfl ?_
  refine r_iconst (v := 0) dX3_copyFrom_19 (by decide) ?_
  refine r_aload_n (i := 0) dX3_copyFrom_20 rfl rfl ?_
  refine r_getR f_X3_15 dX3_copyFrom_21 rfl rfl ?_
  refine r_iconst (v := 0) dX3_copyFrom_24 (by decide) ?_
  refine r_bipush (v := 32) dX3_copyFrom_25 (by decide) ?_
  obtain ⟨hb, h⟩ := ck_some h
  obtain ⟨hc1, hc2, hc3, hc4, hc5⟩ := cpk_spec hb
  refine r_copyI k_X3_46 rfl rfl hc1 hc2 hc3 hc4 hc5 dX3_copyFrom_27 (by omega) (Nat.le_of_ble_eq_true rfl) ?_
  replace h := lt_some h
  refine r_aload_n (i := 1) dX3_copyFrom_30 rfl rfl ?_
  refine r_getR f_X3_18 dX3_copyFrom_31 rfl rfl ?_
  refine r_iconst (v := 0) dX3_copyFrom_34 (by decide) ?_
  refine r_aload_n (i := 0) dX3_copyFrom_35 rfl rfl ?_
  refine r_getR f_X3_18 dX3_copyFrom_36 rfl rfl ?_
  refine r_iconst (v := 0) dX3_copyFrom_39 (by decide) ?_
  refine r_bipush (v := 15) dX3_copyFrom_40 (by decide) ?_
  obtain ⟨hb, h⟩ := ck_some h
  obtain ⟨hc1, hc2, hc3, hc4, hc5⟩ := cpk_spec hb
  refine r_copyI k_X3_46 rfl rfl hc1 hc2 hc3 hc4 hc5 dX3_copyFrom_42 (by omega) (Nat.le_of_ble_eq_true rfl) ?_
  replace h := lt_some h
  refine r_aload_n (i := 1) dX3_copyFrom_45 rfl rfl ?_
  refine r_getR f_X3_21 dX3_copyFrom_46 rfl rfl ?_
  refine r_iconst (v := 0) dX3_copyFrom_49 (by decide) ?_
  refine r_aload_n (i := 0) dX3_copyFrom_50 rfl rfl ?_
  refine r_getR f_X3_21 dX3_copyFrom_51 rfl rfl ?_
  refine r_iconst (v := 0) dX3_copyFrom_54 (by decide) ?_
  refine r_bipush (v := 15) dX3_copyFrom_55 (by decide) ?_
  obtain ⟨hb, h⟩ := ck_some h
  obtain ⟨hc1, hc2, hc3, hc4, hc5⟩ := cpk_spec hb
  refine r_copyI k_X3_46 rfl rfl hc1 hc2 hc3 hc4 hc5 dX3_copyFrom_57 (by omega) (Nat.le_of_ble_eq_true rfl) ?_
  replace h := lt_some h
  refine r_aload_n (i := 1) dX3_copyFrom_60 rfl rfl ?_
  refine r_getR f_X3_24 dX3_copyFrom_61 rfl rfl ?_
  refine r_iconst (v := 0) dX3_copyFrom_64 (by decide) ?_
  refine r_aload_n (i := 0) dX3_copyFrom_65 rfl rfl ?_
  refine r_getR f_X3_24 dX3_copyFrom_66 rfl rfl ?_
  refine r_iconst (v := 0) dX3_copyFrom_69 (by decide) ?_
  refine r_bipush (v := 15) dX3_copyFrom_70 (by decide) ?_
  obtain ⟨hb, h⟩ := ck_some h
  obtain ⟨hc1, hc2, hc3, hc4, hc5⟩ := cpk_spec hb
  refine r_copyI k_X3_46 rfl rfl hc1 hc2 hc3 hc4 hc5 dX3_copyFrom_72 (by omega) (Nat.le_of_ble_eq_true rfl) ?_
  replace h := lt_some h
  refine r_aload_n (i := 0) dX3_copyFrom_75 rfl rfl ?_
  refine r_aload_n (i := 1) dX3_copyFrom_76 rfl rfl ?_
  refine r_getI f_X3_27 dX3_copyFrom_77 rfl rfl ?_
  refine r_putI f_X3_27 rfl rfl dX3_copyFrom_80 rfl rfl ?_
  replace h := lt_some h
  refine r_aload_n (i := 0) dX3_copyFrom_83 rfl rfl ?_
  refine r_aload_n (i := 1) dX3_copyFrom_84 rfl rfl ?_
  refine r_getI f_X3_31 dX3_copyFrom_85 rfl rfl ?_
  refine r_putI f_X3_31 rfl rfl dX3_copyFrom_88 rfl rfl ?_
  replace h := lt_some h
  refine r_vret dX3_copyFrom_91 ?_
  obtain rfl := Option.some.inj h
  exact ⟨rfl, rfl, rfl⟩
def f_X7_copyFrom_16_1 (I : mI) (L : mL) : rV := bndV (f_X3_copyFrom_17_2 I L) (fun Ir1 Lr1 => ck (cpk 0 0 4 4 4) (lt (pI Ir1 23 (va_cpy (Ir1 8) (Ir1 23) (0 : Int32).toNatClampNeg (0 : Int32).toNatClampNeg (4 : Int32).toNatClampNeg)) (fun M3 => ck (cpk 0 0 4 4 4) (lt (pI M3 24 (va_cpy (M3 9) (M3 24) (0 : Int32).toNatClampNeg (0 : Int32).toNatClampNeg (4 : Int32).toNatClampNeg)) (fun M4 => ck (cpk 0 0 6 6 6) (lt (pI M4 25 (va_cpy (M4 10) (M4 25) (0 : Int32).toNatClampNeg (0 : Int32).toNatClampNeg (6 : Int32).toNatClampNeg)) (fun M5 => ck (cpk 0 0 6 6 6) (lt (pI M5 26 (va_cpy (M5 11) (M5 26) (0 : Int32).toNatClampNeg (0 : Int32).toNatClampNeg (6 : Int32).toNatClampNeg)) (fun M6 => ck (cpk 0 0 6 6 6) (lt (pI M6 27 (va_cpy (M6 12) (M6 27) (0 : Int32).toNatClampNeg (0 : Int32).toNatClampNeg (6 : Int32).toNatClampNeg)) (fun M7 => ck (cpk 0 0 6 6 6) (lt (pI M7 28 (va_cpy (M7 13) (M7 28) (0 : Int32).toNatClampNeg (0 : Int32).toNatClampNeg (6 : Int32).toNatClampNeg)) (fun M8 => ck (cpk 0 0 6 6 6) (lt (pI M8 29 (va_cpy (M8 14) (M8 29) (0 : Int32).toNatClampNeg (0 : Int32).toNatClampNeg (6 : Int32).toNatClampNeg)) (fun M9 => ck (cpk 0 0 6 6 6) (lt (pI M9 30 (va_cpy (M9 15) (M9 30) (0 : Int32).toNatClampNeg (0 : Int32).toNatClampNeg (6 : Int32).toNatClampNeg)) (fun M10 => lt (uI M10 16 9 (M10 1 9)) (fun M11 => lt (uI M11 16 10 (M11 1 10)) (fun M12 => lt (uI M12 16 11 (M12 1 11)) (fun M13 => lt (uI M13 16 12 (M13 1 12)) (fun M14 => some (M14, Lr1))))))))))))))))))))))
theorem ok_X7_copyFrom_16_1 {d : Nat} (hd : 2 ≤ d) {I : mI} {L : mL} {o : mI × mL} (h : f_X7_copyFrom_16_1 I L = some o) : RR mX7_copyFrom d 0 [some (.ref 16), some (.ref 1)] [] I L (retQ none o.1 o.2) := by
  unfold f_X7_copyFrom_16_1 at h
  refine r_aload_n (i := 0) dX7_copyFrom_0 rfl rfl ?_
  refine r_getR f_X7_12 dX7_copyFrom_1 rfl rfl ?_
  refine r_aload_n (i := 1) dX7_copyFrom_4 rfl rfl ?_
  refine r_getR f_X7_12 dX7_copyFrom_5 rfl rfl ?_
  obtain ⟨⟨Ir1, Lr1⟩, hr, h⟩ := bind_some h
  refine r_V (d' := 1) k_X7_90 dX7_copyFrom_8 (by omega) rfl rfl rfl (Nat.le_of_ble_eq_true rfl) (Nat.le_of_ble_eq_true rfl) (ok_X3_copyFrom_17_2 (Nat.le_refl _) hr) (fun v I' L' hq => ?_)
  obtain ⟨rfl, rfl, rfl⟩ := hq
  simp only [Option.toList_some, Option.toList_none, List.drop_succ_cons, List.drop_zero, List.drop_nil, List.cons_append, List.nil_append]
  dsimp only at h
  refine r_aload_n (i := 1) dX7_copyFrom_11 rfl rfl ?_
  refine r_getR f_X7_18 dX7_copyFrom_12 rfl rfl ?_
  refine r_iconst (v := 0) dX7_copyFrom_15 (by decide) ?_
  refine r_aload_n (i := 0) dX7_copyFrom_16 rfl rfl ?_
  refine r_getR f_X7_18 dX7_copyFrom_17 rfl rfl ?_
  refine r_iconst (v := 0) dX7_copyFrom_20 (by decide) ?_
  refine r_iconst (v := 4) dX7_copyFrom_21 (by decide) ?_
  obtain ⟨hb, h⟩ := ck_some h
  obtain ⟨hc1, hc2, hc3, hc4, hc5⟩ := cpk_spec hb
  refine r_copyI k_X7_94 rfl rfl hc1 hc2 hc3 hc4 hc5 dX7_copyFrom_22 (by omega) (Nat.le_of_ble_eq_true rfl) ?_
  replace h := lt_some h
  refine r_aload_n (i := 1) dX7_copyFrom_25 rfl rfl ?_
  refine r_getR f_X7_22 dX7_copyFrom_26 rfl rfl ?_
  refine r_iconst (v := 0) dX7_copyFrom_29 (by decide) ?_
  refine r_aload_n (i := 0) dX7_copyFrom_30 rfl rfl ?_
  refine r_getR f_X7_22 dX7_copyFrom_31 rfl rfl ?_
  refine r_iconst (v := 0) dX7_copyFrom_34 (by decide) ?_
  refine r_iconst (v := 4) dX7_copyFrom_35 (by decide) ?_
  obtain ⟨hb, h⟩ := ck_some h
  obtain ⟨hc1, hc2, hc3, hc4, hc5⟩ := cpk_spec hb
  refine r_copyI k_X7_94 rfl rfl hc1 hc2 hc3 hc4 hc5 dX7_copyFrom_36 (by omega) (Nat.le_of_ble_eq_true rfl) ?_
  replace h := lt_some h
  refine r_aload_n (i := 1) dX7_copyFrom_39 rfl rfl ?_
  refine r_getR f_X7_25 dX7_copyFrom_40 rfl rfl ?_
  refine r_iconst (v := 0) dX7_copyFrom_43 (by decide) ?_
  refine r_aload_n (i := 0) dX7_copyFrom_44 rfl rfl ?_
  refine r_getR f_X7_25 dX7_copyFrom_45 rfl rfl ?_
  refine r_iconst (v := 0) dX7_copyFrom_48 (by decide) ?_
  refine r_bipush (v := 6) dX7_copyFrom_49 (by decide) ?_
  obtain ⟨hb, h⟩ := ck_some h
  obtain ⟨hc1, hc2, hc3, hc4, hc5⟩ := cpk_spec hb
  refine r_copyI k_X7_94 rfl rfl hc1 hc2 hc3 hc4 hc5 dX7_copyFrom_51 (by omega) (Nat.le_of_ble_eq_true rfl) ?_
  replace h := lt_some h
  refine r_aload_n (i := 1) dX7_copyFrom_54 rfl rfl ?_
  refine r_getR f_X7_28 dX7_copyFrom_55 rfl rfl ?_
  refine r_iconst (v := 0) dX7_copyFrom_58 (by decide) ?_
  refine r_aload_n (i := 0) dX7_copyFrom_59 rfl rfl ?_
  refine r_getR f_X7_28 dX7_copyFrom_60 rfl rfl ?_
  refine r_iconst (v := 0) dX7_copyFrom_63 (by decide) ?_
  refine r_bipush (v := 6) dX7_copyFrom_64 (by decide) ?_
  obtain ⟨hb, h⟩ := ck_some h
  obtain ⟨hc1, hc2, hc3, hc4, hc5⟩ := cpk_spec hb
  refine r_copyI k_X7_94 rfl rfl hc1 hc2 hc3 hc4 hc5 dX7_copyFrom_66 (by omega) (Nat.le_of_ble_eq_true rfl) ?_
  replace h := lt_some h
  refine r_aload_n (i := 1) dX7_copyFrom_69 rfl rfl ?_
  refine r_getR f_X7_31 dX7_copyFrom_70 rfl rfl ?_
  refine r_iconst (v := 0) dX7_copyFrom_73 (by decide) ?_
  refine r_aload_n (i := 0) dX7_copyFrom_74 rfl rfl ?_
  refine r_getR f_X7_31 dX7_copyFrom_75 rfl rfl ?_
  refine r_iconst (v := 0) dX7_copyFrom_78 (by decide) ?_
  refine r_bipush (v := 6) dX7_copyFrom_79 (by decide) ?_
  obtain ⟨hb, h⟩ := ck_some h
  obtain ⟨hc1, hc2, hc3, hc4, hc5⟩ := cpk_spec hb
  refine r_copyI k_X7_94 rfl rfl hc1 hc2 hc3 hc4 hc5 dX7_copyFrom_81 (by omega) (Nat.le_of_ble_eq_true rfl) ?_
  replace h := lt_some h
  refine r_aload_n (i := 1) dX7_copyFrom_84 rfl rfl ?_
  refine r_getR f_X7_34 dX7_copyFrom_85 rfl rfl ?_
  refine r_iconst (v := 0) dX7_copyFrom_88 (by decide) ?_
  refine r_aload_n (i := 0) dX7_copyFrom_89 rfl rfl ?_
  refine r_getR f_X7_34 dX7_copyFrom_90 rfl rfl ?_
  refine r_iconst (v := 0) dX7_copyFrom_93 (by decide) ?_
  refine r_bipush (v := 6) dX7_copyFrom_94 (by decide) ?_
  obtain ⟨hb, h⟩ := ck_some h
  obtain ⟨hc1, hc2, hc3, hc4, hc5⟩ := cpk_spec hb
  refine r_copyI k_X7_94 rfl rfl hc1 hc2 hc3 hc4 hc5 dX7_copyFrom_96 (by omega) (Nat.le_of_ble_eq_true rfl) ?_
  replace h := lt_some h
  refine r_aload_n (i := 1) dX7_copyFrom_99 rfl rfl ?_
  refine r_getR f_X7_37 dX7_copyFrom_100 rfl rfl ?_
  refine r_iconst (v := 0) dX7_copyFrom_103 (by decide) ?_
  refine r_aload_n (i := 0) dX7_copyFrom_104 rfl rfl ?_
  refine r_getR f_X7_37 dX7_copyFrom_105 rfl rfl ?_
  refine r_iconst (v := 0) dX7_copyFrom_108 (by decide) ?_
  refine r_bipush (v := 6) dX7_copyFrom_109 (by decide) ?_
  obtain ⟨hb, h⟩ := ck_some h
  obtain ⟨hc1, hc2, hc3, hc4, hc5⟩ := cpk_spec hb
  refine r_copyI k_X7_94 rfl rfl hc1 hc2 hc3 hc4 hc5 dX7_copyFrom_111 (by omega) (Nat.le_of_ble_eq_true rfl) ?_
  replace h := lt_some h
  refine r_aload_n (i := 1) dX7_copyFrom_114 rfl rfl ?_
  refine r_getR f_X7_40 dX7_copyFrom_115 rfl rfl ?_
  refine r_iconst (v := 0) dX7_copyFrom_118 (by decide) ?_
  refine r_aload_n (i := 0) dX7_copyFrom_119 rfl rfl ?_
  refine r_getR f_X7_40 dX7_copyFrom_120 rfl rfl ?_
  refine r_iconst (v := 0) dX7_copyFrom_123 (by decide) ?_
  refine r_bipush (v := 6) dX7_copyFrom_124 (by decide) ?_
  obtain ⟨hb, h⟩ := ck_some h
  obtain ⟨hc1, hc2, hc3, hc4, hc5⟩ := cpk_spec hb
  refine r_copyI k_X7_94 rfl rfl hc1 hc2 hc3 hc4 hc5 dX7_copyFrom_126 (by omega) (Nat.le_of_ble_eq_true rfl) ?_
  replace h := lt_some h
  refine r_aload_n (i := 0) dX7_copyFrom_129 rfl rfl ?_
  refine r_aload_n (i := 1) dX7_copyFrom_130 rfl rfl ?_
  refine r_getI f_X7_69 dX7_copyFrom_131 rfl rfl ?_
  refine r_putI f_X7_69 rfl rfl dX7_copyFrom_134 rfl rfl ?_
  replace h := lt_some h
  refine r_aload_n (i := 0) dX7_copyFrom_137 rfl rfl ?_
  refine r_aload_n (i := 1) dX7_copyFrom_138 rfl rfl ?_
  refine r_getI f_X7_72 dX7_copyFrom_139 rfl rfl ?_
  refine r_putI f_X7_72 rfl rfl dX7_copyFrom_142 rfl rfl ?_
  replace h := lt_some h
  refine r_aload_n (i := 0) dX7_copyFrom_145 rfl rfl ?_
  refine r_aload_n (i := 1) dX7_copyFrom_146 rfl rfl ?_
  refine r_getI f_X7_75 dX7_copyFrom_147 rfl rfl ?_
  refine r_putI f_X7_75 rfl rfl dX7_copyFrom_150 rfl rfl ?_
  replace h := lt_some h
  refine r_aload_n (i := 0) dX7_copyFrom_153 rfl rfl ?_
  refine r_aload_n (i := 1) dX7_copyFrom_154 rfl rfl ?_
  refine r_getI f_X7_43 dX7_copyFrom_155 rfl rfl ?_
  refine r_putI f_X7_43 rfl rfl dX7_copyFrom_158 rfl rfl ?_
  replace h := lt_some h
  refine r_vret dX7_copyFrom_161 ?_
  obtain rfl := Option.some.inj h
  exact ⟨rfl, rfl, rfl⟩
def f_X10_image_0 (I : mI) (L : mL) : rI := bndV (f_X7_copyFrom_16_1 I L) (fun Ir1 Lr1 => lt (uI Ir1 0 9 1) (fun M3 => some (1, M3, Lr1)))
theorem ok_X10_image_0 {d : Nat} (hd : 3 ≤ d) {I : mI} {L : mL} {o : Int32 × mI × mL} (h : f_X10_image_0 I L = some o) : RR mX10_image d 0 [some (.ref 0)] [] I L (retQ (some (.int o.1)) o.2.1 o.2.2) := by
  unfold f_X10_image_0 at h
  refine r_aload_n (i := 0) dX10_image_0 rfl rfl ?_
  refine r_getR f_X10_16 dX10_image_1 rfl rfl ?_
  refine r_aload_n (i := 0) dX10_image_4 rfl rfl ?_
  refine r_getR f_X10_10 dX10_image_5 rfl rfl ?_
  obtain ⟨⟨Ir1, Lr1⟩, hr, h⟩ := bind_some h
  refine r_V (d' := 2) k_X10_304 dX10_image_8 (by omega) rfl rfl rfl (Nat.le_of_ble_eq_true rfl) (Nat.le_of_ble_eq_true rfl) (ok_X7_copyFrom_16_1 (Nat.le_refl _) hr) (fun v I' L' hq => ?_)
  obtain ⟨rfl, rfl, rfl⟩ := hq
  simp only [Option.toList_some, Option.toList_none, List.drop_succ_cons, List.drop_zero, List.drop_nil, List.cons_append, List.nil_append]
  dsimp only at h
  refine r_aload_n (i := 0) dX10_image_11 rfl rfl ?_
  refine r_iconst (v := 1) dX10_image_12 (by decide) ?_
  refine r_putI f_X10_307 rfl rfl dX10_image_13 rfl rfl ?_
  replace h := lt_some h
  refine r_iconst (v := 1) dX10_image_16 (by decide) ?_
  refine r_iret (by first | rfl | decide) dX10_image_17 ?_
  obtain rfl := Option.some.inj h
  exact ⟨rfl, rfl, rfl⟩
def f_X3_copyFrom_2_17 (I : mI) (L : mL) : rV := ck (cpk 0 0 8 8 8) (lt (pI I 3 (va_cpy (I 18) (I 3) (0 : Int32).toNatClampNeg (0 : Int32).toNatClampNeg (8 : Int32).toNatClampNeg)) (fun M1 => ck (cpk 0 0 32 32 32) (lt (pI M1 4 (va_cpy (M1 19) (M1 4) (0 : Int32).toNatClampNeg (0 : Int32).toNatClampNeg (32 : Int32).toNatClampNeg)) (fun M2 => ck (cpk 0 0 15 15 15) (lt (pI M2 5 (va_cpy (M2 20) (M2 5) (0 : Int32).toNatClampNeg (0 : Int32).toNatClampNeg (15 : Int32).toNatClampNeg)) (fun M3 => ck (cpk 0 0 15 15 15) (lt (pI M3 6 (va_cpy (M3 21) (M3 6) (0 : Int32).toNatClampNeg (0 : Int32).toNatClampNeg (15 : Int32).toNatClampNeg)) (fun M4 => ck (cpk 0 0 15 15 15) (lt (pI M4 7 (va_cpy (M4 22) (M4 7) (0 : Int32).toNatClampNeg (0 : Int32).toNatClampNeg (15 : Int32).toNatClampNeg)) (fun M5 => lt (uI M5 2 5 (M5 17 5)) (fun M6 => lt (uI M6 2 6 (M6 17 6)) (fun M7 => some (M7, L)))))))))))))
theorem ok_X3_copyFrom_2_17 {d : Nat} (hd : 1 ≤ d) {I : mI} {L : mL} {o : mI × mL} (h : f_X3_copyFrom_2_17 I L = some o) : RR mX3_copyFrom d 0 [some (.ref 2), some (.ref 17)] [] I L (retQ none o.1 o.2) := by
  unfold f_X3_copyFrom_2_17 at h
  refine r_aload_n (i := 1) dX3_copyFrom_0 rfl rfl ?_
  refine r_getR f_X3_9 dX3_copyFrom_1 rfl rfl ?_
  refine r_iconst (v := 0) dX3_copyFrom_4 (by decide) ?_
  refine r_aload_n (i := 0) dX3_copyFrom_5 rfl rfl ?_
  refine r_getR f_X3_9 dX3_copyFrom_6 rfl rfl ?_
  refine r_iconst (v := 0) dX3_copyFrom_9 (by decide) ?_
  refine r_bipush (v := 8) dX3_copyFrom_10 (by decide) ?_
  obtain ⟨hb, h⟩ := ck_some h
  obtain ⟨hc1, hc2, hc3, hc4, hc5⟩ := cpk_spec hb
  refine r_copyI k_X3_46 rfl rfl hc1 hc2 hc3 hc4 hc5 dX3_copyFrom_12 (by omega) (Nat.le_of_ble_eq_true rfl) ?_
  replace h := lt_some h
  refine r_aload_n (i := 1) dX3_copyFrom_15 rfl rfl ?_
  refine r_getR f_X3_15 dX3_copyFrom_16 rfl rfl ?_
  refine r_iconst (v := 0) dX3_copyFrom_19 (by decide) ?_
  refine r_aload_n (i := 0) dX3_copyFrom_20 rfl rfl ?_
  refine r_getR f_X3_15 dX3_copyFrom_21 rfl rfl ?_
  refine r_iconst (v := 0) dX3_copyFrom_24 (by decide) ?_
  refine r_bipush (v := 32) dX3_copyFrom_25 (by decide) ?_
  obtain ⟨hb, h⟩ := ck_some h
  obtain ⟨hc1, hc2, hc3, hc4, hc5⟩ := cpk_spec hb
  refine r_copyI k_X3_46 rfl rfl hc1 hc2 hc3 hc4 hc5 dX3_copyFrom_27 (by omega) (Nat.le_of_ble_eq_true rfl) ?_
  replace h := lt_some h
  refine r_aload_n (i := 1) dX3_copyFrom_30 rfl rfl ?_
  refine r_getR f_X3_18 dX3_copyFrom_31 rfl rfl ?_
  refine r_iconst (v := 0) dX3_copyFrom_34 (by decide) ?_
  refine r_aload_n (i := 0) dX3_copyFrom_35 rfl rfl ?_
  refine r_getR f_X3_18 dX3_copyFrom_36 rfl rfl ?_
  refine r_iconst (v := 0) dX3_copyFrom_39 (by decide) ?_
  refine r_bipush (v := 15) dX3_copyFrom_40 (by decide) ?_
  obtain ⟨hb, h⟩ := ck_some h
  obtain ⟨hc1, hc2, hc3, hc4, hc5⟩ := cpk_spec hb
  refine r_copyI k_X3_46 rfl rfl hc1 hc2 hc3 hc4 hc5 dX3_copyFrom_42 (by omega) (Nat.le_of_ble_eq_true rfl) ?_
  replace h := lt_some h
  refine r_aload_n (i := 1) dX3_copyFrom_45 rfl rfl ?_
  refine r_getR f_X3_21 dX3_copyFrom_46 rfl rfl ?_
  refine r_iconst (v := 0) dX3_copyFrom_49 (by decide) ?_
  refine r_aload_n (i := 0) dX3_copyFrom_50 rfl rfl ?_
  refine r_getR f_X3_21 dX3_copyFrom_51 rfl rfl ?_
  refine r_iconst (v := 0) dX3_copyFrom_54 (by decide) ?_
  refine r_bipush (v := 15) dX3_copyFrom_55 (by decide) ?_
  obtain ⟨hb, h⟩ := ck_some h
  obtain ⟨hc1, hc2, hc3, hc4, hc5⟩ := cpk_spec hb
  refine r_copyI k_X3_46 rfl rfl hc1 hc2 hc3 hc4 hc5 dX3_copyFrom_57 (by omega) (Nat.le_of_ble_eq_true rfl) ?_
  replace h := lt_some h
  refine r_aload_n (i := 1) dX3_copyFrom_60 rfl rfl ?_
  refine r_getR f_X3_24 dX3_copyFrom_61 rfl rfl ?_
  refine r_iconst (v := 0) dX3_copyFrom_64 (by decide) ?_
  refine r_aload_n (i := 0) dX3_copyFrom_65 rfl rfl ?_
  refine r_getR f_X3_24 dX3_copyFrom_66 rfl rfl ?_
  refine r_iconst (v := 0) dX3_copyFrom_69 (by decide) ?_
  refine r_bipush (v := 15) dX3_copyFrom_70 (by decide) ?_
  obtain ⟨hb, h⟩ := ck_some h
  obtain ⟨hc1, hc2, hc3, hc4, hc5⟩ := cpk_spec hb
  refine r_copyI k_X3_46 rfl rfl hc1 hc2 hc3 hc4 hc5 dX3_copyFrom_72 (by omega) (Nat.le_of_ble_eq_true rfl) ?_
  replace h := lt_some h
  refine r_aload_n (i := 0) dX3_copyFrom_75 rfl rfl ?_
  refine r_aload_n (i := 1) dX3_copyFrom_76 rfl rfl ?_
  refine r_getI f_X3_27 dX3_copyFrom_77 rfl rfl ?_
  refine r_putI f_X3_27 rfl rfl dX3_copyFrom_80 rfl rfl ?_
  replace h := lt_some h
  refine r_aload_n (i := 0) dX3_copyFrom_83 rfl rfl ?_
  refine r_aload_n (i := 1) dX3_copyFrom_84 rfl rfl ?_
  refine r_getI f_X3_31 dX3_copyFrom_85 rfl rfl ?_
  refine r_putI f_X3_31 rfl rfl dX3_copyFrom_88 rfl rfl ?_
  replace h := lt_some h
  refine r_vret dX3_copyFrom_91 ?_
  obtain rfl := Option.some.inj h
  exact ⟨rfl, rfl, rfl⟩
def f_X7_copyFrom_1_16 (I : mI) (L : mL) : rV := bndV (f_X3_copyFrom_2_17 I L) (fun Ir1 Lr1 => ck (cpk 0 0 4 4 4) (lt (pI Ir1 8 (va_cpy (Ir1 23) (Ir1 8) (0 : Int32).toNatClampNeg (0 : Int32).toNatClampNeg (4 : Int32).toNatClampNeg)) (fun M3 => ck (cpk 0 0 4 4 4) (lt (pI M3 9 (va_cpy (M3 24) (M3 9) (0 : Int32).toNatClampNeg (0 : Int32).toNatClampNeg (4 : Int32).toNatClampNeg)) (fun M4 => ck (cpk 0 0 6 6 6) (lt (pI M4 10 (va_cpy (M4 25) (M4 10) (0 : Int32).toNatClampNeg (0 : Int32).toNatClampNeg (6 : Int32).toNatClampNeg)) (fun M5 => ck (cpk 0 0 6 6 6) (lt (pI M5 11 (va_cpy (M5 26) (M5 11) (0 : Int32).toNatClampNeg (0 : Int32).toNatClampNeg (6 : Int32).toNatClampNeg)) (fun M6 => ck (cpk 0 0 6 6 6) (lt (pI M6 12 (va_cpy (M6 27) (M6 12) (0 : Int32).toNatClampNeg (0 : Int32).toNatClampNeg (6 : Int32).toNatClampNeg)) (fun M7 => ck (cpk 0 0 6 6 6) (lt (pI M7 13 (va_cpy (M7 28) (M7 13) (0 : Int32).toNatClampNeg (0 : Int32).toNatClampNeg (6 : Int32).toNatClampNeg)) (fun M8 => ck (cpk 0 0 6 6 6) (lt (pI M8 14 (va_cpy (M8 29) (M8 14) (0 : Int32).toNatClampNeg (0 : Int32).toNatClampNeg (6 : Int32).toNatClampNeg)) (fun M9 => ck (cpk 0 0 6 6 6) (lt (pI M9 15 (va_cpy (M9 30) (M9 15) (0 : Int32).toNatClampNeg (0 : Int32).toNatClampNeg (6 : Int32).toNatClampNeg)) (fun M10 => lt (uI M10 1 9 (M10 16 9)) (fun M11 => lt (uI M11 1 10 (M11 16 10)) (fun M12 => lt (uI M12 1 11 (M12 16 11)) (fun M13 => lt (uI M13 1 12 (M13 16 12)) (fun M14 => some (M14, Lr1))))))))))))))))))))))
theorem ok_X7_copyFrom_1_16 {d : Nat} (hd : 2 ≤ d) {I : mI} {L : mL} {o : mI × mL} (h : f_X7_copyFrom_1_16 I L = some o) : RR mX7_copyFrom d 0 [some (.ref 1), some (.ref 16)] [] I L (retQ none o.1 o.2) := by
  unfold f_X7_copyFrom_1_16 at h
  refine r_aload_n (i := 0) dX7_copyFrom_0 rfl rfl ?_
  refine r_getR f_X7_12 dX7_copyFrom_1 rfl rfl ?_
  refine r_aload_n (i := 1) dX7_copyFrom_4 rfl rfl ?_
  refine r_getR f_X7_12 dX7_copyFrom_5 rfl rfl ?_
  obtain ⟨⟨Ir1, Lr1⟩, hr, h⟩ := bind_some h
  refine r_V (d' := 1) k_X7_90 dX7_copyFrom_8 (by omega) rfl rfl rfl (Nat.le_of_ble_eq_true rfl) (Nat.le_of_ble_eq_true rfl) (ok_X3_copyFrom_2_17 (Nat.le_refl _) hr) (fun v I' L' hq => ?_)
  obtain ⟨rfl, rfl, rfl⟩ := hq
  simp only [Option.toList_some, Option.toList_none, List.drop_succ_cons, List.drop_zero, List.drop_nil, List.cons_append, List.nil_append]
  dsimp only at h
  refine r_aload_n (i := 1) dX7_copyFrom_11 rfl rfl ?_
  refine r_getR f_X7_18 dX7_copyFrom_12 rfl rfl ?_
  refine r_iconst (v := 0) dX7_copyFrom_15 (by decide) ?_
  refine r_aload_n (i := 0) dX7_copyFrom_16 rfl rfl ?_
  refine r_getR f_X7_18 dX7_copyFrom_17 rfl rfl ?_
  refine r_iconst (v := 0) dX7_copyFrom_20 (by decide) ?_
  refine r_iconst (v := 4) dX7_copyFrom_21 (by decide) ?_
  obtain ⟨hb, h⟩ := ck_some h
  obtain ⟨hc1, hc2, hc3, hc4, hc5⟩ := cpk_spec hb
  refine r_copyI k_X7_94 rfl rfl hc1 hc2 hc3 hc4 hc5 dX7_copyFrom_22 (by omega) (Nat.le_of_ble_eq_true rfl) ?_
  replace h := lt_some h
  refine r_aload_n (i := 1) dX7_copyFrom_25 rfl rfl ?_
  refine r_getR f_X7_22 dX7_copyFrom_26 rfl rfl ?_
  refine r_iconst (v := 0) dX7_copyFrom_29 (by decide) ?_
  refine r_aload_n (i := 0) dX7_copyFrom_30 rfl rfl ?_
  refine r_getR f_X7_22 dX7_copyFrom_31 rfl rfl ?_
  refine r_iconst (v := 0) dX7_copyFrom_34 (by decide) ?_
  refine r_iconst (v := 4) dX7_copyFrom_35 (by decide) ?_
  obtain ⟨hb, h⟩ := ck_some h
  obtain ⟨hc1, hc2, hc3, hc4, hc5⟩ := cpk_spec hb
  refine r_copyI k_X7_94 rfl rfl hc1 hc2 hc3 hc4 hc5 dX7_copyFrom_36 (by omega) (Nat.le_of_ble_eq_true rfl) ?_
  replace h := lt_some h
  refine r_aload_n (i := 1) dX7_copyFrom_39 rfl rfl ?_
  refine r_getR f_X7_25 dX7_copyFrom_40 rfl rfl ?_
  refine r_iconst (v := 0) dX7_copyFrom_43 (by decide) ?_
  refine r_aload_n (i := 0) dX7_copyFrom_44 rfl rfl ?_
  refine r_getR f_X7_25 dX7_copyFrom_45 rfl rfl ?_
  refine r_iconst (v := 0) dX7_copyFrom_48 (by decide) ?_
  refine r_bipush (v := 6) dX7_copyFrom_49 (by decide) ?_
  obtain ⟨hb, h⟩ := ck_some h
  obtain ⟨hc1, hc2, hc3, hc4, hc5⟩ := cpk_spec hb
  refine r_copyI k_X7_94 rfl rfl hc1 hc2 hc3 hc4 hc5 dX7_copyFrom_51 (by omega) (Nat.le_of_ble_eq_true rfl) ?_
  replace h := lt_some h
  refine r_aload_n (i := 1) dX7_copyFrom_54 rfl rfl ?_
  refine r_getR f_X7_28 dX7_copyFrom_55 rfl rfl ?_
  refine r_iconst (v := 0) dX7_copyFrom_58 (by decide) ?_
  refine r_aload_n (i := 0) dX7_copyFrom_59 rfl rfl ?_
  refine r_getR f_X7_28 dX7_copyFrom_60 rfl rfl ?_
  refine r_iconst (v := 0) dX7_copyFrom_63 (by decide) ?_
  refine r_bipush (v := 6) dX7_copyFrom_64 (by decide) ?_
  obtain ⟨hb, h⟩ := ck_some h
  obtain ⟨hc1, hc2, hc3, hc4, hc5⟩ := cpk_spec hb
  refine r_copyI k_X7_94 rfl rfl hc1 hc2 hc3 hc4 hc5 dX7_copyFrom_66 (by omega) (Nat.le_of_ble_eq_true rfl) ?_
  replace h := lt_some h
  refine r_aload_n (i := 1) dX7_copyFrom_69 rfl rfl ?_
  refine r_getR f_X7_31 dX7_copyFrom_70 rfl rfl ?_
  refine r_iconst (v := 0) dX7_copyFrom_73 (by decide) ?_
  refine r_aload_n (i := 0) dX7_copyFrom_74 rfl rfl ?_
  refine r_getR f_X7_31 dX7_copyFrom_75 rfl rfl ?_
  refine r_iconst (v := 0) dX7_copyFrom_78 (by decide) ?_
  refine r_bipush (v := 6) dX7_copyFrom_79 (by decide) ?_
  obtain ⟨hb, h⟩ := ck_some h
  obtain ⟨hc1, hc2, hc3, hc4, hc5⟩ := cpk_spec hb
  refine r_copyI k_X7_94 rfl rfl hc1 hc2 hc3 hc4 hc5 dX7_copyFrom_81 (by omega) (Nat.le_of_ble_eq_true rfl) ?_
  replace h := lt_some h
  refine r_aload_n (i := 1) dX7_copyFrom_84 rfl rfl ?_
  refine r_getR f_X7_34 dX7_copyFrom_85 rfl rfl ?_
  refine r_iconst (v := 0) dX7_copyFrom_88 (by decide) ?_
  refine r_aload_n (i := 0) dX7_copyFrom_89 rfl rfl ?_
  refine r_getR f_X7_34 dX7_copyFrom_90 rfl rfl ?_
  refine r_iconst (v := 0) dX7_copyFrom_93 (by decide) ?_
  refine r_bipush (v := 6) dX7_copyFrom_94 (by decide) ?_
  obtain ⟨hb, h⟩ := ck_some h
  obtain ⟨hc1, hc2, hc3, hc4, hc5⟩ := cpk_spec hb
  refine r_copyI k_X7_94 rfl rfl hc1 hc2 hc3 hc4 hc5 dX7_copyFrom_96 (by omega) (Nat.le_of_ble_eq_true rfl) ?_
  replace h := lt_some h
  refine r_aload_n (i := 1) dX7_copyFrom_99 rfl rfl ?_
  refine r_getR f_X7_37 dX7_copyFrom_100 rfl rfl ?_
  refine r_iconst (v := 0) dX7_copyFrom_103 (by decide) ?_
  refine r_aload_n (i := 0) dX7_copyFrom_104 rfl rfl ?_
  refine r_getR f_X7_37 dX7_copyFrom_105 rfl rfl ?_
  refine r_iconst (v := 0) dX7_copyFrom_108 (by decide) ?_
  refine r_bipush (v := 6) dX7_copyFrom_109 (by decide) ?_
  obtain ⟨hb, h⟩ := ck_some h
  obtain ⟨hc1, hc2, hc3, hc4, hc5⟩ := cpk_spec hb
  refine r_copyI k_X7_94 rfl rfl hc1 hc2 hc3 hc4 hc5 dX7_copyFrom_111 (by omega) (Nat.le_of_ble_eq_true rfl) ?_
  replace h := lt_some h
  refine r_aload_n (i := 1) dX7_copyFrom_114 rfl rfl ?_
  refine r_getR f_X7_40 dX7_copyFrom_115 rfl rfl ?_
  refine r_iconst (v := 0) dX7_copyFrom_118 (by decide) ?_
  refine r_aload_n (i := 0) dX7_copyFrom_119 rfl rfl ?_
  refine r_getR f_X7_40 dX7_copyFrom_120 rfl rfl ?_
  refine r_iconst (v := 0) dX7_copyFrom_123 (by decide) ?_
  refine r_bipush (v := 6) dX7_copyFrom_124 (by decide) ?_
  obtain ⟨hb, h⟩ := ck_some h
  obtain ⟨hc1, hc2, hc3, hc4, hc5⟩ := cpk_spec hb
  refine r_copyI k_X7_94 rfl rfl hc1 hc2 hc3 hc4 hc5 dX7_copyFrom_126 (by omega) (Nat.le_of_ble_eq_true rfl) ?_
  replace h := lt_some h
  refine r_aload_n (i := 0) dX7_copyFrom_129 rfl rfl ?_
  refine r_aload_n (i := 1) dX7_copyFrom_130 rfl rfl ?_
  refine r_getI f_X7_69 dX7_copyFrom_131 rfl rfl ?_
  refine r_putI f_X7_69 rfl rfl dX7_copyFrom_134 rfl rfl ?_
  replace h := lt_some h
  refine r_aload_n (i := 0) dX7_copyFrom_137 rfl rfl ?_
  refine r_aload_n (i := 1) dX7_copyFrom_138 rfl rfl ?_
  refine r_getI f_X7_72 dX7_copyFrom_139 rfl rfl ?_
  refine r_putI f_X7_72 rfl rfl dX7_copyFrom_142 rfl rfl ?_
  replace h := lt_some h
  refine r_aload_n (i := 0) dX7_copyFrom_145 rfl rfl ?_
  refine r_aload_n (i := 1) dX7_copyFrom_146 rfl rfl ?_
  refine r_getI f_X7_75 dX7_copyFrom_147 rfl rfl ?_
  refine r_putI f_X7_75 rfl rfl dX7_copyFrom_150 rfl rfl ?_
  replace h := lt_some h
  refine r_aload_n (i := 0) dX7_copyFrom_153 rfl rfl ?_
  refine r_aload_n (i := 1) dX7_copyFrom_154 rfl rfl ?_
  refine r_getI f_X7_43 dX7_copyFrom_155 rfl rfl ?_
  refine r_putI f_X7_43 rfl rfl dX7_copyFrom_158 rfl rfl ?_
  replace h := lt_some h
  refine r_vret dX7_copyFrom_161 ?_
  obtain rfl := Option.some.inj h
  exact ⟨rfl, rfl, rfl⟩
def f_X10_restore_0 (I : mI) (L : mL) : rI := if (I 0 9) = 0 then (some ((-4), I, L)) else (bndV (f_X7_copyFrom_1_16 I L) (fun Ir1 Lr1 => some (1, Ir1, Lr1)))
theorem ok_X10_restore_0 {d : Nat} (hd : 3 ≤ d) {I : mI} {L : mL} {o : Int32 × mI × mL} (h : f_X10_restore_0 I L = some o) : RR mX10_restore d 0 [some (.ref 0)] [] I L (retQ (some (.int o.1)) o.2.1 o.2.2) := by
  unfold f_X10_restore_0 at h
  refine r_aload_n (i := 0) dX10_restore_0 rfl rfl ?_
  refine r_getI f_X10_307 dX10_restore_1 rfl rfl ?_
  refine r_if_ne (tgt := 10) dX10_restore_4 (by decide) (fun c => ?_) (fun c => ?_)
  · rw [if_neg c] at h
    refine r_aload_n (i := 0) dX10_restore_10 rfl rfl ?_
    refine r_getR f_X10_10 dX10_restore_11 rfl rfl ?_
    refine r_aload_n (i := 0) dX10_restore_14 rfl rfl ?_
    refine r_getR f_X10_16 dX10_restore_15 rfl rfl ?_
    obtain ⟨⟨Ir1, Lr1⟩, hr, h⟩ := bind_some h
    refine r_V (d' := 2) k_X10_304 dX10_restore_18 (by omega) rfl rfl rfl (Nat.le_of_ble_eq_true rfl) (Nat.le_of_ble_eq_true rfl) (ok_X7_copyFrom_1_16 (Nat.le_refl _) hr) (fun v I' L' hq => ?_)
    obtain ⟨rfl, rfl, rfl⟩ := hq
    simp only [Option.toList_some, Option.toList_none, List.drop_succ_cons, List.drop_zero, List.drop_nil, List.cons_append, List.nil_append]
    dsimp only at h
    refine r_iconst (v := 1) dX10_restore_21 (by decide) ?_
    refine r_iret (by first | rfl | decide) dX10_restore_22 ?_
    obtain rfl := Option.some.inj h
    exact ⟨rfl, rfl, rfl⟩
  · rw [if_pos c] at h
    refine r_bipush (v := (-4)) dX10_restore_7 (by decide) ?_
    refine r_iret (by first | rfl | decide) dX10_restore_9 ?_
    obtain rfl := Option.some.inj h
    exact ⟨rfl, rfl, rfl⟩
def f_X6_isSheet (I : mI) (L : mL) (a0 : Int32) : Option Int32 := if a0 < 0 then (some 0) else (if 4 ≤ a0 then (some 0) else (some 1))
theorem ok_X6_isSheet {d : Nat} (hd : 0 ≤ d) {I : mI} {L : mL} {a0 : Int32} {o : Int32} (h : f_X6_isSheet I L a0 = some o) : RR mX6_isSheet d 0 [some (.int a0)] [] I L (retQ (some (.int o)) I L) := by
  unfold f_X6_isSheet at h
  refine r_iload_n (i := 0) dX6_isSheet_0 rfl rfl ?_
  refine r_if_lt (tgt := 13) dX6_isSheet_1 (by decide) (fun c => ?_) (fun c => ?_)
  · rw [if_pos c] at h
    refine r_iconst (v := 0) dX6_isSheet_13 (by decide) ?_
    refine r_iret (by first | rfl | decide) dX6_isSheet_14 ?_
    obtain rfl := Option.some.inj h
    exact ⟨rfl, rfl, rfl⟩
  · rw [if_neg c] at h
    refine r_iload_n (i := 0) dX6_isSheet_4 rfl rfl ?_
    refine r_iconst (v := 4) dX6_isSheet_5 (by decide) ?_
    refine r_icmp_ge (tgt := 13) dX6_isSheet_6 (by decide) (fun c => ?_) (fun c => ?_)
    · rw [if_pos c] at h
      refine r_iconst (v := 0) dX6_isSheet_13 (by decide) ?_
      refine r_iret (by first | rfl | decide) dX6_isSheet_14 ?_
      obtain rfl := Option.some.inj h
      exact ⟨rfl, rfl, rfl⟩
    · rw [if_neg c] at h
      refine r_iconst (v := 1) dX6_isSheet_9 (by decide) ?_
      refine r_goto (tgt := 14) dX6_isSheet_10 (by decide) ?_
      refine r_iret (by first | rfl | decide) dX6_isSheet_14 ?_
      obtain rfl := Option.some.inj h
      exact ⟨rfl, rfl, rfl⟩
