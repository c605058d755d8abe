def f_X11_isTwo (I : mI) (L : mL) (a0 : Int32) : Option Int32 := (f_X11_in I L (a0.toInt64) 0 1).bind (fun r1 => ck (isb r1) (some r1))
theorem ok_X11_isTwo {d : Nat} (hd : 1 ≤ d) {I : mI} {L : mL} {a0 : Int32} {o : Int32} (h : f_X11_isTwo I L a0 = some o) : RR mX11_isTwo d 0 [some (.int a0)] [] I L (retQ (some (.int o)) I L) := by
  unfold f_X11_isTwo at h
  refine r_iload_n (i := 0) dX11_isTwo_0 rfl rfl ?_
  refine r_i2l dX11_isTwo_1 ?_
  refine r_lconst (v := 0) dX11_isTwo_2 (by decide) ?_
  refine r_lconst (v := 1) dX11_isTwo_3 (by decide) ?_
  obtain ⟨r1, hr, h⟩ := bind_some h
  refine r_S (d' := 0) k_X11_50 dX11_isTwo_4 (by omega) rfl (Nat.le_of_ble_eq_true rfl) (Nat.le_of_ble_eq_true rfl) (ok_X11_in (Nat.le_refl _) hr) (fun v I' L' hq => ?_)
  obtain ⟨rfl, rfl, rfl⟩ := hq
  simp only [Option.toList_some, Option.toList_none, List.drop_succ_cons, List.drop_zero, List.drop_nil, List.cons_append, List.nil_append]
  obtain ⟨hb, h⟩ := ck_some h
  refine r_iret (isb_nar hb) dX11_isTwo_7 ?_
  obtain rfl := Option.some.inj h
  exact ⟨rfl, rfl, rfl⟩
def f_X11_season_67 (I : mI) (L : mL) : Option Int32 := some (((I 68 (5 : Int32).toNatClampNeg) / 13) - ((I 68 (5 : Int32).toNatClampNeg) / 13) / 4 * 4)
theorem ok_X11_season_67 {d : Nat} (hd : 0 ≤ d) {I : mI} {L : mL} {o : Int32} (h : f_X11_season_67 I L = some o) : RR mX11_season d 0 [some (.ref 67)] [] I L (retQ (some (.int o)) I L) := by
  unfold f_X11_season_67 at h
  refine r_aload_n (i := 0) dX11_season_0 rfl rfl ?_
  refine r_getR f_X11_7 dX11_season_1 rfl rfl ?_
  refine r_iconst (v := 5) dX11_season_4 (by decide) ?_
  refine r_iald rfl (vp_lit (by decide)) dX11_season_5 ?_
  refine r_bipush (v := 13) dX11_season_6 (by decide) ?_
  refine r_idiv dX11_season_8 (by decide) ?_
  refine r_iconst (v := 4) dX11_season_9 (by decide) ?_
  refine r_irem dX11_season_10 (by decide) ?_
  refine r_iret (by first | rfl | decide) dX11_season_11 ?_
  obtain rfl := Option.some.inj h
  exact ⟨rfl, rfl, rfl⟩
def f_X11_weightBy (I : mI) (L : mL) (a0 : Int32) (a1 : Int32) (a2 : Int32) : Option Int32 := lt (a2 * a1) (fun v1 => if a0 = 1 then (some (v1 + a2)) else (if a0 = 2 then (some 0) else (if a0 = 3 then (some ((v1 + a2) / 2)) else (some v1))))
theorem ok_X11_weightBy {d : Nat} (hd : 0 ≤ d) {I : mI} {L : mL} {a0 : Int32} {a1 : Int32} {a2 : Int32} {o : Int32} (h : f_X11_weightBy I L a0 a1 a2 = some o) : RR mX11_weightBy d 0 [some (.int a0), some (.int a1), some (.int a2), none] [] I L (retQ (some (.int o)) I L) := by
  unfold f_X11_weightBy at h
  refine r_iload_n (i := 2) dX11_weightBy_0 rfl rfl ?_
  refine r_iload_n (i := 1) dX11_weightBy_1 rfl rfl ?_
  refine r_imul dX11_weightBy_2 ?_
  refine r_istore_n (i := 3) dX11_weightBy_3 rfl (by decide) rfl ?_
  simp only [List.set_cons_zero, List.set_cons_succ]
  replace h := lt_some h
  refine r_iload_n (i := 0) dX11_weightBy_4 rfl rfl ?_
  refine r_iconst (v := 1) dX11_weightBy_5 (by decide) ?_
  refine r_icmp_ne (tgt := 15) dX11_weightBy_6 (by decide) (fun c => ?_) (fun c => ?_)
  · rw [if_neg c] at h
    refine r_iload_n (i := 0) dX11_weightBy_15 rfl rfl ?_
    refine r_iconst (v := 2) dX11_weightBy_16 (by decide) ?_
    refine r_icmp_ne (tgt := 24) dX11_weightBy_17 (by decide) (fun c => ?_) (fun c => ?_)
    · rw [if_neg c] at h
      refine r_iload_n (i := 0) dX11_weightBy_24 rfl rfl ?_
      refine r_iconst (v := 3) dX11_weightBy_25 (by decide) ?_
      refine r_icmp_ne (tgt := 37) dX11_weightBy_26 (by decide) (fun c => ?_) (fun c => ?_)
      · rw [if_neg c] at h
        refine r_iload_n (i := 3) dX11_weightBy_37 rfl rfl ?_
        refine r_iret (by first | rfl | decide) dX11_weightBy_38 ?_
        obtain rfl := Option.some.inj h
        exact ⟨rfl, rfl, rfl⟩
      · rw [if_pos c] at h
        refine r_iload_n (i := 3) dX11_weightBy_29 rfl rfl ?_
        refine r_iload_n (i := 2) dX11_weightBy_30 rfl rfl ?_
        refine r_iadd dX11_weightBy_31 ?_
        refine r_iconst (v := 2) dX11_weightBy_32 (by decide) ?_
        refine r_idiv dX11_weightBy_33 (by decide) ?_
        refine r_goto (tgt := 38) dX11_weightBy_34 (by decide) ?_
        refine r_iret (by first | rfl | decide) dX11_weightBy_38 ?_
        obtain rfl := Option.some.inj h
        exact ⟨rfl, rfl, rfl⟩
    · rw [if_pos c] at h
      refine r_iconst (v := 0) dX11_weightBy_20 (by decide) ?_
      refine r_goto (tgt := 38) dX11_weightBy_21 (by decide) ?_
      refine r_iret (by first | rfl | decide) dX11_weightBy_38 ?_
      obtain rfl := Option.some.inj h
      exact ⟨rfl, rfl, rfl⟩
  · rw [if_pos c] at h
    refine r_iload_n (i := 3) dX11_weightBy_9 rfl rfl ?_
    refine r_iload_n (i := 2) dX11_weightBy_10 rfl rfl ?_
    refine r_iadd dX11_weightBy_11 ?_
    refine r_goto (tgt := 38) dX11_weightBy_12 (by decide) ?_
    refine r_iret (by first | rfl | decide) dX11_weightBy_38 ?_
    obtain rfl := Option.some.inj h
    exact ⟨rfl, rfl, rfl⟩
def f_X11_weight_67 (I : mI) (L : mL) (a1 : Int32) (a2 : Int32) : Option Int32 := ck (inb (6 + a1) 135) ((f_X11_season_67 I L).bind (fun r1 => ck (inb ((14 + (4 * a1)) + r1) 135) ((f_X11_weightBy I L (I 68 (6 + a1).toNatClampNeg) (I 68 ((14 + (4 * a1)) + r1).toNatClampNeg) a2).bind (fun r2 => some r2))))
theorem ok_X11_weight_67 {d : Nat} (hd : 1 ≤ d) {I : mI} {L : mL} {a1 : Int32} {a2 : Int32} {o : Int32} (h : f_X11_weight_67 I L a1 a2 = some o) : RR mX11_weight d 0 [some (.ref 67), some (.int a1), some (.int a2)] [] I L (retQ (some (.int o)) I L) := by
  unfold f_X11_weight_67 at h
  refine r_aload_n (i := 0) dX11_weight_0 rfl rfl ?_
  refine r_getR f_X11_7 dX11_weight_1 rfl rfl ?_
  refine r_bipush (v := 6) dX11_weight_4 (by decide) ?_
  refine r_iload_n (i := 1) dX11_weight_6 rfl rfl ?_
  refine r_iadd dX11_weight_7 ?_
  obtain ⟨hb, h⟩ := ck_some h
  refine r_iald rfl (inb_vp hb) dX11_weight_8 ?_
  refine r_aload_n (i := 0) dX11_weight_9 rfl rfl ?_
  refine r_getR f_X11_7 dX11_weight_10 rfl rfl ?_
  refine r_bipush (v := 14) dX11_weight_13 (by decide) ?_
  refine r_iconst (v := 4) dX11_weight_15 (by decide) ?_
  refine r_iload_n (i := 1) dX11_weight_16 rfl rfl ?_
  refine r_imul dX11_weight_17 ?_
  refine r_iadd dX11_weight_18 ?_
  refine r_aload_n (i := 0) dX11_weight_19 rfl rfl ?_
  obtain ⟨r1, hr, h⟩ := bind_some h
  refine r_V (d' := 0) k_X11_54 dX11_weight_20 (by omega) rfl rfl rfl (Nat.le_of_ble_eq_true rfl) (Nat.le_of_ble_eq_true rfl) (ok_X11_season_67 (Nat.le_refl _) hr) (fun v I' L' hq => ?_)
  obtain ⟨rfl, rfl, rfl⟩ := hq
  simp only [Option.toList_some, Option.toList_none, List.drop_succ_cons, List.drop_zero, List.drop_nil, List.cons_append, List.nil_append]
  refine r_iadd dX11_weight_23 ?_
  obtain ⟨hb, h⟩ := ck_some h
  refine r_iald rfl (inb_vp hb) dX11_weight_24 ?_
  refine r_iload_n (i := 2) dX11_weight_25 rfl rfl ?_
  obtain ⟨r2, hr, h⟩ := bind_some h
  refine r_S (d' := 0) k_X11_58 dX11_weight_26 (by omega) rfl (Nat.le_of_ble_eq_true rfl) (Nat.le_of_ble_eq_true rfl) (ok_X11_weightBy (Nat.le_refl _) hr) (fun v I' L' hq => ?_)
  obtain ⟨rfl, rfl, rfl⟩ := hq
  simp only [Option.toList_some, Option.toList_none, List.drop_succ_cons, List.drop_zero, List.drop_nil, List.cons_append, List.nil_append]
  refine r_iret (by first | rfl | decide) dX11_weight_29 ?_
  obtain rfl := Option.some.inj h
  exact ⟨rfl, rfl, rfl⟩
def f_X11_joins_67_l19 : Nat → Int32 → Int32 → mI → mL → rI
  | 0, _, _, _, _ => none
  | n + 1, x2, x3, I, L => if 4 ≤ x3 then (lt (uI I 68 (0 : Int32).toNatClampNeg ((I 68 (0 : Int32).toNatClampNeg) + 1)) (fun M3 => some (x2, M3, L))) else (ck (inb ((14 + (4 * x2)) + x3) 135) (lt (uI I 68 ((14 + (4 * x2)) + x3).toNatClampNeg 5) (fun M4 => lt (x3 + Int32.ofInt 1) (fun v5 => f_X11_joins_67_l19 n x2 v5 M4 L))))
theorem ok_X11_joins_67_l19 {d : Nat} (hd : 0 ≤ d) : ∀ (n : Nat) (x2 : Int32) (x3 : Int32) (I : mI) (L : mL) (o : Int32 × mI × mL), f_X11_joins_67_l19 n x2 x3 I L = some o → RR mX11_joins d 19 [some (.ref 67), none, some (.int x2), some (.int x3)] [] I L (retQ (some (.int o.1)) o.2.1 o.2.2) := by
  intro n
  induction n with
  | zero => intro x2 x3 I L o h; rw [f_X11_joins_67_l19] at h; cases h
  | succ n ih =>
    intro x2 x3 I L o h
    rw [f_X11_joins_67_l19] at h
    refine r_iload_n (i := 3) dX11_joins_19 rfl rfl ?_
    refine r_iconst (v := 4) dX11_joins_20 (by decide) ?_
    refine r_icmp_ge (tgt := 44) dX11_joins_21 (by decide) (fun c => ?_) (fun c => ?_)
    · rw [if_pos c] at h
      refine r_aload_n (i := 0) dX11_joins_44 rfl rfl ?_
      refine r_getR f_X11_7 dX11_joins_45 rfl rfl ?_
      refine r_iconst (v := 0) dX11_joins_48 (by decide) ?_
      refine r_dup2 dX11_joins_49 rfl rfl ?_
      refine r_iald rfl (vp_lit (by decide)) dX11_joins_50 ?_
      refine r_iconst (v := 1) dX11_joins_51 (by decide) ?_
      refine r_iadd dX11_joins_52 ?_
      refine r_iast rfl (vp_lit (by decide)) dX11_joins_53 ?_
      replace h := lt_some h
      refine r_iload_n (i := 2) dX11_joins_54 rfl rfl ?_
      refine r_iret (by first | rfl | decide) dX11_joins_55 ?_
      obtain rfl := Option.some.inj h
      exact ⟨rfl, rfl, rfl⟩
    · rw [if_neg c] at h
      refine r_aload_n (i := 0) dX11_joins_24 rfl rfl ?_
      refine r_getR f_X11_7 dX11_joins_25 rfl rfl ?_
      refine r_bipush (v := 14) dX11_joins_28 (by decide) ?_
      refine r_iconst (v := 4) dX11_joins_30 (by decide) ?_
      refine r_iload_n (i := 2) dX11_joins_31 rfl rfl ?_
      refine r_imul dX11_joins_32 ?_
      refine r_iadd dX11_joins_33 ?_
      refine r_iload_n (i := 3) dX11_joins_34 rfl rfl ?_
      refine r_iadd dX11_joins_35 ?_
      refine r_iconst (v := 5) dX11_joins_36 (by decide) ?_
      obtain ⟨hb, h⟩ := ck_some h
      refine r_iast rfl (inb_vp hb) dX11_joins_37 ?_
      replace h := lt_some h
      refine r_iinc (v := _) dX11_joins_38 rfl rfl (by decide) rfl ?_
      simp only [List.set_cons_zero, List.set_cons_succ]
      replace h := lt_some h
      refine r_goto (tgt := 19) dX11_joins_41 (by decide) ?_
      exact RR.wk (ih _ _ _ _ _ h) (And.intro rfl (And.intro rfl (And.intro rfl (trivial))))
def f_X11_joins_67 (I : mI) (L : mL) (a1 : Int32) : rI := lt (I 68 (0 : Int32).toNatClampNeg) (fun v1 => ck (inb (6 + v1) 135) (lt (uI I 68 (6 + v1).toNatClampNeg a1) (fun M2 => f_X11_joins_67_l19 fuel v1 0 M2 L)))
theorem ok_X11_joins_67 {d : Nat} (hd : 0 ≤ d) {I : mI} {L : mL} {a1 : Int32} {o : Int32 × mI × mL} (h : f_X11_joins_67 I L a1 = some o) : RR mX11_joins d 0 [some (.ref 67), some (.int a1), none, none] [] I L (retQ (some (.int o.1)) o.2.1 o.2.2) := by
  unfold f_X11_joins_67 at h
  refine r_aload_n (i := 0) dX11_joins_0 rfl rfl ?_
  refine r_getR f_X11_7 dX11_joins_1 rfl rfl ?_
  refine r_iconst (v := 0) dX11_joins_4 (by decide) ?_
  refine r_iald rfl (vp_lit (by decide)) dX11_joins_5 ?_
  refine r_istore_n (i := 2) dX11_joins_6 rfl (by decide) rfl ?_
  simp only [List.set_cons_zero, List.set_cons_succ]
  replace h := lt_some h
  refine r_aload_n (i := 0) dX11_joins_7 rfl rfl ?_
  refine r_getR f_X11_7 dX11_joins_8 rfl rfl ?_
  refine r_bipush (v := 6) dX11_joins_11 (by decide) ?_
  refine r_iload_n (i := 2) dX11_joins_13 rfl rfl ?_
  refine r_iadd dX11_joins_14 ?_
  refine r_iload_n (i := 1) dX11_joins_15 rfl rfl ?_
  obtain ⟨hb, h⟩ := ck_some h
  refine r_iast rfl (inb_vp hb) dX11_joins_16 ?_
  replace h := lt_some h
  refine r_iconst (v := 0) dX11_joins_17 (by decide) ?_
  refine r_istore_n (i := 3) dX11_joins_18 rfl (by decide) rfl ?_
  simp only [List.set_cons_zero, List.set_cons_succ]
  exact RR.wk (ok_X11_joins_67_l19 hd _ _ _ _ _ _ h) (And.intro rfl (And.intro rfl (And.intro rfl (trivial))))
def f_X11_parish_67 (I : mI) (L : mL) (a1 : Int32) : rI := (f_X11_in I L (a1.toInt64) 0 3).bind (fun r1 => if r1 = 0 then (some ((-1), I, L)) else (if (I 68 (0 : Int32).toNatClampNeg) = 8 then (some ((-3), I, L)) else (bndI (f_X11_joins_67 I L a1) (fun r2 Ir2 Lr2 => some (r2, Ir2, Lr2)))))
theorem ok_X11_parish_67 {d : Nat} (hd : 1 ≤ d) {I : mI} {L : mL} {a1 : Int32} {o : Int32 × mI × mL} (h : f_X11_parish_67 I L a1 = some o) : RR mX11_parish d 0 [some (.ref 67), some (.int a1)] [] I L (retQ (some (.int o.1)) o.2.1 o.2.2) := by
  unfold f_X11_parish_67 at h
  refine r_iload_n (i := 1) dX11_parish_0 rfl rfl ?_
  refine r_i2l dX11_parish_1 ?_
  refine r_lconst (v := 0) dX11_parish_2 (by decide) ?_
  refine r_ldc2 n_X11_62 dX11_parish_3 ?_
  obtain ⟨r1, hr, h⟩ := bind_some h
  refine r_S (d' := 0) k_X11_50 dX11_parish_6 (by omega) rfl (Nat.le_of_ble_eq_true rfl) (Nat.le_of_ble_eq_true rfl) (ok_X11_in (Nat.le_refl _) hr) (fun v I' L' hq => ?_)
  obtain ⟨rfl, rfl, rfl⟩ := hq
  simp only [Option.toList_some, Option.toList_none, List.drop_succ_cons, List.drop_zero, List.drop_nil, List.cons_append, List.nil_append]
  refine r_if_ne (tgt := 14) dX11_parish_9 (by decide) (fun c => ?_) (fun c => ?_)
  · rw [if_neg c] at h
    refine r_aload_n (i := 0) dX11_parish_14 rfl rfl ?_
    refine r_getR f_X11_7 dX11_parish_15 rfl rfl ?_
    refine r_iconst (v := 0) dX11_parish_18 (by decide) ?_
    refine r_iald rfl (vp_lit (by decide)) dX11_parish_19 ?_
    refine r_bipush (v := 8) dX11_parish_20 (by decide) ?_
    refine r_icmp_ne (tgt := 30) dX11_parish_22 (by decide) (fun c => ?_) (fun c => ?_)
    · rw [if_neg c] at h
      refine r_aload_n (i := 0) dX11_parish_30 rfl rfl ?_
      refine r_iload_n (i := 1) dX11_parish_31 rfl rfl ?_
      obtain ⟨⟨r2, Ir2, Lr2⟩, hr, h⟩ := bind_some h
      refine r_V (d' := 0) k_X11_64 dX11_parish_32 (by omega) rfl rfl rfl (Nat.le_of_ble_eq_true rfl) (Nat.le_of_ble_eq_true rfl) (ok_X11_joins_67 (Nat.le_refl _) hr) (fun v I' L' hq => ?_)
      obtain ⟨rfl, rfl, rfl⟩ := hq
      simp only [Option.toList_some, Option.toList_none, List.drop_succ_cons, List.drop_zero, List.drop_nil, List.cons_append, List.nil_append]
      dsimp only at h
      refine r_iret (by first | rfl | decide) dX11_parish_35 ?_
      obtain rfl := Option.some.inj h
      exact ⟨rfl, rfl, rfl⟩
    · rw [if_pos c] at h
      refine r_bipush (v := (-3)) dX11_parish_25 (by decide) ?_
      refine r_goto (tgt := 35) dX11_parish_27 (by decide) ?_
      refine r_iret (by first | rfl | decide) dX11_parish_35 ?_
      obtain rfl := Option.some.inj h
      exact ⟨rfl, rfl, rfl⟩
  · rw [if_pos c] at h
    refine r_iconst (v := (-1)) dX11_parish_12 (by decide) ?_
    refine r_iret (by first | rfl | decide) dX11_parish_13 ?_
    obtain rfl := Option.some.inj h
    exact ⟨rfl, rfl, rfl⟩
def f_X11_pull_67 (I : mI) (L : mL) (a1 : Int32) (a2 : Int32) (a3 : Int32) : rI := (f_X11_isParish_67 I L a1).bind (fun r1 => if r1 = 0 then (some ((-1), I, L)) else ((f_X11_in I L (a2.toInt64) 0 3).bind (fun r2 => if r2 = 0 then (some ((-1), I, L)) else ((f_X11_in I L (a3.toInt64) 1 9).bind (fun r3 => if r3 = 0 then (some ((-1), I, L)) else (ck (inb ((14 + (4 * a1)) + a2) 135) (lt (I 68 ((14 + (4 * a1)) + a2).toNatClampNeg) (fun v4 => ck (inb ((14 + (4 * a1)) + a2) 135) (lt (uI I 68 ((14 + (4 * a1)) + a2).toNatClampNeg a3) (fun M5 => some (v4, M5, L)))))))))))
theorem ok_X11_pull_67 {d : Nat} (hd : 2 ≤ d) {I : mI} {L : mL} {a1 : Int32} {a2 : Int32} {a3 : Int32} {o : Int32 × mI × mL} (h : f_X11_pull_67 I L a1 a2 a3 = some o) : RR mX11_pull d 0 [some (.ref 67), some (.int a1), some (.int a2), some (.int a3), none] [] I L (retQ (some (.int o.1)) o.2.1 o.2.2) := by
  unfold f_X11_pull_67 at h
  refine r_aload_n (i := 0) dX11_pull_0 rfl rfl ?_
  refine r_iload_n (i := 1) dX11_pull_1 rfl rfl ?_
  obtain ⟨r1, hr, h⟩ := bind_some h
  refine r_V (d' := 1) k_X11_68 dX11_pull_2 (by omega) rfl rfl rfl (Nat.le_of_ble_eq_true rfl) (Nat.le_of_ble_eq_true rfl) (ok_X11_isParish_67 (Nat.le_refl _) hr) (fun v I' L' hq => ?_)
  obtain ⟨rfl, rfl, rfl⟩ := hq
  simp only [Option.toList_some, Option.toList_none, List.drop_succ_cons, List.drop_zero, List.drop_nil, List.cons_append, List.nil_append]
  refine r_if_eq (tgt := 32) dX11_pull_5 (by decide) (fun c => ?_) (fun c => ?_)
  · rw [if_pos c] at h
    refine r_iconst (v := (-1)) dX11_pull_32 (by decide) ?_
    refine r_iret (by first | rfl | decide) dX11_pull_33 ?_
    obtain rfl := Option.some.inj h
    exact ⟨rfl, rfl, rfl⟩
  · rw [if_neg c] at h
    refine r_iload_n (i := 2) dX11_pull_8 rfl rfl ?_
    refine r_i2l dX11_pull_9 ?_
    refine r_lconst (v := 0) dX11_pull_10 (by decide) ?_
    refine r_ldc2 n_X11_62 dX11_pull_11 ?_
    obtain ⟨r2, hr, h⟩ := bind_some h
    refine r_S (d' := 0) k_X11_50 dX11_pull_14 (by omega) rfl (Nat.le_of_ble_eq_true rfl) (Nat.le_of_ble_eq_true rfl) (ok_X11_in (Nat.le_refl _) hr) (fun v I' L' hq => ?_)
    obtain ⟨rfl, rfl, rfl⟩ := hq
    simp only [Option.toList_some, Option.toList_none, List.drop_succ_cons, List.drop_zero, List.drop_nil, List.cons_append, List.nil_append]
    refine r_if_eq (tgt := 32) dX11_pull_17 (by decide) (fun c => ?_) (fun c => ?_)
    · rw [if_pos c] at h
      refine r_iconst (v := (-1)) dX11_pull_32 (by decide) ?_
      refine r_iret (by first | rfl | decide) dX11_pull_33 ?_
      obtain rfl := Option.some.inj h
      exact ⟨rfl, rfl, rfl⟩
    · rw [if_neg c] at h
      refine r_iload_n (i := 3) dX11_pull_20 rfl rfl ?_
      refine r_i2l dX11_pull_21 ?_
      refine r_lconst (v := 1) dX11_pull_22 (by decide) ?_
      refine r_ldc2 n_X11_72 dX11_pull_23 ?_
      obtain ⟨r3, hr, h⟩ := bind_some h
      refine r_S (d' := 0) k_X11_50 dX11_pull_26 (by omega) rfl (Nat.le_of_ble_eq_true rfl) (Nat.le_of_ble_eq_true rfl) (ok_X11_in (Nat.le_refl _) hr) (fun v I' L' hq => ?_)
      obtain ⟨rfl, rfl, rfl⟩ := hq
      simp only [Option.toList_some, Option.toList_none, List.drop_succ_cons, List.drop_zero, List.drop_nil, List.cons_append, List.nil_append]
      refine r_if_ne (tgt := 34) dX11_pull_29 (by decide) (fun c => ?_) (fun c => ?_)
      · rw [if_neg c] at h
        refine r_aload_n (i := 0) dX11_pull_34 rfl rfl ?_
        refine r_getR f_X11_7 dX11_pull_35 rfl rfl ?_
        refine r_bipush (v := 14) dX11_pull_38 (by decide) ?_
        refine r_iconst (v := 4) dX11_pull_40 (by decide) ?_
        refine r_iload_n (i := 1) dX11_pull_41 rfl rfl ?_
        refine r_imul dX11_pull_42 ?_
        refine r_iadd dX11_pull_43 ?_
        refine r_iload_n (i := 2) dX11_pull_44 rfl rfl ?_
        refine r_iadd dX11_pull_45 ?_
        obtain ⟨hb, h⟩ := ck_some h
        refine r_iald rfl (inb_vp hb) dX11_pull_46 ?_
        refine r_istore dX11_pull_47 (by decide) rfl ?_
        simp only [List.set_cons_zero, List.set_cons_succ]
        replace h := lt_some h
        refine r_aload_n (i := 0) dX11_pull_49 rfl rfl ?_
        refine r_getR f_X11_7 dX11_pull_50 rfl rfl ?_
        refine r_bipush (v := 14) dX11_pull_53 (by decide) ?_
        refine r_iconst (v := 4) dX11_pull_55 (by decide) ?_
        refine r_iload_n (i := 1) dX11_pull_56 rfl rfl ?_
        refine r_imul dX11_pull_57 ?_
        refine r_iadd dX11_pull_58 ?_
        refine r_iload_n (i := 2) dX11_pull_59 rfl rfl ?_
        refine r_iadd dX11_pull_60 ?_
        refine r_iload_n (i := 3) dX11_pull_61 rfl rfl ?_
        obtain ⟨hb, h⟩ := ck_some h
        refine r_iast rfl (inb_vp hb) dX11_pull_62 ?_
        replace h := lt_some h
        refine r_iload dX11_pull_63 rfl ?_
        refine r_iret (by first | rfl | decide) dX11_pull_65 ?_
        obtain rfl := Option.some.inj h
        exact ⟨rfl, rfl, rfl⟩
      · rw [if_pos c] at h
        refine r_iconst (v := (-1)) dX11_pull_32 (by decide) ?_
        refine r_iret (by first | rfl | decide) dX11_pull_33 ?_
        obtain rfl := Option.some.inj h
        exact ⟨rfl, rfl, rfl⟩
def f_X11_roadOf_67_b77 (I : mI) (L : mL) (k5 : Int32 → Int32 → Int32 → Int32 → Option Int32) (x1 : Int32) (x2 : Int32) (x3 : Int32) (x4 : Int32) (s0 : Int32) : Option Int32 := if s0 = 0 then (lt (x4 + Int32.ofInt 1) (fun v1 => k5 x1 x2 x3 v1)) else (lt (x4 + Int32.ofInt 1) (fun v2 => k5 x1 x2 x4 v2))
theorem ok_X11_roadOf_67_b77 {d : Nat} (hd : 0 ≤ d){I : mI} {L : mL} {k5 : Int32 → Int32 → Int32 → Int32 → Option Int32} (hk5 : ∀ (x1 : Int32) (x2 : Int32) (x3 : Int32) (x4 : Int32) (o : Int32), k5 x1 x2 x3 x4 = some o → RR mX11_roadOf d 5 [some (.ref 67), some (.int x1), some (.int x2), some (.int x3), some (.int x4), none] [] I L (retQ (some (.int o)) I L)) (x1 : Int32) (x2 : Int32) (x3 : Int32) (x4 : Int32) (s0 : Int32) {o : Int32} (h : f_X11_roadOf_67_b77 I L k5 x1 x2 x3 x4 s0 = some o) : RR mX11_roadOf d 77 [some (.ref 67), some (.int x1), some (.int x2), some (.int x3), some (.int x4), none] [.int s0] I L (retQ (some (.int o)) I L) := by
  unfold f_X11_roadOf_67_b77 at h
  refine r_istore dX11_roadOf_77 (by decide) rfl ?_
  simp only [List.set_cons_zero, List.set_cons_succ]
  refine r_iload dX11_roadOf_79 rfl ?_
  refine r_if_eq (tgt := 89) dX11_roadOf_81 (by decide) (fun c => ?_) (fun c => ?_)
  · rw [if_pos c] at h
    refine r_iload_n (i := 3) dX11_roadOf_89 rfl rfl ?_
    refine r_istore_n (i := 3) dX11_roadOf_90 rfl (by decide) rfl ?_
    simp only [List.set_cons_zero, List.set_cons_succ]
    refine r_iinc (v := _) dX11_roadOf_91 rfl rfl (by decide) rfl ?_
    simp only [List.set_cons_zero, List.set_cons_succ]
    replace h := lt_some h
    refine r_goto (tgt := 5) dX11_roadOf_94 (by decide) ?_
    exact RR.wk (hk5 _ _ _ _ _ h) (And.intro rfl (And.intro rfl (And.intro rfl (And.intro rfl (And.intro rfl (trivial))))))
  · rw [if_neg c] at h
    refine r_iload dX11_roadOf_84 rfl ?_
    refine r_goto (tgt := 90) dX11_roadOf_86 (by decide) ?_
    refine r_istore_n (i := 3) dX11_roadOf_90 rfl (by decide) rfl ?_
    simp only [List.set_cons_zero, List.set_cons_succ]
    refine r_iinc (v := _) dX11_roadOf_91 rfl rfl (by decide) rfl ?_
    simp only [List.set_cons_zero, List.set_cons_succ]
    replace h := lt_some h
    refine r_goto (tgt := 5) dX11_roadOf_94 (by decide) ?_
    exact RR.wk (hk5 _ _ _ _ _ h) (And.intro rfl (And.intro rfl (And.intro rfl (And.intro rfl (And.intro rfl (trivial))))))
def f_X11_roadOf_67_b76 (I : mI) (L : mL) (k5 : Int32 → Int32 → Int32 → Int32 → Option Int32) (x1 : Int32) (x2 : Int32) (x3 : Int32) (x4 : Int32) : Option Int32 := f_X11_roadOf_67_b77 I L k5 x1 x2 x3 x4 0
theorem ok_X11_roadOf_67_b76 {d : Nat} (hd : 0 ≤ d){I : mI} {L : mL} {k5 : Int32 → Int32 → Int32 → Int32 → Option Int32} (hk5 : ∀ (x1 : Int32) (x2 : Int32) (x3 : Int32) (x4 : Int32) (o : Int32), k5 x1 x2 x3 x4 = some o → RR mX11_roadOf d 5 [some (.ref 67), some (.int x1), some (.int x2), some (.int x3), some (.int x4), none] [] I L (retQ (some (.int o)) I L)) (x1 : Int32) (x2 : Int32) (x3 : Int32) (x4 : Int32) {o : Int32} (h : f_X11_roadOf_67_b76 I L k5 x1 x2 x3 x4 = some o) : RR mX11_roadOf d 76 [some (.ref 67), some (.int x1), some (.int x2), some (.int x3), some (.int x4), none] [] I L (retQ (some (.int o)) I L) := by
  unfold f_X11_roadOf_67_b76 at h
  refine r_iconst (v := 0) dX11_roadOf_76 (by decide) ?_
  exact RR.wk (ok_X11_roadOf_67_b77 hd hk5 _ _ _ _ _ h) (And.intro rfl (And.intro rfl (And.intro rfl (And.intro rfl (And.intro rfl (trivial))))))
def f_X11_roadOf_67_b72 (I : mI) (L : mL) (k5 : Int32 → Int32 → Int32 → Int32 → Option Int32) (x1 : Int32) (x2 : Int32) (x3 : Int32) (x4 : Int32) : Option Int32 := f_X11_roadOf_67_b77 I L k5 x1 x2 x3 x4 1
theorem ok_X11_roadOf_67_b72 {d : Nat} (hd : 0 ≤ d){I : mI} {L : mL} {k5 : Int32 → Int32 → Int32 → Int32 → Option Int32} (hk5 : ∀ (x1 : Int32) (x2 : Int32) (x3 : Int32) (x4 : Int32) (o : Int32), k5 x1 x2 x3 x4 = some o → RR mX11_roadOf d 5 [some (.ref 67), some (.int x1), some (.int x2), some (.int x3), some (.int x4), none] [] I L (retQ (some (.int o)) I L)) (x1 : Int32) (x2 : Int32) (x3 : Int32) (x4 : Int32) {o : Int32} (h : f_X11_roadOf_67_b72 I L k5 x1 x2 x3 x4 = some o) : RR mX11_roadOf d 72 [some (.ref 67), some (.int x1), some (.int x2), some (.int x3), some (.int x4), none] [] I L (retQ (some (.int o)) I L) := by
  unfold f_X11_roadOf_67_b72 at h
  refine r_iconst (v := 1) dX11_roadOf_72 (by decide) ?_
  refine r_goto (tgt := 77) dX11_roadOf_73 (by decide) ?_
  exact RR.wk (ok_X11_roadOf_67_b77 hd hk5 _ _ _ _ _ h) (And.intro rfl (And.intro rfl (And.intro rfl (And.intro rfl (And.intro rfl (trivial))))))
def f_X11_roadOf_67_b44 (I : mI) (L : mL) (k5 : Int32 → Int32 → Int32 → Int32 → Option Int32) (x1 : Int32) (x2 : Int32) (x3 : Int32) (x4 : Int32) : Option Int32 := ck (inb (46 + x4) 135) (if (I 68 (46 + x4).toNatClampNeg) = x2 then (ck (inb (61 + x4) 135) (if (I 68 (61 + x4).toNatClampNeg) = x1 then (f_X11_roadOf_67_b72 I L k5 x1 x2 x3 x4) else (f_X11_roadOf_67_b76 I L k5 x1 x2 x3 x4))) else (f_X11_roadOf_67_b76 I L k5 x1 x2 x3 x4))
theorem ok_X11_roadOf_67_b44 {d : Nat} (hd : 0 ≤ d){I : mI} {L : mL} {k5 : Int32 → Int32 → Int32 → Int32 → Option Int32} (hk5 : ∀ (x1 : Int32) (x2 : Int32) (x3 : Int32) (x4 : Int32) (o : Int32), k5 x1 x2 x3 x4 = some o → RR mX11_roadOf d 5 [some (.ref 67), some (.int x1), some (.int x2), some (.int x3), some (.int x4), none] [] I L (retQ (some (.int o)) I L)) (x1 : Int32) (x2 : Int32) (x3 : Int32) (x4 : Int32) {o : Int32} (h : f_X11_roadOf_67_b44 I L k5 x1 x2 x3 x4 = some o) : RR mX11_roadOf d 44 [some (.ref 67), some (.int x1), some (.int x2), some (.int x3), some (.int x4), none] [] I L (retQ (some (.int o)) I L) := by
  unfold f_X11_roadOf_67_b44 at h
  refine r_aload_n (i := 0) dX11_roadOf_44 rfl rfl ?_
  refine r_getR f_X11_7 dX11_roadOf_45 rfl rfl ?_
  refine r_bipush (v := 46) dX11_roadOf_48 (by decide) ?_
  refine r_iload dX11_roadOf_50 rfl ?_
  refine r_iadd dX11_roadOf_52 ?_
  obtain ⟨hb, h⟩ := ck_some h
  refine r_iald rfl (inb_vp hb) dX11_roadOf_53 ?_
  refine r_iload_n (i := 2) dX11_roadOf_54 rfl rfl ?_
  refine r_icmp_ne (tgt := 76) dX11_roadOf_55 (by decide) (fun c => ?_) (fun c => ?_)
  · rw [if_neg c] at h
    exact RR.wk (ok_X11_roadOf_67_b76 hd hk5 _ _ _ _ h) (And.intro rfl (And.intro rfl (And.intro rfl (And.intro rfl (And.intro rfl (trivial))))))
  · rw [if_pos c] at h
    refine r_aload_n (i := 0) dX11_roadOf_58 rfl rfl ?_
    refine r_getR f_X11_7 dX11_roadOf_59 rfl rfl ?_
    refine r_bipush (v := 61) dX11_roadOf_62 (by decide) ?_
    refine r_iload dX11_roadOf_64 rfl ?_
    refine r_iadd dX11_roadOf_66 ?_
    obtain ⟨hb, h⟩ := ck_some h
    refine r_iald rfl (inb_vp hb) dX11_roadOf_67 ?_
    refine r_iload_n (i := 1) dX11_roadOf_68 rfl rfl ?_
    refine r_icmp_ne (tgt := 76) dX11_roadOf_69 (by decide) (fun c => ?_) (fun c => ?_)
    · rw [if_neg c] at h
      exact RR.wk (ok_X11_roadOf_67_b76 hd hk5 _ _ _ _ h) (And.intro rfl (And.intro rfl (And.intro rfl (And.intro rfl (And.intro rfl (trivial))))))
    · rw [if_pos c] at h
      exact RR.wk (ok_X11_roadOf_67_b72 hd hk5 _ _ _ _ h) (And.intro rfl (And.intro rfl (And.intro rfl (And.intro rfl (And.intro rfl (trivial))))))
def f_X11_roadOf_67_l5 (I : mI) (L : mL) : Nat → Int32 → Int32 → Int32 → Int32 → Option Int32
  | 0, _, _, _, _ => none
  | n + 1, x1, x2, x3, x4 => if (I 68 (1 : Int32).toNatClampNeg) ≤ x4 then (some x3) else (ck (inb (46 + x4) 135) (if (I 68 (46 + x4).toNatClampNeg) = x1 then (ck (inb (61 + x4) 135) (if (I 68 (61 + x4).toNatClampNeg) = x2 then (f_X11_roadOf_67_b72 I L (f_X11_roadOf_67_l5 I L n) x1 x2 x3 x4) else (f_X11_roadOf_67_b44 I L (f_X11_roadOf_67_l5 I L n) x1 x2 x3 x4))) else (f_X11_roadOf_67_b44 I L (f_X11_roadOf_67_l5 I L n) x1 x2 x3 x4)))
theorem ok_X11_roadOf_67_l5 {d : Nat} (hd : 0 ≤ d){I : mI} {L : mL} : ∀ (n : Nat) (x1 : Int32) (x2 : Int32) (x3 : Int32) (x4 : Int32) (o : Int32), f_X11_roadOf_67_l5 I L n x1 x2 x3 x4 = some o → RR mX11_roadOf d 5 [some (.ref 67), some (.int x1), some (.int x2), some (.int x3), some (.int x4), none] [] I L (retQ (some (.int o)) I L) := by
  intro n
  induction n with
  | zero => intro x1 x2 x3 x4 o h; rw [f_X11_roadOf_67_l5] at h; cases h
  | succ n ih =>
    intro x1 x2 x3 x4 o h
    rw [f_X11_roadOf_67_l5] at h
    refine r_iload dX11_roadOf_5 rfl ?_
    refine r_aload_n (i := 0) dX11_roadOf_7 rfl rfl ?_
    refine r_getR f_X11_7 dX11_roadOf_8 rfl rfl ?_
    refine r_iconst (v := 1) dX11_roadOf_11 (by decide) ?_
    refine r_iald rfl (vp_lit (by decide)) dX11_roadOf_12 ?_
    refine r_icmp_ge (tgt := 97) dX11_roadOf_13 (by decide) (fun c => ?_) (fun c => ?_)
    · rw [if_pos c] at h
      refine r_iload_n (i := 3) dX11_roadOf_97 rfl rfl ?_
      refine r_iret (by first | rfl | decide) dX11_roadOf_98 ?_
      obtain rfl := Option.some.inj h
      exact ⟨rfl, rfl, rfl⟩
    · rw [if_neg c] at h
      refine r_aload_n (i := 0) dX11_roadOf_16 rfl rfl ?_
      refine r_getR f_X11_7 dX11_roadOf_17 rfl rfl ?_
      refine r_bipush (v := 46) dX11_roadOf_20 (by decide) ?_
      refine r_iload dX11_roadOf_22 rfl ?_
      refine r_iadd dX11_roadOf_24 ?_
      obtain ⟨hb, h⟩ := ck_some h
      refine r_iald rfl (inb_vp hb) dX11_roadOf_25 ?_
      refine r_iload_n (i := 1) dX11_roadOf_26 rfl rfl ?_
      refine r_icmp_ne (tgt := 44) dX11_roadOf_27 (by decide) (fun c => ?_) (fun c => ?_)
      · rw [if_neg c] at h
        exact RR.wk (ok_X11_roadOf_67_b44 hd ih _ _ _ _ h) (And.intro rfl (And.intro rfl (And.intro rfl (And.intro rfl (And.intro rfl (trivial))))))
      · rw [if_pos c] at h
        refine r_aload_n (i := 0) dX11_roadOf_30 rfl rfl ?_
        refine r_getR f_X11_7 dX11_roadOf_31 rfl rfl ?_
        refine r_bipush (v := 61) dX11_roadOf_34 (by decide) ?_
        refine r_iload dX11_roadOf_36 rfl ?_
        refine r_iadd dX11_roadOf_38 ?_
        obtain ⟨hb, h⟩ := ck_some h
        refine r_iald rfl (inb_vp hb) dX11_roadOf_39 ?_
        refine r_iload_n (i := 2) dX11_roadOf_40 rfl rfl ?_
        refine r_icmp_eq (tgt := 72) dX11_roadOf_41 (by decide) (fun c => ?_) (fun c => ?_)
        · rw [if_pos c] at h
          exact RR.wk (ok_X11_roadOf_67_b72 hd ih _ _ _ _ h) (And.intro rfl (And.intro rfl (And.intro rfl (And.intro rfl (And.intro rfl (trivial))))))
        · rw [if_neg c] at h
          exact RR.wk (ok_X11_roadOf_67_b44 hd ih _ _ _ _ h) (And.intro rfl (And.intro rfl (And.intro rfl (And.intro rfl (And.intro rfl (trivial))))))
def f_X11_roadOf_67 (I : mI) (L : mL) (a1 : Int32) (a2 : Int32) : Option Int32 := f_X11_roadOf_67_l5 I L fuel a1 a2 (-1) 0
theorem ok_X11_roadOf_67 {d : Nat} (hd : 0 ≤ d) {I : mI} {L : mL} {a1 : Int32} {a2 : Int32} {o : Int32} (h : f_X11_roadOf_67 I L a1 a2 = some o) : RR mX11_roadOf d 0 [some (.ref 67), some (.int a1), some (.int a2), none, none, none] [] I L (retQ (some (.int o)) I L) := by
  unfold f_X11_roadOf_67 at h
  refine r_iconst (v := (-1)) dX11_roadOf_0 (by decide) ?_
  refine r_istore_n (i := 3) dX11_roadOf_1 rfl (by decide) rfl ?_
  simp only [List.set_cons_zero, List.set_cons_succ]
  refine r_iconst (v := 0) dX11_roadOf_2 (by decide) ?_
  refine r_istore dX11_roadOf_3 (by decide) rfl ?_
  simp only [List.set_cons_zero, List.set_cons_succ]
  exact RR.wk (ok_X11_roadOf_67_l5 hd _ _ _ _ _ _ h) (And.intro rfl (And.intro rfl (And.intro rfl (And.intro rfl (And.intro rfl (trivial))))))
def f_X11_road_67_b108 (I : mI) (L : mL) (x3 : Int32) (x4 : Int32) (s0 : Int32) (s1 : Int32) : rI := ck (inb s1 135) (lt (uI I 68 s1.toNatClampNeg s0) (fun M7 => ck (inb (76 + x4) 135) (lt (uI M7 68 (76 + x4).toNatClampNeg x3) (fun M8 => lt (uI M8 68 (1 : Int32).toNatClampNeg ((M8 68 (1 : Int32).toNatClampNeg) + 1)) (fun M9 => some (x4, M9, L))))))
theorem ok_X11_road_67_b108 {d : Nat} (hd : 2 ≤ d){I : mI} {L : mL} (x3 : Int32) (x4 : Int32) (s0 : Int32) (s1 : Int32) {o : Int32 × mI × mL} (h : f_X11_road_67_b108 I L x3 x4 s0 s1 = some o) : RR mX11_road d 108 [some (.ref 67), none, none, some (.int x3), some (.int x4)] [.int s0, .int s1, .ref 68] I L (retQ (some (.int o.1)) o.2.1 o.2.2) := by
  unfold f_X11_road_67_b108 at h
  obtain ⟨hb, h⟩ := ck_some h
  refine r_iast rfl (inb_vp hb) dX11_road_108 ?_
  replace h := lt_some h
  refine r_aload_n (i := 0) dX11_road_109 rfl rfl ?_
  refine r_getR f_X11_7 dX11_road_110 rfl rfl ?_
  refine r_bipush (v := 76) dX11_road_113 (by decide) ?_
  refine r_iload dX11_road_115 rfl ?_
  refine r_iadd dX11_road_117 ?_
  refine r_iload_n (i := 3) dX11_road_118 rfl rfl ?_
  obtain ⟨hb, h⟩ := ck_some h
  refine r_iast rfl (inb_vp hb) dX11_road_119 ?_
  replace h := lt_some h
  refine r_aload_n (i := 0) dX11_road_120 rfl rfl ?_
  refine r_getR f_X11_7 dX11_road_121 rfl rfl ?_
  refine r_iconst (v := 1) dX11_road_124 (by decide) ?_
  refine r_dup2 dX11_road_125 rfl rfl ?_
  refine r_iald rfl (vp_lit (by decide)) dX11_road_126 ?_
  refine r_iconst (v := 1) dX11_road_127 (by decide) ?_
  refine r_iadd dX11_road_128 ?_
  refine r_iast rfl (vp_lit (by decide)) dX11_road_129 ?_
  replace h := lt_some h
  refine r_iload dX11_road_130 rfl ?_
  refine r_iret (by first | rfl | decide) dX11_road_132 ?_
  obtain rfl := Option.some.inj h
  exact ⟨rfl, rfl, rfl⟩
def f_X11_road_67_b88 (I : mI) (L : mL) (x1 : Int32) (x2 : Int32) (x3 : Int32) (x4 : Int32) (s0 : Int32) (s1 : Int32) : rI := ck (inb s1 135) (lt (uI I 68 s1.toNatClampNeg s0) (fun M6 => if x2 ≤ x1 then (f_X11_road_67_b108 M6 L x3 x4 x1 (61 + x4)) else (f_X11_road_67_b108 M6 L x3 x4 x2 (61 + x4))))
theorem ok_X11_road_67_b88 {d : Nat} (hd : 2 ≤ d){I : mI} {L : mL} (x1 : Int32) (x2 : Int32) (x3 : Int32) (x4 : Int32) (s0 : Int32) (s1 : Int32) {o : Int32 × mI × mL} (h : f_X11_road_67_b88 I L x1 x2 x3 x4 s0 s1 = some o) : RR mX11_road d 88 [some (.ref 67), some (.int x1), some (.int x2), some (.int x3), some (.int x4)] [.int s0, .int s1, .ref 68] I L (retQ (some (.int o.1)) o.2.1 o.2.2) := by
  unfold f_X11_road_67_b88 at h
  obtain ⟨hb, h⟩ := ck_some h
  refine r_iast rfl (inb_vp hb) dX11_road_88 ?_
  replace h := lt_some h
  refine r_aload_n (i := 0) dX11_road_89 rfl rfl ?_
  refine r_getR f_X11_7 dX11_road_90 rfl rfl ?_
  refine r_bipush (v := 61) dX11_road_93 (by decide) ?_
  refine r_iload dX11_road_95 rfl ?_
  refine r_iadd dX11_road_97 ?_
  refine r_iload_n (i := 1) dX11_road_98 rfl rfl ?_
  refine r_iload_n (i := 2) dX11_road_99 rfl rfl ?_
  refine r_icmp_ge (tgt := 107) dX11_road_100 (by decide) (fun c => ?_) (fun c => ?_)
  · rw [if_pos c] at h
    refine r_iload_n (i := 1) dX11_road_107 rfl rfl ?_
    exact RR.wk (ok_X11_road_67_b108 hd _ _ _ _ h) (And.intro rfl (And.intro rfl (And.intro rfl (trivial))))
  · rw [if_neg c] at h
    refine r_iload_n (i := 2) dX11_road_103 rfl rfl ?_
    refine r_goto (tgt := 108) dX11_road_104 (by decide) ?_
    exact RR.wk (ok_X11_road_67_b108 hd _ _ _ _ h) (And.intro rfl (And.intro rfl (And.intro rfl (trivial))))
def f_X11_road_67 (I : mI) (L : mL) (a1 : Int32) (a2 : Int32) (a3 : Int32) : rI := (f_X11_isParish_67 I L a1).bind (fun r1 => if r1 = 0 then (some ((-1), I, L)) else ((f_X11_isParish_67 I L a2).bind (fun r2 => if r2 = 0 then (some ((-1), I, L)) else (if a1 = a2 then (some ((-1), I, L)) else ((f_X11_in I L (a3.toInt64) 0 9).bind (fun r3 => if r3 = 0 then (some ((-1), I, L)) else ((f_X11_roadOf_67 I L a1 a2).bind (fun r4 => if r4 < 0 then (if (I 68 (1 : Int32).toNatClampNeg) = 15 then (some ((-3), I, L)) else (lt (I 68 (1 : Int32).toNatClampNeg) (fun v5 => if a2 ≤ a1 then (f_X11_road_67_b88 I L a1 a2 a3 v5 a2 (46 + v5)) else (f_X11_road_67_b88 I L a1 a2 a3 v5 a1 (46 + v5))))) else (some ((-2), I, L))))))))))
theorem ok_X11_road_67 {d : Nat} (hd : 2 ≤ d) {I : mI} {L : mL} {a1 : Int32} {a2 : Int32} {a3 : Int32} {o : Int32 × mI × mL} (h : f_X11_road_67 I L a1 a2 a3 = some o) : RR mX11_road d 0 [some (.ref 67), some (.int a1), some (.int a2), some (.int a3), none] [] I L (retQ (some (.int o.1)) o.2.1 o.2.2) := by
  unfold f_X11_road_67 at h
  refine r_aload_n (i := 0) dX11_road_0 rfl rfl ?_
  refine r_iload_n (i := 1) dX11_road_1 rfl rfl ?_
  obtain ⟨r1, hr, h⟩ := bind_some h
  refine r_V (d' := 1) k_X11_68 dX11_road_2 (by omega) rfl rfl rfl (Nat.le_of_ble_eq_true rfl) (Nat.le_of_ble_eq_true rfl) (ok_X11_isParish_67 (Nat.le_refl _) hr) (fun v I' L' hq => ?_)
  obtain ⟨rfl, rfl, rfl⟩ := hq
  simp only [Option.toList_some, Option.toList_none, List.drop_succ_cons, List.drop_zero, List.drop_nil, List.cons_append, List.nil_append]
  refine r_if_eq (tgt := 33) dX11_road_5 (by decide) (fun c => ?_) (fun c => ?_)
  · rw [if_pos c] at h
    refine r_iconst (v := (-1)) dX11_road_33 (by decide) ?_
    refine r_iret (by first | rfl | decide) dX11_road_34 ?_
    obtain rfl := Option.some.inj h
    exact ⟨rfl, rfl, rfl⟩
  · rw [if_neg c] at h
    refine r_aload_n (i := 0) dX11_road_8 rfl rfl ?_
    refine r_iload_n (i := 2) dX11_road_9 rfl rfl ?_
    obtain ⟨r2, hr, h⟩ := bind_some h
    refine r_V (d' := 1) k_X11_68 dX11_road_10 (by omega) rfl rfl rfl (Nat.le_of_ble_eq_true rfl) (Nat.le_of_ble_eq_true rfl) (ok_X11_isParish_67 (Nat.le_refl _) hr) (fun v I' L' hq => ?_)
    obtain ⟨rfl, rfl, rfl⟩ := hq
    simp only [Option.toList_some, Option.toList_none, List.drop_succ_cons, List.drop_zero, List.drop_nil, List.cons_append, List.nil_append]
    refine r_if_eq (tgt := 33) dX11_road_13 (by decide) (fun c => ?_) (fun c => ?_)
    · rw [if_pos c] at h
      refine r_iconst (v := (-1)) dX11_road_33 (by decide) ?_
      refine r_iret (by first | rfl | decide) dX11_road_34 ?_
      obtain rfl := Option.some.inj h
      exact ⟨rfl, rfl, rfl⟩
    · rw [if_neg c] at h
      refine r_iload_n (i := 1) dX11_road_16 rfl rfl ?_
      refine r_iload_n (i := 2) dX11_road_17 rfl rfl ?_
      refine r_icmp_eq (tgt := 33) dX11_road_18 (by decide) (fun c => ?_) (fun c => ?_)
      · rw [if_pos c] at h
        refine r_iconst (v := (-1)) dX11_road_33 (by decide) ?_
        refine r_iret (by first | rfl | decide) dX11_road_34 ?_
        obtain rfl := Option.some.inj h
        exact ⟨rfl, rfl, rfl⟩
      · rw [if_neg c] at h
        refine r_iload_n (i := 3) dX11_road_21 rfl rfl ?_
        refine r_i2l dX11_road_22 ?_
        refine r_lconst (v := 0) dX11_road_23 (by decide) ?_
        refine r_ldc2 n_X11_72 dX11_road_24 ?_
        obtain ⟨r3, hr, h⟩ := bind_some h
        refine r_S (d' := 0) k_X11_50 dX11_road_27 (by omega) rfl (Nat.le_of_ble_eq_true rfl) (Nat.le_of_ble_eq_true rfl) (ok_X11_in (Nat.le_refl _) hr) (fun v I' L' hq => ?_)
        obtain ⟨rfl, rfl, rfl⟩ := hq
        simp only [Option.toList_some, Option.toList_none, List.drop_succ_cons, List.drop_zero, List.drop_nil, List.cons_append, List.nil_append]
        refine r_if_ne (tgt := 35) dX11_road_30 (by decide) (fun c => ?_) (fun c => ?_)
        · rw [if_neg c] at h
          refine r_aload_n (i := 0) dX11_road_35 rfl rfl ?_
          refine r_iload_n (i := 1) dX11_road_36 rfl rfl ?_
          refine r_iload_n (i := 2) dX11_road_37 rfl rfl ?_
          obtain ⟨r4, hr, h⟩ := bind_some h
          refine r_V (d' := 0) k_X11_74 dX11_road_38 (by omega) rfl rfl rfl (Nat.le_of_ble_eq_true rfl) (Nat.le_of_ble_eq_true rfl) (ok_X11_roadOf_67 (Nat.le_refl _) hr) (fun v I' L' hq => ?_)
          obtain ⟨rfl, rfl, rfl⟩ := hq
          simp only [Option.toList_some, Option.toList_none, List.drop_succ_cons, List.drop_zero, List.drop_nil, List.cons_append, List.nil_append]
          refine r_if_lt (tgt := 47) dX11_road_41 (by decide) (fun c => ?_) (fun c => ?_)
          · rw [if_pos c] at h
            refine r_aload_n (i := 0) dX11_road_47 rfl rfl ?_
            refine r_getR f_X11_7 dX11_road_48 rfl rfl ?_
            refine r_iconst (v := 1) dX11_road_51 (by decide) ?_
            refine r_iald rfl (vp_lit (by decide)) dX11_road_52 ?_
            refine r_bipush (v := 15) dX11_road_53 (by decide) ?_
            refine r_icmp_ne (tgt := 61) dX11_road_55 (by decide) (fun c => ?_) (fun c => ?_)
            · rw [if_neg c] at h
              refine r_aload_n (i := 0) dX11_road_61 rfl rfl ?_
              refine r_getR f_X11_7 dX11_road_62 rfl rfl ?_
              refine r_iconst (v := 1) dX11_road_65 (by decide) ?_
              refine r_iald rfl (vp_lit (by decide)) dX11_road_66 ?_
              refine r_istore dX11_road_67 (by decide) rfl ?_
              simp only [List.set_cons_zero, List.set_cons_succ]
              replace h := lt_some h
              refine r_aload_n (i := 0) dX11_road_69 rfl rfl ?_
              refine r_getR f_X11_7 dX11_road_70 rfl rfl ?_
              refine r_bipush (v := 46) dX11_road_73 (by decide) ?_
              refine r_iload dX11_road_75 rfl ?_
              refine r_iadd dX11_road_77 ?_
              refine r_iload_n (i := 1) dX11_road_78 rfl rfl ?_
              refine r_iload_n (i := 2) dX11_road_79 rfl rfl ?_
              refine r_icmp_ge (tgt := 87) dX11_road_80 (by decide) (fun c => ?_) (fun c => ?_)
              · rw [if_pos c] at h
                refine r_iload_n (i := 2) dX11_road_87 rfl rfl ?_
                exact RR.wk (ok_X11_road_67_b88 hd _ _ _ _ _ _ h) (And.intro rfl (And.intro rfl (And.intro rfl (And.intro rfl (And.intro rfl (trivial))))))
              · rw [if_neg c] at h
                refine r_iload_n (i := 1) dX11_road_83 rfl rfl ?_
                refine r_goto (tgt := 88) dX11_road_84 (by decide) ?_
                exact RR.wk (ok_X11_road_67_b88 hd _ _ _ _ _ _ h) (And.intro rfl (And.intro rfl (And.intro rfl (And.intro rfl (And.intro rfl (trivial))))))
            · rw [if_pos c] at h
              refine r_bipush (v := (-3)) dX11_road_58 (by decide) ?_
              refine r_iret (by first | rfl | decide) dX11_road_60 ?_
              obtain rfl := Option.some.inj h
              exact ⟨rfl, rfl, rfl⟩
          · rw [if_neg c] at h
            refine r_bipush (v := (-2)) dX11_road_44 (by decide) ?_
            refine r_iret (by first | rfl | decide) dX11_road_46 ?_
            obtain rfl := Option.some.inj h
            exact ⟨rfl, rfl, rfl⟩
        · rw [if_pos c] at h
          refine r_iconst (v := (-1)) dX11_road_33 (by decide) ?_
          refine r_iret (by first | rfl | decide) dX11_road_34 ?_
          obtain rfl := Option.some.inj h
          exact ⟨rfl, rfl, rfl⟩
def f_X11_toll_67 (I : mI) (L : mL) (a1 : Int32) (a2 : Int32) : rI := (f_X11_isRoad_67 I L a1).bind (fun r1 => if r1 = 0 then (some ((-1), I, L)) else ((f_X11_in I L (a2.toInt64) 0 9).bind (fun r2 => if r2 = 0 then (some ((-1), I, L)) else (ck (inb (76 + a1) 135) (lt (I 68 (76 + a1).toNatClampNeg) (fun v3 => ck (inb (76 + a1) 135) (lt (uI I 68 (76 + a1).toNatClampNeg a2) (fun M4 => some (v3, M4, L)))))))))
theorem ok_X11_toll_67 {d : Nat} (hd : 2 ≤ d) {I : mI} {L : mL} {a1 : Int32} {a2 : Int32} {o : Int32 × mI × mL} (h : f_X11_toll_67 I L a1 a2 = some o) : RR mX11_toll d 0 [some (.ref 67), some (.int a1), some (.int a2), none] [] I L (retQ (some (.int o.1)) o.2.1 o.2.2) := by
  unfold f_X11_toll_67 at h
  refine r_aload_n (i := 0) dX11_toll_0 rfl rfl ?_
  refine r_iload_n (i := 1) dX11_toll_1 rfl rfl ?_
  obtain ⟨r1, hr, h⟩ := bind_some h
  refine r_V (d' := 1) k_X11_78 dX11_toll_2 (by omega) rfl rfl rfl (Nat.le_of_ble_eq_true rfl) (Nat.le_of_ble_eq_true rfl) (ok_X11_isRoad_67 (Nat.le_refl _) hr) (fun v I' L' hq => ?_)
  obtain ⟨rfl, rfl, rfl⟩ := hq
  simp only [Option.toList_some, Option.toList_none, List.drop_succ_cons, List.drop_zero, List.drop_nil, List.cons_append, List.nil_append]
  refine r_if_eq (tgt := 20) dX11_toll_5 (by decide) (fun c => ?_) (fun c => ?_)
  · rw [if_pos c] at h
    refine r_iconst (v := (-1)) dX11_toll_20 (by decide) ?_
    refine r_iret (by first | rfl | decide) dX11_toll_21 ?_
    obtain rfl := Option.some.inj h
    exact ⟨rfl, rfl, rfl⟩
  · rw [if_neg c] at h
    refine r_iload_n (i := 2) dX11_toll_8 rfl rfl ?_
    refine r_i2l dX11_toll_9 ?_
    refine r_lconst (v := 0) dX11_toll_10 (by decide) ?_
    refine r_ldc2 n_X11_72 dX11_toll_11 ?_
    obtain ⟨r2, hr, h⟩ := bind_some h
    refine r_S (d' := 0) k_X11_50 dX11_toll_14 (by omega) rfl (Nat.le_of_ble_eq_true rfl) (Nat.le_of_ble_eq_true rfl) (ok_X11_in (Nat.le_refl _) hr) (fun v I' L' hq => ?_)
    obtain ⟨rfl, rfl, rfl⟩ := hq
    simp only [Option.toList_some, Option.toList_none, List.drop_succ_cons, List.drop_zero, List.drop_nil, List.cons_append, List.nil_append]
    refine r_if_ne (tgt := 22) dX11_toll_17 (by decide) (fun c => ?_) (fun c => ?_)
    · rw [if_neg c] at h
      refine r_aload_n (i := 0) dX11_toll_22 rfl rfl ?_
      refine r_getR f_X11_7 dX11_toll_23 rfl rfl ?_
      refine r_bipush (v := 76) dX11_toll_26 (by decide) ?_
      refine r_iload_n (i := 1) dX11_toll_28 rfl rfl ?_
      refine r_iadd dX11_toll_29 ?_
      obtain ⟨hb, h⟩ := ck_some h
      refine r_iald rfl (inb_vp hb) dX11_toll_30 ?_
      refine r_istore_n (i := 3) dX11_toll_31 rfl (by decide) rfl ?_
      simp only [List.set_cons_zero, List.set_cons_succ]
      replace h := lt_some h
      refine r_aload_n (i := 0) dX11_toll_32 rfl rfl ?_
      refine r_getR f_X11_7 dX11_toll_33 rfl rfl ?_
      refine r_bipush (v := 76) dX11_toll_36 (by decide) ?_
      refine r_iload_n (i := 1) dX11_toll_38 rfl rfl ?_
      refine r_iadd dX11_toll_39 ?_
      refine r_iload_n (i := 2) dX11_toll_40 rfl rfl ?_
      obtain ⟨hb, h⟩ := ck_some h
      refine r_iast rfl (inb_vp hb) dX11_toll_41 ?_
      replace h := lt_some h
      refine r_iload_n (i := 3) dX11_toll_42 rfl rfl ?_
      refine r_iret (by first | rfl | decide) dX11_toll_43 ?_
      obtain rfl := Option.some.inj h
      exact ⟨rfl, rfl, rfl⟩
    · rw [if_pos c] at h
      refine r_iconst (v := (-1)) dX11_toll_20 (by decide) ?_
      refine r_iret (by first | rfl | decide) dX11_toll_21 ?_
      obtain rfl := Option.some.inj h
      exact ⟨rfl, rfl, rfl⟩
def f_X11_cart_67 (I : mI) (L : mL) (a1 : Int32) (a2 : Int32) : rI := (f_X11_in I L (a1.toInt64) 0 999).bind (fun r1 => if r1 = 0 then (some ((-1), I, L)) else ((f_X11_in I L (a2.toInt64) 0 99).bind (fun r2 => if r2 = 0 then (some ((-1), I, L)) else (if (I 68 (2 : Int32).toNatClampNeg) = 4 then (some ((-3), I, L)) else (lt (I 68 (2 : Int32).toNatClampNeg) (fun v3 => ck (inb (91 + v3) 135) (lt (uI I 68 (91 + v3).toNatClampNeg a1) (fun M4 => ck (inb (95 + v3) 135) (lt (uI M4 68 (95 + v3).toNatClampNeg a2) (fun M5 => lt (uI M5 68 (2 : Int32).toNatClampNeg ((M5 68 (2 : Int32).toNatClampNeg) + 1)) (fun M6 => some (v3, M6, L))))))))))))
theorem ok_X11_cart_67 {d : Nat} (hd : 1 ≤ d) {I : mI} {L : mL} {a1 : Int32} {a2 : Int32} {o : Int32 × mI × mL} (h : f_X11_cart_67 I L a1 a2 = some o) : RR mX11_cart d 0 [some (.ref 67), some (.int a1), some (.int a2), none] [] I L (retQ (some (.int o.1)) o.2.1 o.2.2) := by
  unfold f_X11_cart_67 at h
  refine r_iload_n (i := 1) dX11_cart_0 rfl rfl ?_
  refine r_i2l dX11_cart_1 ?_
  refine r_lconst (v := 0) dX11_cart_2 (by decide) ?_
  refine r_ldc2 n_X11_81 dX11_cart_3 ?_
  obtain ⟨r1, hr, h⟩ := bind_some h
  refine r_S (d' := 0) k_X11_50 dX11_cart_6 (by omega) rfl (Nat.le_of_ble_eq_true rfl) (Nat.le_of_ble_eq_true rfl) (ok_X11_in (Nat.le_refl _) hr) (fun v I' L' hq => ?_)
  obtain ⟨rfl, rfl, rfl⟩ := hq
  simp only [Option.toList_some, Option.toList_none, List.drop_succ_cons, List.drop_zero, List.drop_nil, List.cons_append, List.nil_append]
  refine r_if_eq (tgt := 24) dX11_cart_9 (by decide) (fun c => ?_) (fun c => ?_)
  · rw [if_pos c] at h
    refine r_iconst (v := (-1)) dX11_cart_24 (by decide) ?_
    refine r_iret (by first | rfl | decide) dX11_cart_25 ?_
    obtain rfl := Option.some.inj h
    exact ⟨rfl, rfl, rfl⟩
  · rw [if_neg c] at h
    refine r_iload_n (i := 2) dX11_cart_12 rfl rfl ?_
    refine r_i2l dX11_cart_13 ?_
    refine r_lconst (v := 0) dX11_cart_14 (by decide) ?_
    refine r_ldc2 n_X11_83 dX11_cart_15 ?_
    obtain ⟨r2, hr, h⟩ := bind_some h
    refine r_S (d' := 0) k_X11_50 dX11_cart_18 (by omega) rfl (Nat.le_of_ble_eq_true rfl) (Nat.le_of_ble_eq_true rfl) (ok_X11_in (Nat.le_refl _) hr) (fun v I' L' hq => ?_)
    obtain ⟨rfl, rfl, rfl⟩ := hq
    simp only [Option.toList_some, Option.toList_none, List.drop_succ_cons, List.drop_zero, List.drop_nil, List.cons_append, List.nil_append]
    refine r_if_ne (tgt := 26) dX11_cart_21 (by decide) (fun c => ?_) (fun c => ?_)
    · rw [if_neg c] at h
      refine r_aload_n (i := 0) dX11_cart_26 rfl rfl ?_
      refine r_getR f_X11_7 dX11_cart_27 rfl rfl ?_
      refine r_iconst (v := 2) dX11_cart_30 (by decide) ?_
      refine r_iald rfl (vp_lit (by decide)) dX11_cart_31 ?_
      refine r_iconst (v := 4) dX11_cart_32 (by decide) ?_
      refine r_icmp_ne (tgt := 39) dX11_cart_33 (by decide) (fun c => ?_) (fun c => ?_)
      · rw [if_neg c] at h
        refine r_aload_n (i := 0) dX11_cart_39 rfl rfl ?_
        refine r_getR f_X11_7 dX11_cart_40 rfl rfl ?_
        refine r_iconst (v := 2) dX11_cart_43 (by decide) ?_
        refine r_iald rfl (vp_lit (by decide)) dX11_cart_44 ?_
        refine r_istore_n (i := 3) dX11_cart_45 rfl (by decide) rfl ?_
        simp only [List.set_cons_zero, List.set_cons_succ]
        replace h := lt_some h
        refine r_aload_n (i := 0) dX11_cart_46 rfl rfl ?_
        refine r_getR f_X11_7 dX11_cart_47 rfl rfl ?_
        refine r_bipush (v := 91) dX11_cart_50 (by decide) ?_
        refine r_iload_n (i := 3) dX11_cart_52 rfl rfl ?_
        refine r_iadd dX11_cart_53 ?_
        refine r_iload_n (i := 1) dX11_cart_54 rfl rfl ?_
        obtain ⟨hb, h⟩ := ck_some h
        refine r_iast rfl (inb_vp hb) dX11_cart_55 ?_
        replace h := lt_some h
        refine r_aload_n (i := 0) dX11_cart_56 rfl rfl ?_
        refine r_getR f_X11_7 dX11_cart_57 rfl rfl ?_
        refine r_bipush (v := 95) dX11_cart_60 (by decide) ?_
        refine r_iload_n (i := 3) dX11_cart_62 rfl rfl ?_
        refine r_iadd dX11_cart_63 ?_
        refine r_iload_n (i := 2) dX11_cart_64 rfl rfl ?_
        obtain ⟨hb, h⟩ := ck_some h
        refine r_iast rfl (inb_vp hb) dX11_cart_65 ?_
        replace h := lt_some h
        refine r_aload_n (i := 0) dX11_cart_66 rfl rfl ?_
        refine r_getR f_X11_7 dX11_cart_67 rfl rfl ?_
        refine r_iconst (v := 2) dX11_cart_70 (by decide) ?_
        refine r_dup2 dX11_cart_71 rfl rfl ?_
        refine r_iald rfl (vp_lit (by decide)) dX11_cart_72 ?_
        refine r_iconst (v := 1) dX11_cart_73 (by decide) ?_
        refine r_iadd dX11_cart_74 ?_
        refine r_iast rfl (vp_lit (by decide)) dX11_cart_75 ?_
        replace h := lt_some h
        refine r_iload_n (i := 3) dX11_cart_76 rfl rfl ?_
        refine r_iret (by first | rfl | decide) dX11_cart_77 ?_
        obtain rfl := Option.some.inj h
        exact ⟨rfl, rfl, rfl⟩
      · rw [if_pos c] at h
        refine r_bipush (v := (-3)) dX11_cart_36 (by decide) ?_
        refine r_iret (by first | rfl | decide) dX11_cart_38 ?_
        obtain rfl := Option.some.inj h
        exact ⟨rfl, rfl, rfl⟩
    · rw [if_pos c] at h
      refine r_iconst (v := (-1)) dX11_cart_24 (by decide) ?_
      refine r_iret (by first | rfl | decide) dX11_cart_25 ?_
      obtain rfl := Option.some.inj h
      exact ⟨rfl, rfl, rfl⟩
def f_X11_good_67 (I : mI) (L : mL) (a1 : Int32) (a2 : Int32) (a3 : Int32) : rI := (f_X11_in I L (a1.toInt64) 1 99).bind (fun r1 => if r1 = 0 then (some ((-1), I, L)) else ((f_X11_in I L (a2.toInt64) 1 9).bind (fun r2 => if r2 = 0 then (some ((-1), I, L)) else ((f_X11_isParish_67 I L a3).bind (fun r3 => if r3 = 0 then (some ((-1), I, L)) else (if (I 68 (3 : Int32).toNatClampNeg) = 6 then (some ((-3), I, L)) else (lt (I 68 (3 : Int32).toNatClampNeg) (fun v4 => ck (inb (99 + v4) 135) (lt (uI I 68 (99 + v4).toNatClampNeg a1) (fun M5 => ck (inb (105 + v4) 135) (lt (uI M5 68 (105 + v4).toNatClampNeg a2) (fun M6 => ck (inb (111 + v4) 135) (lt (uI M6 68 (111 + v4).toNatClampNeg a3) (fun M7 => ck (inb (117 + v4) 135) (lt (uI M7 68 (117 + v4).toNatClampNeg 0) (fun M8 => lt (uI M8 68 (3 : Int32).toNatClampNeg ((M8 68 (3 : Int32).toNatClampNeg) + 1)) (fun M9 => some (v4, M9, L))))))))))))))))))
theorem ok_X11_good_67 {d : Nat} (hd : 2 ≤ d) {I : mI} {L : mL} {a1 : Int32} {a2 : Int32} {a3 : Int32} {o : Int32 × mI × mL} (h : f_X11_good_67 I L a1 a2 a3 = some o) : RR mX11_good d 0 [some (.ref 67), some (.int a1), some (.int a2), some (.int a3), none] [] I L (retQ (some (.int o.1)) o.2.1 o.2.2) := by
  unfold f_X11_good_67 at h
  refine r_iload_n (i := 1) dX11_good_0 rfl rfl ?_
  refine r_i2l dX11_good_1 ?_
  refine r_lconst (v := 1) dX11_good_2 (by decide) ?_
  refine r_ldc2 n_X11_83 dX11_good_3 ?_
  obtain ⟨r1, hr, h⟩ := bind_some h
  refine r_S (d' := 0) k_X11_50 dX11_good_6 (by omega) rfl (Nat.le_of_ble_eq_true rfl) (Nat.le_of_ble_eq_true rfl) (ok_X11_in (Nat.le_refl _) hr) (fun v I' L' hq => ?_)
  obtain ⟨rfl, rfl, rfl⟩ := hq
  simp only [Option.toList_some, Option.toList_none, List.drop_succ_cons, List.drop_zero, List.drop_nil, List.cons_append, List.nil_append]
  refine r_if_eq (tgt := 32) dX11_good_9 (by decide) (fun c => ?_) (fun c => ?_)
  · rw [if_pos c] at h
    refine r_iconst (v := (-1)) dX11_good_32 (by decide) ?_
    refine r_iret (by first | rfl | decide) dX11_good_33 ?_
    obtain rfl := Option.some.inj h
    exact ⟨rfl, rfl, rfl⟩
  · rw [if_neg c] at h
    refine r_iload_n (i := 2) dX11_good_12 rfl rfl ?_
    refine r_i2l dX11_good_13 ?_
    refine r_lconst (v := 1) dX11_good_14 (by decide) ?_
    refine r_ldc2 n_X11_72 dX11_good_15 ?_
    obtain ⟨r2, hr, h⟩ := bind_some h
    refine r_S (d' := 0) k_X11_50 dX11_good_18 (by omega) rfl (Nat.le_of_ble_eq_true rfl) (Nat.le_of_ble_eq_true rfl) (ok_X11_in (Nat.le_refl _) hr) (fun v I' L' hq => ?_)
    obtain ⟨rfl, rfl, rfl⟩ := hq
    simp only [Option.toList_some, Option.toList_none, List.drop_succ_cons, List.drop_zero, List.drop_nil, List.cons_append, List.nil_append]
    refine r_if_eq (tgt := 32) dX11_good_21 (by decide) (fun c => ?_) (fun c => ?_)
    · rw [if_pos c] at h
      refine r_iconst (v := (-1)) dX11_good_32 (by decide) ?_
      refine r_iret (by first | rfl | decide) dX11_good_33 ?_
      obtain rfl := Option.some.inj h
      exact ⟨rfl, rfl, rfl⟩
    · rw [if_neg c] at h
      refine r_aload_n (i := 0) dX11_good_24 rfl rfl ?_
      refine r_iload_n (i := 3) dX11_good_25 rfl rfl ?_
      obtain ⟨r3, hr, h⟩ := bind_some h
      refine r_V (d' := 1) k_X11_68 dX11_good_26 (by omega) rfl rfl rfl (Nat.le_of_ble_eq_true rfl) (Nat.le_of_ble_eq_true rfl) (ok_X11_isParish_67 (Nat.le_refl _) hr) (fun v I' L' hq => ?_)
      obtain ⟨rfl, rfl, rfl⟩ := hq
      simp only [Option.toList_some, Option.toList_none, List.drop_succ_cons, List.drop_zero, List.drop_nil, List.cons_append, List.nil_append]
      refine r_if_ne (tgt := 34) dX11_good_29 (by decide) (fun c => ?_) (fun c => ?_)
      · rw [if_neg c] at h
        refine r_aload_n (i := 0) dX11_good_34 rfl rfl ?_
        refine r_getR f_X11_7 dX11_good_35 rfl rfl ?_
        refine r_iconst (v := 3) dX11_good_38 (by decide) ?_
        refine r_iald rfl (vp_lit (by decide)) dX11_good_39 ?_
        refine r_bipush (v := 6) dX11_good_40 (by decide) ?_
        refine r_icmp_ne (tgt := 48) dX11_good_42 (by decide) (fun c => ?_) (fun c => ?_)
        · rw [if_neg c] at h
          refine r_aload_n (i := 0) dX11_good_48 rfl rfl ?_
          refine r_getR f_X11_7 dX11_good_49 rfl rfl ?_
          refine r_iconst (v := 3) dX11_good_52 (by decide) ?_
          refine r_iald rfl (vp_lit (by decide)) dX11_good_53 ?_
          refine r_istore dX11_good_54 (by decide) rfl ?_
          simp only [List.set_cons_zero, List.set_cons_succ]
          replace h := lt_some h
          refine r_aload_n (i := 0) dX11_good_56 rfl rfl ?_
          refine r_getR f_X11_7 dX11_good_57 rfl rfl ?_
          refine r_bipush (v := 99) dX11_good_60 (by decide) ?_
          refine r_iload dX11_good_62 rfl ?_
          refine r_iadd dX11_good_64 ?_
          refine r_iload_n (i := 1) dX11_good_65 rfl rfl ?_
          obtain ⟨hb, h⟩ := ck_some h
          refine r_iast rfl (inb_vp hb) dX11_good_66 ?_
          replace h := lt_some h
          refine r_aload_n (i := 0) dX11_good_67 rfl rfl ?_
          refine r_getR f_X11_7 dX11_good_68 rfl rfl ?_
          refine r_bipush (v := 105) dX11_good_71 (by decide) ?_
          refine r_iload dX11_good_73 rfl ?_
          refine r_iadd dX11_good_75 ?_
          refine r_iload_n (i := 2) dX11_good_76 rfl rfl ?_
          obtain ⟨hb, h⟩ := ck_some h
          refine r_iast rfl (inb_vp hb) dX11_good_77 ?_
          replace h := lt_some h
          refine r_aload_n (i := 0) dX11_good_78 rfl rfl ?_
          refine r_getR f_X11_7 dX11_good_79 rfl rfl ?_
          refine r_bipush (v := 111) dX11_good_82 (by decide) ?_
          refine r_iload dX11_good_84 rfl ?_
          refine r_iadd dX11_good_86 ?_
          refine r_iload_n (i := 3) dX11_good_87 rfl rfl ?_
          obtain ⟨hb, h⟩ := ck_some h
          refine r_iast rfl (inb_vp hb) dX11_good_88 ?_
          replace h := lt_some h
          refine r_aload_n (i := 0) dX11_good_89 rfl rfl ?_
          refine r_getR f_X11_7 dX11_good_90 rfl rfl ?_
          refine r_bipush (v := 117) dX11_good_93 (by decide) ?_
          refine r_iload dX11_good_95 rfl ?_
          refine r_iadd dX11_good_97 ?_
          refine r_iconst (v := 0) dX11_good_98 (by decide) ?_
          obtain ⟨hb, h⟩ := ck_some h
          refine r_iast rfl (inb_vp hb) dX11_good_99 ?_
          replace h := lt_some h
          refine r_aload_n (i := 0) dX11_good_100 rfl rfl ?_
          refine r_getR f_X11_7 dX11_good_101 rfl rfl ?_
          refine r_iconst (v := 3) dX11_good_104 (by decide) ?_
          refine r_dup2 dX11_good_105 rfl rfl ?_
          refine r_iald rfl (vp_lit (by decide)) dX11_good_106 ?_
          refine r_iconst (v := 1) dX11_good_107 (by decide) ?_
          refine r_iadd dX11_good_108 ?_
          refine r_iast rfl (vp_lit (by decide)) dX11_good_109 ?_
          replace h := lt_some h
          refine r_iload dX11_good_110 rfl ?_
          refine r_iret (by first | rfl | decide) dX11_good_112 ?_
          obtain rfl := Option.some.inj h
          exact ⟨rfl, rfl, rfl⟩
        · rw [if_pos c] at h
          refine r_bipush (v := (-3)) dX11_good_45 (by decide) ?_
          refine r_iret (by first | rfl | decide) dX11_good_47 ?_
          obtain rfl := Option.some.inj h
          exact ⟨rfl, rfl, rfl⟩
      · rw [if_pos c] at h
        refine r_iconst (v := (-1)) dX11_good_32 (by decide) ?_
        refine r_iret (by first | rfl | decide) dX11_good_33 ?_
        obtain rfl := Option.some.inj h
        exact ⟨rfl, rfl, rfl⟩
def f_X11_hang_67_b55 (I : mI) (L : mL) (x1 : Int32) (x2 : Int32) : rI := ck (inb (117 + x1) 135) (lt (I 68 (117 + x1).toNatClampNeg) (fun v3 => ck (inb (117 + x1) 135) (lt (uI I 68 (117 + x1).toNatClampNeg x2) (fun M4 => some (v3, M4, L)))))
theorem ok_X11_hang_67_b55 {d : Nat} (hd : 2 ≤ d){I : mI} {L : mL} (x1 : Int32) (x2 : Int32) {o : Int32 × mI × mL} (h : f_X11_hang_67_b55 I L x1 x2 = some o) : RR mX11_hang d 55 [some (.ref 67), some (.int x1), some (.int x2), none] [] I L (retQ (some (.int o.1)) o.2.1 o.2.2) := by
  unfold f_X11_hang_67_b55 at h
  refine r_aload_n (i := 0) dX11_hang_55 rfl rfl ?_
  refine r_getR f_X11_7 dX11_hang_56 rfl rfl ?_
  refine r_bipush (v := 117) dX11_hang_59 (by decide) ?_
  refine r_iload_n (i := 1) dX11_hang_61 rfl rfl ?_
  refine r_iadd dX11_hang_62 ?_
  obtain ⟨hb, h⟩ := ck_some h
  refine r_iald rfl (inb_vp hb) dX11_hang_63 ?_
  refine r_istore_n (i := 3) dX11_hang_64 rfl (by decide) rfl ?_
  simp only [List.set_cons_zero, List.set_cons_succ]
  replace h := lt_some h
  refine r_aload_n (i := 0) dX11_hang_65 rfl rfl ?_
  refine r_getR f_X11_7 dX11_hang_66 rfl rfl ?_
  refine r_bipush (v := 117) dX11_hang_69 (by decide) ?_
  refine r_iload_n (i := 1) dX11_hang_71 rfl rfl ?_
  refine r_iadd dX11_hang_72 ?_
  refine r_iload_n (i := 2) dX11_hang_73 rfl rfl ?_
  obtain ⟨hb, h⟩ := ck_some h
  refine r_iast rfl (inb_vp hb) dX11_hang_74 ?_
  replace h := lt_some h
  refine r_iload_n (i := 3) dX11_hang_75 rfl rfl ?_
  refine r_iret (by first | rfl | decide) dX11_hang_76 ?_
  obtain rfl := Option.some.inj h
  exact ⟨rfl, rfl, rfl⟩
def f_X11_hang_67 (I : mI) (L : mL) (a1 : Int32) (a2 : Int32) : rI := (f_X11_isGood_67 I L a1).bind (fun r1 => if r1 = 0 then (some ((-1), I, L)) else ((f_X11_in I L (a2.toInt64) 0 999).bind (fun r2 => if r2 = 0 then (some ((-1), I, L)) else (if a2 ≤ 0 then (f_X11_hang_67_b55 I L a1 a2) else (ck (inb (111 + a1) 135) (ck (inb (99 + a1) 135) ((f_X11_weight_67 I L (I 68 (111 + a1).toNatClampNeg) (I 68 (99 + a1).toNatClampNeg)).bind (fun r5 => if r5 ≤ a2 then (f_X11_hang_67_b55 I L a1 a2) else (some ((-2), I, L))))))))))
theorem ok_X11_hang_67 {d : Nat} (hd : 2 ≤ d) {I : mI} {L : mL} {a1 : Int32} {a2 : Int32} {o : Int32 × mI × mL} (h : f_X11_hang_67 I L a1 a2 = some o) : RR mX11_hang d 0 [some (.ref 67), some (.int a1), some (.int a2), none] [] I L (retQ (some (.int o.1)) o.2.1 o.2.2) := by
  unfold f_X11_hang_67 at h
  refine r_aload_n (i := 0) dX11_hang_0 rfl rfl ?_
  refine r_iload_n (i := 1) dX11_hang_1 rfl rfl ?_
  obtain ⟨r1, hr, h⟩ := bind_some h
  refine r_V (d' := 1) k_X11_85 dX11_hang_2 (by omega) rfl rfl rfl (Nat.le_of_ble_eq_true rfl) (Nat.le_of_ble_eq_true rfl) (ok_X11_isGood_67 (Nat.le_refl _) hr) (fun v I' L' hq => ?_)
  obtain ⟨rfl, rfl, rfl⟩ := hq
  simp only [Option.toList_some, Option.toList_none, List.drop_succ_cons, List.drop_zero, List.drop_nil, List.cons_append, List.nil_append]
  refine r_if_eq (tgt := 20) dX11_hang_5 (by decide) (fun c => ?_) (fun c => ?_)
  · rw [if_pos c] at h
    refine r_iconst (v := (-1)) dX11_hang_20 (by decide) ?_
    refine r_iret (by first | rfl | decide) dX11_hang_21 ?_
    obtain rfl := Option.some.inj h
    exact ⟨rfl, rfl, rfl⟩
  · rw [if_neg c] at h
    refine r_iload_n (i := 2) dX11_hang_8 rfl rfl ?_
    refine r_i2l dX11_hang_9 ?_
    refine r_lconst (v := 0) dX11_hang_10 (by decide) ?_
    refine r_ldc2 n_X11_81 dX11_hang_11 ?_
    obtain ⟨r2, hr, h⟩ := bind_some h
    refine r_S (d' := 0) k_X11_50 dX11_hang_14 (by omega) rfl (Nat.le_of_ble_eq_true rfl) (Nat.le_of_ble_eq_true rfl) (ok_X11_in (Nat.le_refl _) hr) (fun v I' L' hq => ?_)
    obtain ⟨rfl, rfl, rfl⟩ := hq
    simp only [Option.toList_some, Option.toList_none, List.drop_succ_cons, List.drop_zero, List.drop_nil, List.cons_append, List.nil_append]
    refine r_if_ne (tgt := 22) dX11_hang_17 (by decide) (fun c => ?_) (fun c => ?_)
    · rw [if_neg c] at h
      refine r_iload_n (i := 2) dX11_hang_22 rfl rfl ?_
      refine r_if_le (tgt := 55) dX11_hang_23 (by decide) (fun c => ?_) (fun c => ?_)
      · rw [if_pos c] at h
        exact RR.wk (ok_X11_hang_67_b55 hd _ _ h) (And.intro rfl (And.intro rfl (And.intro rfl (trivial))))
      · rw [if_neg c] at h
        refine r_aload_n (i := 0) dX11_hang_26 rfl rfl ?_
        refine r_aload_n (i := 0) dX11_hang_27 rfl rfl ?_
        refine r_getR f_X11_7 dX11_hang_28 rfl rfl ?_
        refine r_bipush (v := 111) dX11_hang_31 (by decide) ?_
        refine r_iload_n (i := 1) dX11_hang_33 rfl rfl ?_
        refine r_iadd dX11_hang_34 ?_
        obtain ⟨hb, h⟩ := ck_some h
        refine r_iald rfl (inb_vp hb) dX11_hang_35 ?_
        refine r_aload_n (i := 0) dX11_hang_36 rfl rfl ?_
        refine r_getR f_X11_7 dX11_hang_37 rfl rfl ?_
        refine r_bipush (v := 99) dX11_hang_40 (by decide) ?_
        refine r_iload_n (i := 1) dX11_hang_42 rfl rfl ?_
        refine r_iadd dX11_hang_43 ?_
        obtain ⟨hb, h⟩ := ck_some h
        refine r_iald rfl (inb_vp hb) dX11_hang_44 ?_
        obtain ⟨r5, hr, h⟩ := bind_some h
        refine r_V (d' := 1) k_X11_88 dX11_hang_45 (by omega) rfl rfl rfl (Nat.le_of_ble_eq_true rfl) (Nat.le_of_ble_eq_true rfl) (ok_X11_weight_67 (Nat.le_refl _) hr) (fun v I' L' hq => ?_)
        obtain ⟨rfl, rfl, rfl⟩ := hq
        simp only [Option.toList_some, Option.toList_none, List.drop_succ_cons, List.drop_zero, List.drop_nil, List.cons_append, List.nil_append]
        refine r_iload_n (i := 2) dX11_hang_48 rfl rfl ?_
        refine r_icmp_le (tgt := 55) dX11_hang_49 (by decide) (fun c => ?_) (fun c => ?_)
        · rw [if_pos c] at h
          exact RR.wk (ok_X11_hang_67_b55 hd _ _ h) (And.intro rfl (And.intro rfl (And.intro rfl (trivial))))
        · rw [if_neg c] at h
          refine r_bipush (v := (-2)) dX11_hang_52 (by decide) ?_
          refine r_iret (by first | rfl | decide) dX11_hang_54 ?_
          obtain rfl := Option.some.inj h
          exact ⟨rfl, rfl, rfl⟩
    · rw [if_pos c] at h
      refine r_iconst (v := (-1)) dX11_hang_20 (by decide) ?_
      refine r_iret (by first | rfl | decide) dX11_hang_21 ?_
      obtain rfl := Option.some.inj h
      exact ⟨rfl, rfl, rfl⟩
def f_X11_person_67 (I : mI) (L : mL) (a1 : Int32) (a2 : Int32) : rI := (f_X11_in I L (a1.toInt64) 1 99).bind (fun r1 => if r1 = 0 then (some ((-1), I, L)) else ((f_X11_isParish_67 I L a2).bind (fun r2 => if r2 = 0 then (some ((-1), I, L)) else (if (I 68 (4 : Int32).toNatClampNeg) = 6 then (some ((-3), I, L)) else (lt (I 68 (4 : Int32).toNatClampNeg) (fun v3 => ck (inb (123 + v3) 135) (lt (uI I 68 (123 + v3).toNatClampNeg a1) (fun M4 => ck (inb (129 + v3) 135) (lt (uI M4 68 (129 + v3).toNatClampNeg a2) (fun M5 => lt (uI M5 68 (4 : Int32).toNatClampNeg ((M5 68 (4 : Int32).toNatClampNeg) + 1)) (fun M6 => some (v3, M6, L))))))))))))
theorem ok_X11_person_67 {d : Nat} (hd : 2 ≤ d) {I : mI} {L : mL} {a1 : Int32} {a2 : Int32} {o : Int32 × mI × mL} (h : f_X11_person_67 I L a1 a2 = some o) : RR mX11_person d 0 [some (.ref 67), some (.int a1), some (.int a2), none] [] I L (retQ (some (.int o.1)) o.2.1 o.2.2) := by
  unfold f_X11_person_67 at h
  refine r_iload_n (i := 1) dX11_person_0 rfl rfl ?_
  refine r_i2l dX11_person_1 ?_
  refine r_lconst (v := 1) dX11_person_2 (by decide) ?_
  refine r_ldc2 n_X11_83 dX11_person_3 ?_
  obtain ⟨r1, hr, h⟩ := bind_some h
  refine r_S (d' := 0) k_X11_50 dX11_person_6 (by omega) rfl (Nat.le_of_ble_eq_true rfl) (Nat.le_of_ble_eq_true rfl) (ok_X11_in (Nat.le_refl _) hr) (fun v I' L' hq => ?_)
  obtain ⟨rfl, rfl, rfl⟩ := hq
  simp only [Option.toList_some, Option.toList_none, List.drop_succ_cons, List.drop_zero, List.drop_nil, List.cons_append, List.nil_append]
  refine r_if_eq (tgt := 20) dX11_person_9 (by decide) (fun c => ?_) (fun c => ?_)
  · rw [if_pos c] at h
    refine r_iconst (v := (-1)) dX11_person_20 (by decide) ?_
    refine r_iret (by first | rfl | decide) dX11_person_21 ?_
    obtain rfl := Option.some.inj h
    exact ⟨rfl, rfl, rfl⟩
  · rw [if_neg c] at h
    refine r_aload_n (i := 0) dX11_person_12 rfl rfl ?_
    refine r_iload_n (i := 2) dX11_person_13 rfl rfl ?_
    obtain ⟨r2, hr, h⟩ := bind_some h
    refine r_V (d' := 1) k_X11_68 dX11_person_14 (by omega) rfl rfl rfl (Nat.le_of_ble_eq_true rfl) (Nat.le_of_ble_eq_true rfl) (ok_X11_isParish_67 (Nat.le_refl _) hr) (fun v I' L' hq => ?_)
    obtain ⟨rfl, rfl, rfl⟩ := hq
    simp only [Option.toList_some, Option.toList_none, List.drop_succ_cons, List.drop_zero, List.drop_nil, List.cons_append, List.nil_append]
    refine r_if_ne (tgt := 22) dX11_person_17 (by decide) (fun c => ?_) (fun c => ?_)
    · rw [if_neg c] at h
      refine r_aload_n (i := 0) dX11_person_22 rfl rfl ?_
      refine r_getR f_X11_7 dX11_person_23 rfl rfl ?_
      refine r_iconst (v := 4) dX11_person_26 (by decide) ?_
      refine r_iald rfl (vp_lit (by decide)) dX11_person_27 ?_
      refine r_bipush (v := 6) dX11_person_28 (by decide) ?_
      refine r_icmp_ne (tgt := 36) dX11_person_30 (by decide) (fun c => ?_) (fun c => ?_)
      · rw [if_neg c] at h
        refine r_aload_n (i := 0) dX11_person_36 rfl rfl ?_
        refine r_getR f_X11_7 dX11_person_37 rfl rfl ?_
        refine r_iconst (v := 4) dX11_person_40 (by decide) ?_
        refine r_iald rfl (vp_lit (by decide)) dX11_person_41 ?_
        refine r_istore_n (i := 3) dX11_person_42 rfl (by decide) rfl ?_
        simp only [List.set_cons_zero, List.set_cons_succ]
        replace h := lt_some h
        refine r_aload_n (i := 0) dX11_person_43 rfl rfl ?_
        refine r_getR f_X11_7 dX11_person_44 rfl rfl ?_
        refine r_bipush (v := 123) dX11_person_47 (by decide) ?_
        refine r_iload_n (i := 3) dX11_person_49 rfl rfl ?_
        refine r_iadd dX11_person_50 ?_
        refine r_iload_n (i := 1) dX11_person_51 rfl rfl ?_
        obtain ⟨hb, h⟩ := ck_some h
        refine r_iast rfl (inb_vp hb) dX11_person_52 ?_
        replace h := lt_some h
        refine r_aload_n (i := 0) dX11_person_53 rfl rfl ?_
        refine r_getR f_X11_7 dX11_person_54 rfl rfl ?_
        refine r_sipush (v := 129) dX11_person_57 (by decide) ?_
        refine r_iload_n (i := 3) dX11_person_60 rfl rfl ?_
        refine r_iadd dX11_person_61 ?_
        refine r_iload_n (i := 2) dX11_person_62 rfl rfl ?_
        obtain ⟨hb, h⟩ := ck_some h
        refine r_iast rfl (inb_vp hb) dX11_person_63 ?_
        replace h := lt_some h
        refine r_aload_n (i := 0) dX11_person_64 rfl rfl ?_
        refine r_getR f_X11_7 dX11_person_65 rfl rfl ?_
        refine r_iconst (v := 4) dX11_person_68 (by decide) ?_
        refine r_dup2 dX11_person_69 rfl rfl ?_
        refine r_iald rfl (vp_lit (by decide)) dX11_person_70 ?_
        refine r_iconst (v := 1) dX11_person_71 (by decide) ?_
        refine r_iadd dX11_person_72 ?_
        refine r_iast rfl (vp_lit (by decide)) dX11_person_73 ?_
        replace h := lt_some h
        refine r_iload_n (i := 3) dX11_person_74 rfl rfl ?_
        refine r_iret (by first | rfl | decide) dX11_person_75 ?_
        obtain rfl := Option.some.inj h
        exact ⟨rfl, rfl, rfl⟩
      · rw [if_pos c] at h
        refine r_bipush (v := (-3)) dX11_person_33 (by decide) ?_
        refine r_iret (by first | rfl | decide) dX11_person_35 ?_
        obtain rfl := Option.some.inj h
        exact ⟨rfl, rfl, rfl⟩
    · rw [if_pos c] at h
      refine r_iconst (v := (-1)) dX11_person_20 (by decide) ?_
      refine r_iret (by first | rfl | decide) dX11_person_21 ?_
      obtain rfl := Option.some.inj h
      exact ⟨rfl, rfl, rfl⟩
def f_X11_of_67_l176 (I : mI) (L : mL) : Nat → Int32 → Int32 → Int32 → Int32 → Option Int32
  | 0, _, _, _, _ => none
  | n + 1, x1, x2, x3, x4 => if (I 68 (4 : Int32).toNatClampNeg) ≤ x4 then (some x3) else (if x2 = 7 then (ck (inb (129 + x4) 135) (if (I 68 (129 + x4).toNatClampNeg) = x1 then (lt (x3 ||| ((1 : Int32) <<< (x4 &&& 31))) (fun v5 => lt (x4 + Int32.ofInt 1) (fun v6 => f_X11_of_67_l176 I L n x1 x2 v5 v6))) else (lt (x3 ||| 0) (fun v3 => lt (x4 + Int32.ofInt 1) (fun v4 => f_X11_of_67_l176 I L n x1 x2 v3 v4))))) else (some x3))
theorem ok_X11_of_67_l176 {d : Nat} (hd : 2 ≤ d){I : mI} {L : mL} : ∀ (n : Nat) (x1 : Int32) (x2 : Int32) (x3 : Int32) (x4 : Int32) (o : Int32), f_X11_of_67_l176 I L n x1 x2 x3 x4 = some o → RR mX11_of d 176 [some (.ref 67), some (.int x1), some (.int x2), some (.int x3), some (.int x4)] [] I L (retQ (some (.int o)) I L) := by
  intro n
  induction n with
  | zero => intro x1 x2 x3 x4 o h; rw [f_X11_of_67_l176] at h; cases h
  | succ n ih =>
    intro x1 x2 x3 x4 o h
    rw [f_X11_of_67_l176] at h
    refine r_iload dX11_of_176 rfl ?_
    refine r_aload_n (i := 0) dX11_of_178 rfl rfl ?_
    refine r_getR f_X11_7 dX11_of_179 rfl rfl ?_
    refine r_iconst (v := 4) dX11_of_182 (by decide) ?_
    refine r_iald rfl (vp_lit (by decide)) dX11_of_183 ?_
    refine r_icmp_ge (tgt := 225) dX11_of_184 (by decide) (fun c => ?_) (fun c => ?_)
    · rw [if_pos c] at h
      refine r_iload_n (i := 3) dX11_of_225 rfl rfl ?_
      refine r_iret (by first | rfl | decide) dX11_of_226 ?_
      obtain rfl := Option.some.inj h
      exact ⟨rfl, rfl, rfl⟩
    · rw [if_neg c] at h
      refine r_iload_n (i := 2) dX11_of_187 rfl rfl ?_
      refine r_bipush (v := 7) dX11_of_188 (by decide) ?_
      refine r_icmp_ne (tgt := 225) dX11_of_190 (by decide) (fun c => ?_) (fun c => ?_)
      · rw [if_neg c] at h
        refine r_iload_n (i := 3) dX11_of_225 rfl rfl ?_
        refine r_iret (by first | rfl | decide) dX11_of_226 ?_
        obtain rfl := Option.some.inj h
        exact ⟨rfl, rfl, rfl⟩
      · rw [if_pos c] at h
        refine r_iload_n (i := 3) dX11_of_193 rfl rfl ?_
        refine r_aload_n (i := 0) dX11_of_194 rfl rfl ?_
        refine r_getR f_X11_7 dX11_of_195 rfl rfl ?_
        refine r_sipush (v := 129) dX11_of_198 (by decide) ?_
        refine r_iload dX11_of_201 rfl ?_
        refine r_iadd dX11_of_203 ?_
        obtain ⟨hb, h⟩ := ck_some h
        refine r_iald rfl (inb_vp hb) dX11_of_204 ?_
        refine r_iload_n (i := 1) dX11_of_205 rfl rfl ?_
        refine r_icmp_ne (tgt := 216) dX11_of_206 (by decide) (fun c => ?_) (fun c => ?_)
        · rw [if_neg c] at h
          refine r_iconst (v := 0) dX11_of_216 (by decide) ?_
          refine r_ior dX11_of_217 ?_
          refine r_istore_n (i := 3) dX11_of_218 rfl (by decide) rfl ?_
          simp only [List.set_cons_zero, List.set_cons_succ]
          replace h := lt_some h
          refine r_iinc (v := _) dX11_of_219 rfl rfl (by decide) rfl ?_
          simp only [List.set_cons_zero, List.set_cons_succ]
          replace h := lt_some h
          refine r_goto (tgt := 176) dX11_of_222 (by decide) ?_
          exact RR.wk (ih _ _ _ _ _ h) (And.intro rfl (And.intro rfl (And.intro rfl (And.intro rfl (And.intro rfl (trivial))))))
        · rw [if_pos c] at h
          refine r_iconst (v := 1) dX11_of_209 (by decide) ?_
          refine r_iload dX11_of_210 rfl ?_
          refine r_ishl dX11_of_212 ?_
          refine r_goto (tgt := 217) dX11_of_213 (by decide) ?_
          refine r_ior dX11_of_217 ?_
          refine r_istore_n (i := 3) dX11_of_218 rfl (by decide) rfl ?_
          simp only [List.set_cons_zero, List.set_cons_succ]
          replace h := lt_some h
          refine r_iinc (v := _) dX11_of_219 rfl rfl (by decide) rfl ?_
          simp only [List.set_cons_zero, List.set_cons_succ]
          replace h := lt_some h
          refine r_goto (tgt := 176) dX11_of_222 (by decide) ?_
          exact RR.wk (ih _ _ _ _ _ h) (And.intro rfl (And.intro rfl (And.intro rfl (And.intro rfl (And.intro rfl (trivial))))))
def f_X11_of_67_l125 (I : mI) (L : mL) : Nat → Int32 → Int32 → Int32 → Int32 → Option Int32
  | 0, _, _, _, _ => none
  | n + 1, x1, x2, x3, x4 => if (I 68 (3 : Int32).toNatClampNeg) ≤ x4 then (f_X11_of_67_l176 I L fuel x1 x2 x3 0) else (if x2 = 6 then (ck (inb (111 + x4) 135) (if (I 68 (111 + x4).toNatClampNeg) = x1 then (lt (x3 ||| ((1 : Int32) <<< (x4 &&& 31))) (fun v9 => lt (x4 + Int32.ofInt 1) (fun v10 => f_X11_of_67_l125 I L n x1 x2 v9 v10))) else (lt (x3 ||| 0) (fun v7 => lt (x4 + Int32.ofInt 1) (fun v8 => f_X11_of_67_l125 I L n x1 x2 v7 v8))))) else (f_X11_of_67_l176 I L fuel x1 x2 x3 0))
theorem ok_X11_of_67_l125 {d : Nat} (hd : 2 ≤ d){I : mI} {L : mL} : ∀ (n : Nat) (x1 : Int32) (x2 : Int32) (x3 : Int32) (x4 : Int32) (o : Int32), f_X11_of_67_l125 I L n x1 x2 x3 x4 = some o → RR mX11_of d 125 [some (.ref 67), some (.int x1), some (.int x2), some (.int x3), some (.int x4)] [] I L (retQ (some (.int o)) I L) := by
  intro n
  induction n with
  | zero => intro x1 x2 x3 x4 o h; rw [f_X11_of_67_l125] at h; cases h
  | succ n ih =>
    intro x1 x2 x3 x4 o h
    rw [f_X11_of_67_l125] at h
    refine r_iload dX11_of_125 rfl ?_
    refine r_aload_n (i := 0) dX11_of_127 rfl rfl ?_
    refine r_getR f_X11_7 dX11_of_128 rfl rfl ?_
    refine r_iconst (v := 3) dX11_of_131 (by decide) ?_
    refine r_iald rfl (vp_lit (by decide)) dX11_of_132 ?_
    refine r_icmp_ge (tgt := 173) dX11_of_133 (by decide) (fun c => ?_) (fun c => ?_)
    · rw [if_pos c] at h
      refine r_iconst (v := 0) dX11_of_173 (by decide) ?_
      refine r_istore dX11_of_174 (by decide) rfl ?_
      simp only [List.set_cons_zero, List.set_cons_succ]
      exact RR.wk (ok_X11_of_67_l176 hd _ _ _ _ _ _ h) (And.intro rfl (And.intro rfl (And.intro rfl (And.intro rfl (And.intro rfl (trivial))))))
    · rw [if_neg c] at h
      refine r_iload_n (i := 2) dX11_of_136 rfl rfl ?_
      refine r_bipush (v := 6) dX11_of_137 (by decide) ?_
      refine r_icmp_ne (tgt := 173) dX11_of_139 (by decide) (fun c => ?_) (fun c => ?_)
      · rw [if_neg c] at h
        refine r_iconst (v := 0) dX11_of_173 (by decide) ?_
        refine r_istore dX11_of_174 (by decide) rfl ?_
        simp only [List.set_cons_zero, List.set_cons_succ]
        exact RR.wk (ok_X11_of_67_l176 hd _ _ _ _ _ _ h) (And.intro rfl (And.intro rfl (And.intro rfl (And.intro rfl (And.intro rfl (trivial))))))
      · rw [if_pos c] at h
        refine r_iload_n (i := 3) dX11_of_142 rfl rfl ?_
        refine r_aload_n (i := 0) dX11_of_143 rfl rfl ?_
        refine r_getR f_X11_7 dX11_of_144 rfl rfl ?_
        refine r_bipush (v := 111) dX11_of_147 (by decide) ?_
        refine r_iload dX11_of_149 rfl ?_
        refine r_iadd dX11_of_151 ?_
        obtain ⟨hb, h⟩ := ck_some h
        refine r_iald rfl (inb_vp hb) dX11_of_152 ?_
        refine r_iload_n (i := 1) dX11_of_153 rfl rfl ?_
        refine r_icmp_ne (tgt := 164) dX11_of_154 (by decide) (fun c => ?_) (fun c => ?_)
        · rw [if_neg c] at h
          refine r_iconst (v := 0) dX11_of_164 (by decide) ?_
          refine r_ior dX11_of_165 ?_
          refine r_istore_n (i := 3) dX11_of_166 rfl (by decide) rfl ?_
          simp only [List.set_cons_zero, List.set_cons_succ]
          replace h := lt_some h
          refine r_iinc (v := _) dX11_of_167 rfl rfl (by decide) rfl ?_
          simp only [List.set_cons_zero, List.set_cons_succ]
          replace h := lt_some h
          refine r_goto (tgt := 125) dX11_of_170 (by decide) ?_
          exact RR.wk (ih _ _ _ _ _ h) (And.intro rfl (And.intro rfl (And.intro rfl (And.intro rfl (And.intro rfl (trivial))))))
        · rw [if_pos c] at h
          refine r_iconst (v := 1) dX11_of_157 (by decide) ?_
          refine r_iload dX11_of_158 rfl ?_
          refine r_ishl dX11_of_160 ?_
          refine r_goto (tgt := 165) dX11_of_161 (by decide) ?_
          refine r_ior dX11_of_165 ?_
          refine r_istore_n (i := 3) dX11_of_166 rfl (by decide) rfl ?_
          simp only [List.set_cons_zero, List.set_cons_succ]
          replace h := lt_some h
          refine r_iinc (v := _) dX11_of_167 rfl rfl (by decide) rfl ?_
          simp only [List.set_cons_zero, List.set_cons_succ]
          replace h := lt_some h
          refine r_goto (tgt := 125) dX11_of_170 (by decide) ?_
          exact RR.wk (ih _ _ _ _ _ h) (And.intro rfl (And.intro rfl (And.intro rfl (And.intro rfl (And.intro rfl (trivial))))))
def f_X11_of_67_l64 (I : mI) (L : mL) : Nat → Int32 → Int32 → Int32 → Int32 → Option Int32
  | 0, _, _, _, _ => none
  | n + 1, x1, x2, x3, x4 => if (I 68 (1 : Int32).toNatClampNeg) ≤ x4 then (f_X11_of_67_l125 I L fuel x1 x2 x3 0) else (if x2 = 5 then (ck (inb (46 + x4) 135) (if (I 68 (46 + x4).toNatClampNeg) = x1 then (lt (x3 + 1) (fun v11 => lt (x4 + Int32.ofInt 1) (fun v12 => f_X11_of_67_l64 I L n x1 x2 v11 v12))) else (ck (inb (61 + x4) 135) (if (I 68 (61 + x4).toNatClampNeg) = x1 then (lt (x3 + 1) (fun v15 => lt (x4 + Int32.ofInt 1) (fun v16 => f_X11_of_67_l64 I L n x1 x2 v15 v16))) else (lt (x3 + 0) (fun v13 => lt (x4 + Int32.ofInt 1) (fun v14 => f_X11_of_67_l64 I L n x1 x2 v13 v14))))))) else (f_X11_of_67_l125 I L fuel x1 x2 x3 0))
theorem ok_X11_of_67_l64 {d : Nat} (hd : 2 ≤ d){I : mI} {L : mL} : ∀ (n : Nat) (x1 : Int32) (x2 : Int32) (x3 : Int32) (x4 : Int32) (o : Int32), f_X11_of_67_l64 I L n x1 x2 x3 x4 = some o → RR mX11_of d 64 [some (.ref 67), some (.int x1), some (.int x2), some (.int x3), some (.int x4)] [] I L (retQ (some (.int o)) I L) := by
  intro n
  induction n with
  | zero => intro x1 x2 x3 x4 o h; rw [f_X11_of_67_l64] at h; cases h
  | succ n ih =>
    intro x1 x2 x3 x4 o h
    rw [f_X11_of_67_l64] at h
    refine r_iload dX11_of_64 rfl ?_
    refine r_aload_n (i := 0) dX11_of_66 rfl rfl ?_
    refine r_getR f_X11_7 dX11_of_67 rfl rfl ?_
    refine r_iconst (v := 1) dX11_of_70 (by decide) ?_
    refine r_iald rfl (vp_lit (by decide)) dX11_of_71 ?_
    refine r_icmp_ge (tgt := 122) dX11_of_72 (by decide) (fun c => ?_) (fun c => ?_)
    · rw [if_pos c] at h
      refine r_iconst (v := 0) dX11_of_122 (by decide) ?_
      refine r_istore dX11_of_123 (by decide) rfl ?_
      simp only [List.set_cons_zero, List.set_cons_succ]
      exact RR.wk (ok_X11_of_67_l125 hd _ _ _ _ _ _ h) (And.intro rfl (And.intro rfl (And.intro rfl (And.intro rfl (And.intro rfl (trivial))))))
    · rw [if_neg c] at h
      refine r_iload_n (i := 2) dX11_of_75 rfl rfl ?_
      refine r_iconst (v := 5) dX11_of_76 (by decide) ?_
      refine r_icmp_ne (tgt := 122) dX11_of_77 (by decide) (fun c => ?_) (fun c => ?_)
      · rw [if_neg c] at h
        refine r_iconst (v := 0) dX11_of_122 (by decide) ?_
        refine r_istore dX11_of_123 (by decide) rfl ?_
        simp only [List.set_cons_zero, List.set_cons_succ]
        exact RR.wk (ok_X11_of_67_l125 hd _ _ _ _ _ _ h) (And.intro rfl (And.intro rfl (And.intro rfl (And.intro rfl (And.intro rfl (trivial))))))
      · rw [if_pos c] at h
        refine r_iload_n (i := 3) dX11_of_80 rfl rfl ?_
        refine r_aload_n (i := 0) dX11_of_81 rfl rfl ?_
        refine r_getR f_X11_7 dX11_of_82 rfl rfl ?_
        refine r_bipush (v := 46) dX11_of_85 (by decide) ?_
        refine r_iload dX11_of_87 rfl ?_
        refine r_iadd dX11_of_89 ?_
        obtain ⟨hb, h⟩ := ck_some h
        refine r_iald rfl (inb_vp hb) dX11_of_90 ?_
        refine r_iload_n (i := 1) dX11_of_91 rfl rfl ?_
        refine r_icmp_eq (tgt := 109) dX11_of_92 (by decide) (fun c => ?_) (fun c => ?_)
        · rw [if_pos c] at h
          refine r_iconst (v := 1) dX11_of_109 (by decide) ?_
          refine r_goto (tgt := 114) dX11_of_110 (by decide) ?_
          refine r_iadd dX11_of_114 ?_
          refine r_istore_n (i := 3) dX11_of_115 rfl (by decide) rfl ?_
          simp only [List.set_cons_zero, List.set_cons_succ]
          replace h := lt_some h
          refine r_iinc (v := _) dX11_of_116 rfl rfl (by decide) rfl ?_
          simp only [List.set_cons_zero, List.set_cons_succ]
          replace h := lt_some h
          refine r_goto (tgt := 64) dX11_of_119 (by decide) ?_
          exact RR.wk (ih _ _ _ _ _ h) (And.intro rfl (And.intro rfl (And.intro rfl (And.intro rfl (And.intro rfl (trivial))))))
        · rw [if_neg c] at h
          refine r_aload_n (i := 0) dX11_of_95 rfl rfl ?_
          refine r_getR f_X11_7 dX11_of_96 rfl rfl ?_
          refine r_bipush (v := 61) dX11_of_99 (by decide) ?_
          refine r_iload dX11_of_101 rfl ?_
          refine r_iadd dX11_of_103 ?_
          obtain ⟨hb, h⟩ := ck_some h
          refine r_iald rfl (inb_vp hb) dX11_of_104 ?_
          refine r_iload_n (i := 1) dX11_of_105 rfl rfl ?_
          refine r_icmp_ne (tgt := 113) dX11_of_106 (by decide) (fun c => ?_) (fun c => ?_)
          · rw [if_neg c] at h
            refine r_iconst (v := 0) dX11_of_113 (by decide) ?_
            refine r_iadd dX11_of_114 ?_
            refine r_istore_n (i := 3) dX11_of_115 rfl (by decide) rfl ?_
            simp only [List.set_cons_zero, List.set_cons_succ]
            replace h := lt_some h
            refine r_iinc (v := _) dX11_of_116 rfl rfl (by decide) rfl ?_
            simp only [List.set_cons_zero, List.set_cons_succ]
            replace h := lt_some h
            refine r_goto (tgt := 64) dX11_of_119 (by decide) ?_
            exact RR.wk (ih _ _ _ _ _ h) (And.intro rfl (And.intro rfl (And.intro rfl (And.intro rfl (And.intro rfl (trivial))))))
          · rw [if_pos c] at h
            refine r_iconst (v := 1) dX11_of_109 (by decide) ?_
            refine r_goto (tgt := 114) dX11_of_110 (by decide) ?_
            refine r_iadd dX11_of_114 ?_
            refine r_istore_n (i := 3) dX11_of_115 rfl (by decide) rfl ?_
            simp only [List.set_cons_zero, List.set_cons_succ]
            replace h := lt_some h
            refine r_iinc (v := _) dX11_of_116 rfl rfl (by decide) rfl ?_
            simp only [List.set_cons_zero, List.set_cons_succ]
            replace h := lt_some h
            refine r_goto (tgt := 64) dX11_of_119 (by decide) ?_
            exact RR.wk (ih _ _ _ _ _ h) (And.intro rfl (And.intro rfl (And.intro rfl (And.intro rfl (And.intro rfl (trivial))))))
def f_X11_of_67 (I : mI) (L : mL) (a1 : Int32) (a2 : Int32) : Option Int32 := (f_X11_isParish_67 I L a1).bind (fun r1 => if r1 = 0 then (some (-1)) else ((f_X11_in I L (a2.toInt64) 0 7).bind (fun r2 => if r2 = 0 then (some (-1)) else (if 5 ≤ a2 then (f_X11_of_67_l64 I L fuel a1 a2 0 0) else (if a2 = 0 then (ck (inb (6 + a1) 135) (some (I 68 (6 + a1).toNatClampNeg))) else (ck (inb (((14 + (4 * a1)) + a2) - 1) 135) (some (I 68 (((14 + (4 * a1)) + a2) - 1).toNatClampNeg))))))))
theorem ok_X11_of_67 {d : Nat} (hd : 2 ≤ d) {I : mI} {L : mL} {a1 : Int32} {a2 : Int32} {o : Int32} (h : f_X11_of_67 I L a1 a2 = some o) : RR mX11_of d 0 [some (.ref 67), some (.int a1), some (.int a2), none, none] [] I L (retQ (some (.int o)) I L) := by
  unfold f_X11_of_67 at h
  refine r_aload_n (i := 0) dX11_of_0 rfl rfl ?_
  refine r_iload_n (i := 1) dX11_of_1 rfl rfl ?_
  obtain ⟨r1, hr, h⟩ := bind_some h
  refine r_V (d' := 1) k_X11_68 dX11_of_2 (by omega) rfl rfl rfl (Nat.le_of_ble_eq_true rfl) (Nat.le_of_ble_eq_true rfl) (ok_X11_isParish_67 (Nat.le_refl _) hr) (fun v I' L' hq => ?_)
  obtain ⟨rfl, rfl, rfl⟩ := hq
  simp only [Option.toList_some, Option.toList_none, List.drop_succ_cons, List.drop_zero, List.drop_nil, List.cons_append, List.nil_append]
  refine r_if_eq (tgt := 20) dX11_of_5 (by decide) (fun c => ?_) (fun c => ?_)
  · rw [if_pos c] at h
    refine r_iconst (v := (-1)) dX11_of_20 (by decide) ?_
    refine r_iret (by first | rfl | decide) dX11_of_21 ?_
    obtain rfl := Option.some.inj h
    exact ⟨rfl, rfl, rfl⟩
  · rw [if_neg c] at h
    refine r_iload_n (i := 2) dX11_of_8 rfl rfl ?_
    refine r_i2l dX11_of_9 ?_
    refine r_lconst (v := 0) dX11_of_10 (by decide) ?_
    refine r_ldc2 n_X11_91 dX11_of_11 ?_
    obtain ⟨r2, hr, h⟩ := bind_some h
    refine r_S (d' := 0) k_X11_50 dX11_of_14 (by omega) rfl (Nat.le_of_ble_eq_true rfl) (Nat.le_of_ble_eq_true rfl) (ok_X11_in (Nat.le_refl _) hr) (fun v I' L' hq => ?_)
    obtain ⟨rfl, rfl, rfl⟩ := hq
    simp only [Option.toList_some, Option.toList_none, List.drop_succ_cons, List.drop_zero, List.drop_nil, List.cons_append, List.nil_append]
    refine r_if_ne (tgt := 22) dX11_of_17 (by decide) (fun c => ?_) (fun c => ?_)
    · rw [if_neg c] at h
      refine r_iload_n (i := 2) dX11_of_22 rfl rfl ?_
      refine r_iconst (v := 5) dX11_of_23 (by decide) ?_
      refine r_icmp_ge (tgt := 59) dX11_of_24 (by decide) (fun c => ?_) (fun c => ?_)
      · rw [if_pos c] at h
        refine r_iconst (v := 0) dX11_of_59 (by decide) ?_
        refine r_istore_n (i := 3) dX11_of_60 rfl (by decide) rfl ?_
        simp only [List.set_cons_zero, List.set_cons_succ]
        refine r_iconst (v := 0) dX11_of_61 (by decide) ?_
        refine r_istore dX11_of_62 (by decide) rfl ?_
        simp only [List.set_cons_zero, List.set_cons_succ]
        exact RR.wk (ok_X11_of_67_l64 hd _ _ _ _ _ _ h) (And.intro rfl (And.intro rfl (And.intro rfl (And.intro rfl (And.intro rfl (trivial))))))
      · rw [if_neg c] at h
        refine r_iload_n (i := 2) dX11_of_27 rfl rfl ?_
        refine r_if_ne (tgt := 43) dX11_of_28 (by decide) (fun c => ?_) (fun c => ?_)
        · rw [if_neg c] at h
          refine r_aload_n (i := 0) dX11_of_43 rfl rfl ?_
          refine r_getR f_X11_7 dX11_of_44 rfl rfl ?_
          refine r_bipush (v := 14) dX11_of_47 (by decide) ?_
          refine r_iconst (v := 4) dX11_of_49 (by decide) ?_
          refine r_iload_n (i := 1) dX11_of_50 rfl rfl ?_
          refine r_imul dX11_of_51 ?_
          refine r_iadd dX11_of_52 ?_
          refine r_iload_n (i := 2) dX11_of_53 rfl rfl ?_
          refine r_iadd dX11_of_54 ?_
          refine r_iconst (v := 1) dX11_of_55 (by decide) ?_
          refine r_isub dX11_of_56 ?_
          obtain ⟨hb, h⟩ := ck_some h
          refine r_iald rfl (inb_vp hb) dX11_of_57 ?_
          refine r_iret (by first | rfl | decide) dX11_of_58 ?_
          obtain rfl := Option.some.inj h
          exact ⟨rfl, rfl, rfl⟩
        · rw [if_pos c] at h
          refine r_aload_n (i := 0) dX11_of_31 rfl rfl ?_
          refine r_getR f_X11_7 dX11_of_32 rfl rfl ?_
          refine r_bipush (v := 6) dX11_of_35 (by decide) ?_
          refine r_iload_n (i := 1) dX11_of_37 rfl rfl ?_
          refine r_iadd dX11_of_38 ?_
          obtain ⟨hb, h⟩ := ck_some h
          refine r_iald rfl (inb_vp hb) dX11_of_39 ?_
          refine r_goto (tgt := 58) dX11_of_40 (by decide) ?_
          refine r_iret (by first | rfl | decide) dX11_of_58 ?_
          obtain rfl := Option.some.inj h
          exact ⟨rfl, rfl, rfl⟩
    · rw [if_pos c] at h
      refine r_iconst (v := (-1)) dX11_of_20 (by decide) ?_
      refine r_iret (by first | rfl | decide) dX11_of_21 ?_
      obtain rfl := Option.some.inj h
      exact ⟨rfl, rfl, rfl⟩
def f_X11_told_67_b157 (I : mI) (L : mL) (x1 : Int32) (s0 : Int32) : Option Int32 := ck (inb (s0 + x1) 135) (some (I 68 (s0 + x1).toNatClampNeg))
theorem ok_X11_told_67_b157 {d : Nat} (hd : 2 ≤ d){I : mI} {L : mL} (x1 : Int32) (s0 : Int32) {o : Int32} (h : f_X11_told_67_b157 I L x1 s0 = some o) : RR mX11_told d 157 [some (.ref 67), some (.int x1), none, none, none] [.int s0] I L (retQ (some (.int o)) I L) := by
  unfold f_X11_told_67_b157 at h
  refine r_istore dX11_told_157 (by decide) rfl ?_
  simp only [List.set_cons_zero, List.set_cons_succ]
  refine r_aload_n (i := 0) dX11_told_159 rfl rfl ?_
  refine r_getR f_X11_7 dX11_told_160 rfl rfl ?_
  refine r_iload dX11_told_163 rfl ?_
  refine r_iload_n (i := 1) dX11_told_165 rfl rfl ?_
  refine r_iadd dX11_told_166 ?_
  obtain ⟨hb, h⟩ := ck_some h
  refine r_iald rfl (inb_vp hb) dX11_told_167 ?_
  refine r_iret (by first | rfl | decide) dX11_told_168 ?_
  obtain rfl := Option.some.inj h
  exact ⟨rfl, rfl, rfl⟩
def f_X11_told_67_b91 (I : mI) (L : mL) (x1 : Int32) (x2 : Int32) (s0 : Int32) : Option Int32 := if s0 = 0 then (some (-1)) else (if 3 ≤ x2 then (if 5 ≤ x2 then (if 9 ≤ x2 then (f_X11_told_67_b157 I L x1 (123 + (6 * (x2 - 9)))) else (f_X11_told_67_b157 I L x1 (99 + (6 * (x2 - 5))))) else (f_X11_told_67_b157 I L x1 (91 + (4 * (x2 - 3))))) else (f_X11_told_67_b157 I L x1 (46 + (15 * x2))))
theorem ok_X11_told_67_b91 {d : Nat} (hd : 2 ≤ d){I : mI} {L : mL} (x1 : Int32) (x2 : Int32) (s0 : Int32) {o : Int32} (h : f_X11_told_67_b91 I L x1 x2 s0 = some o) : RR mX11_told d 91 [some (.ref 67), some (.int x1), some (.int x2), none, none] [.int s0] I L (retQ (some (.int o)) I L) := by
  unfold f_X11_told_67_b91 at h
  refine r_istore_n (i := 3) dX11_told_91 rfl (by decide) rfl ?_
  simp only [List.set_cons_zero, List.set_cons_succ]
  refine r_iload_n (i := 3) dX11_told_92 rfl rfl ?_
  refine r_if_ne (tgt := 98) dX11_told_93 (by decide) (fun c => ?_) (fun c => ?_)
  · rw [if_neg c] at h
    refine r_iload_n (i := 2) dX11_told_98 rfl rfl ?_
    refine r_iconst (v := 3) dX11_told_99 (by decide) ?_
    refine r_icmp_ge (tgt := 113) dX11_told_100 (by decide) (fun c => ?_) (fun c => ?_)
    · rw [if_pos c] at h
      refine r_iload_n (i := 2) dX11_told_113 rfl rfl ?_
      refine r_iconst (v := 5) dX11_told_114 (by decide) ?_
      refine r_icmp_ge (tgt := 129) dX11_told_115 (by decide) (fun c => ?_) (fun c => ?_)
      · rw [if_pos c] at h
        refine r_iload_n (i := 2) dX11_told_129 rfl rfl ?_
        refine r_bipush (v := 9) dX11_told_130 (by decide) ?_
        refine r_icmp_ge (tgt := 147) dX11_told_132 (by decide) (fun c => ?_) (fun c => ?_)
        · rw [if_pos c] at h
          refine r_bipush (v := 123) dX11_told_147 (by decide) ?_
          refine r_bipush (v := 6) dX11_told_149 (by decide) ?_
          refine r_iload_n (i := 2) dX11_told_151 rfl rfl ?_
          refine r_bipush (v := 9) dX11_told_152 (by decide) ?_
          refine r_isub dX11_told_154 ?_
          refine r_imul dX11_told_155 ?_
          refine r_iadd dX11_told_156 ?_
          exact RR.wk (ok_X11_told_67_b157 hd _ _ h) (And.intro rfl (And.intro rfl (trivial)))
        · rw [if_neg c] at h
          refine r_bipush (v := 99) dX11_told_135 (by decide) ?_
          refine r_bipush (v := 6) dX11_told_137 (by decide) ?_
          refine r_iload_n (i := 2) dX11_told_139 rfl rfl ?_
          refine r_iconst (v := 5) dX11_told_140 (by decide) ?_
          refine r_isub dX11_told_141 ?_
          refine r_imul dX11_told_142 ?_
          refine r_iadd dX11_told_143 ?_
          refine r_goto (tgt := 157) dX11_told_144 (by decide) ?_
          exact RR.wk (ok_X11_told_67_b157 hd _ _ h) (And.intro rfl (And.intro rfl (trivial)))
      · rw [if_neg c] at h
        refine r_bipush (v := 91) dX11_told_118 (by decide) ?_
        refine r_iconst (v := 4) dX11_told_120 (by decide) ?_
        refine r_iload_n (i := 2) dX11_told_121 rfl rfl ?_
        refine r_iconst (v := 3) dX11_told_122 (by decide) ?_
        refine r_isub dX11_told_123 ?_
        refine r_imul dX11_told_124 ?_
        refine r_iadd dX11_told_125 ?_
        refine r_goto (tgt := 157) dX11_told_126 (by decide) ?_
        exact RR.wk (ok_X11_told_67_b157 hd _ _ h) (And.intro rfl (And.intro rfl (trivial)))
    · rw [if_neg c] at h
      refine r_bipush (v := 46) dX11_told_103 (by decide) ?_
      refine r_bipush (v := 15) dX11_told_105 (by decide) ?_
      refine r_iload_n (i := 2) dX11_told_107 rfl rfl ?_
      refine r_imul dX11_told_108 ?_
      refine r_iadd dX11_told_109 ?_
      refine r_goto (tgt := 157) dX11_told_110 (by decide) ?_
      exact RR.wk (ok_X11_told_67_b157 hd _ _ h) (And.intro rfl (And.intro rfl (trivial)))
  · rw [if_pos c] at h
    refine r_iconst (v := (-1)) dX11_told_96 (by decide) ?_
    refine r_iret (by first | rfl | decide) dX11_told_97 ?_
    obtain rfl := Option.some.inj h
    exact ⟨rfl, rfl, rfl⟩
def f_X11_told_67_b90 (I : mI) (L : mL) (x1 : Int32) (x2 : Int32) : Option Int32 := f_X11_told_67_b91 I L x1 x2 0
theorem ok_X11_told_67_b90 {d : Nat} (hd : 2 ≤ d){I : mI} {L : mL} (x1 : Int32) (x2 : Int32) {o : Int32} (h : f_X11_told_67_b90 I L x1 x2 = some o) : RR mX11_told d 90 [some (.ref 67), some (.int x1), some (.int x2), none, none] [] I L (retQ (some (.int o)) I L) := by
  unfold f_X11_told_67_b90 at h
  refine r_iconst (v := 0) dX11_told_90 (by decide) ?_
  exact RR.wk (ok_X11_told_67_b91 hd _ _ _ h) (And.intro rfl (And.intro rfl (And.intro rfl (trivial))))
def f_X11_told_67 (I : mI) (L : mL) (a1 : Int32) (a2 : Int32) : Option Int32 := (f_X11_in I L (a2.toInt64) 0 2).bind (fun r1 => if r1 = 0 then ((f_X11_in I L (a2.toInt64) 3 4).bind (fun r2 => if r2 = 0 then ((f_X11_in I L (a2.toInt64) 5 8).bind (fun r3 => if r3 = 0 then ((f_X11_in I L (a2.toInt64) 9 10).bind (fun r4 => if r4 = 0 then (f_X11_told_67_b90 I L a1 a2) else ((f_X11_isPerson_67 I L a1).bind (fun r5 => if r5 = 0 then (f_X11_told_67_b90 I L a1 a2) else (f_X11_told_67_b91 I L a1 a2 1))))) else ((f_X11_isGood_67 I L a1).bind (fun r6 => f_X11_told_67_b91 I L a1 a2 r6)))) else ((f_X11_isCart_67 I L a1).bind (fun r7 => f_X11_told_67_b91 I L a1 a2 r7)))) else ((f_X11_isRoad_67 I L a1).bind (fun r8 => f_X11_told_67_b91 I L a1 a2 r8)))
theorem ok_X11_told_67 {d : Nat} (hd : 2 ≤ d) {I : mI} {L : mL} {a1 : Int32} {a2 : Int32} {o : Int32} (h : f_X11_told_67 I L a1 a2 = some o) : RR mX11_told d 0 [some (.ref 67), some (.int a1), some (.int a2), none, none] [] I L (retQ (some (.int o)) I L) := by
  unfold f_X11_told_67 at h
  refine r_iload_n (i := 2) dX11_told_0 rfl rfl ?_
  refine r_i2l dX11_told_1 ?_
  refine r_lconst (v := 0) dX11_told_2 (by decide) ?_
  refine r_ldc2 n_X11_93 dX11_told_3 ?_
  obtain ⟨r1, hr, h⟩ := bind_some h
  refine r_S (d' := 0) k_X11_50 dX11_told_6 (by omega) rfl (Nat.le_of_ble_eq_true rfl) (Nat.le_of_ble_eq_true rfl) (ok_X11_in (Nat.le_refl _) hr) (fun v I' L' hq => ?_)
  obtain ⟨rfl, rfl, rfl⟩ := hq
  simp only [Option.toList_some, Option.toList_none, List.drop_succ_cons, List.drop_zero, List.drop_nil, List.cons_append, List.nil_append]
  refine r_if_eq (tgt := 20) dX11_told_9 (by decide) (fun c => ?_) (fun c => ?_)
  · rw [if_pos c] at h
    refine r_iload_n (i := 2) dX11_told_20 rfl rfl ?_
    refine r_i2l dX11_told_21 ?_
    refine r_ldc2 n_X11_62 dX11_told_22 ?_
    refine r_ldc2 n_X11_95 dX11_told_25 ?_
    obtain ⟨r2, hr, h⟩ := bind_some h
    refine r_S (d' := 0) k_X11_50 dX11_told_28 (by omega) rfl (Nat.le_of_ble_eq_true rfl) (Nat.le_of_ble_eq_true rfl) (ok_X11_in (Nat.le_refl _) hr) (fun v I' L' hq => ?_)
    obtain ⟨rfl, rfl, rfl⟩ := hq
    simp only [Option.toList_some, Option.toList_none, List.drop_succ_cons, List.drop_zero, List.drop_nil, List.cons_append, List.nil_append]
    refine r_if_eq (tgt := 42) dX11_told_31 (by decide) (fun c => ?_) (fun c => ?_)
    · rw [if_pos c] at h
      refine r_iload_n (i := 2) dX11_told_42 rfl rfl ?_
      refine r_i2l dX11_told_43 ?_
      refine r_ldc2 n_X11_100 dX11_told_44 ?_
      refine r_ldc2 n_X11_102 dX11_told_47 ?_
      obtain ⟨r3, hr, h⟩ := bind_some h
      refine r_S (d' := 0) k_X11_50 dX11_told_50 (by omega) rfl (Nat.le_of_ble_eq_true rfl) (Nat.le_of_ble_eq_true rfl) (ok_X11_in (Nat.le_refl _) hr) (fun v I' L' hq => ?_)
      obtain ⟨rfl, rfl, rfl⟩ := hq
      simp only [Option.toList_some, Option.toList_none, List.drop_succ_cons, List.drop_zero, List.drop_nil, List.cons_append, List.nil_append]
      refine r_if_eq (tgt := 64) dX11_told_53 (by decide) (fun c => ?_) (fun c => ?_)
      · rw [if_pos c] at h
        refine r_iload_n (i := 2) dX11_told_64 rfl rfl ?_
        refine r_i2l dX11_told_65 ?_
        refine r_ldc2 n_X11_72 dX11_told_66 ?_
        refine r_ldc2 n_X11_104 dX11_told_69 ?_
        obtain ⟨r4, hr, h⟩ := bind_some h
        refine r_S (d' := 0) k_X11_50 dX11_told_72 (by omega) rfl (Nat.le_of_ble_eq_true rfl) (Nat.le_of_ble_eq_true rfl) (ok_X11_in (Nat.le_refl _) hr) (fun v I' L' hq => ?_)
        obtain ⟨rfl, rfl, rfl⟩ := hq
        simp only [Option.toList_some, Option.toList_none, List.drop_succ_cons, List.drop_zero, List.drop_nil, List.cons_append, List.nil_append]
        refine r_if_eq (tgt := 90) dX11_told_75 (by decide) (fun c => ?_) (fun c => ?_)
        · rw [if_pos c] at h
          exact RR.wk (ok_X11_told_67_b90 hd _ _ h) (And.intro rfl (And.intro rfl (And.intro rfl (trivial))))
        · rw [if_neg c] at h
          refine r_aload_n (i := 0) dX11_told_78 rfl rfl ?_
          refine r_iload_n (i := 1) dX11_told_79 rfl rfl ?_
          obtain ⟨r5, hr, h⟩ := bind_some h
          refine r_V (d' := 1) k_X11_106 dX11_told_80 (by omega) rfl rfl rfl (Nat.le_of_ble_eq_true rfl) (Nat.le_of_ble_eq_true rfl) (ok_X11_isPerson_67 (Nat.le_refl _) hr) (fun v I' L' hq => ?_)
          obtain ⟨rfl, rfl, rfl⟩ := hq
          simp only [Option.toList_some, Option.toList_none, List.drop_succ_cons, List.drop_zero, List.drop_nil, List.cons_append, List.nil_append]
          refine r_if_eq (tgt := 90) dX11_told_83 (by decide) (fun c => ?_) (fun c => ?_)
          · rw [if_pos c] at h
            exact RR.wk (ok_X11_told_67_b90 hd _ _ h) (And.intro rfl (And.intro rfl (And.intro rfl (trivial))))
          · rw [if_neg c] at h
            refine r_iconst (v := 1) dX11_told_86 (by decide) ?_
            refine r_goto (tgt := 91) dX11_told_87 (by decide) ?_
            exact RR.wk (ok_X11_told_67_b91 hd _ _ _ h) (And.intro rfl (And.intro rfl (And.intro rfl (trivial))))
      · rw [if_neg c] at h
        refine r_aload_n (i := 0) dX11_told_56 rfl rfl ?_
        refine r_iload_n (i := 1) dX11_told_57 rfl rfl ?_
        obtain ⟨r6, hr, h⟩ := bind_some h
        refine r_V (d' := 1) k_X11_85 dX11_told_58 (by omega) rfl rfl rfl (Nat.le_of_ble_eq_true rfl) (Nat.le_of_ble_eq_true rfl) (ok_X11_isGood_67 (Nat.le_refl _) hr) (fun v I' L' hq => ?_)
        obtain ⟨rfl, rfl, rfl⟩ := hq
        simp only [Option.toList_some, Option.toList_none, List.drop_succ_cons, List.drop_zero, List.drop_nil, List.cons_append, List.nil_append]
        refine r_goto (tgt := 91) dX11_told_61 (by decide) ?_
        exact RR.wk (ok_X11_told_67_b91 hd _ _ _ h) (And.intro rfl (And.intro rfl (And.intro rfl (trivial))))
    · rw [if_neg c] at h
      refine r_aload_n (i := 0) dX11_told_34 rfl rfl ?_
      refine r_iload_n (i := 1) dX11_told_35 rfl rfl ?_
      obtain ⟨r7, hr, h⟩ := bind_some h
      refine r_V (d' := 1) k_X11_97 dX11_told_36 (by omega) rfl rfl rfl (Nat.le_of_ble_eq_true rfl) (Nat.le_of_ble_eq_true rfl) (ok_X11_isCart_67 (Nat.le_refl _) hr) (fun v I' L' hq => ?_)
      obtain ⟨rfl, rfl, rfl⟩ := hq
      simp only [Option.toList_some, Option.toList_none, List.drop_succ_cons, List.drop_zero, List.drop_nil, List.cons_append, List.nil_append]
      refine r_goto (tgt := 91) dX11_told_39 (by decide) ?_
      exact RR.wk (ok_X11_told_67_b91 hd _ _ _ h) (And.intro rfl (And.intro rfl (And.intro rfl (trivial))))
  · rw [if_neg c] at h
    refine r_aload_n (i := 0) dX11_told_12 rfl rfl ?_
    refine r_iload_n (i := 1) dX11_told_13 rfl rfl ?_
    obtain ⟨r8, hr, h⟩ := bind_some h
    refine r_V (d' := 1) k_X11_78 dX11_told_14 (by omega) rfl rfl rfl (Nat.le_of_ble_eq_true rfl) (Nat.le_of_ble_eq_true rfl) (ok_X11_isRoad_67 (Nat.le_refl _) hr) (fun v I' L' hq => ?_)
    obtain ⟨rfl, rfl, rfl⟩ := hq
    simp only [Option.toList_some, Option.toList_none, List.drop_succ_cons, List.drop_zero, List.drop_nil, List.cons_append, List.nil_append]
    refine r_goto (tgt := 91) dX11_told_17 (by decide) ?_
    exact RR.wk (ok_X11_told_67_b91 hd _ _ _ h) (And.intro rfl (And.intro rfl (And.intro rfl (trivial))))
def f_X11_weighs_67 (I : mI) (L : mL) (a1 : Int32) (a2 : Int32) : Option Int32 := (f_X11_isParish_67 I L a1).bind (fun r1 => if r1 = 0 then (some (-1)) else ((f_X11_in I L (a2.toInt64) 1 99).bind (fun r2 => if r2 = 0 then (some (-1)) else ((f_X11_weight_67 I L a1 a2).bind (fun r3 => some r3)))))
theorem ok_X11_weighs_67 {d : Nat} (hd : 2 ≤ d) {I : mI} {L : mL} {a1 : Int32} {a2 : Int32} {o : Int32} (h : f_X11_weighs_67 I L a1 a2 = some o) : RR mX11_weighs d 0 [some (.ref 67), some (.int a1), some (.int a2)] [] I L (retQ (some (.int o)) I L) := by
  unfold f_X11_weighs_67 at h
  refine r_aload_n (i := 0) dX11_weighs_0 rfl rfl ?_
  refine r_iload_n (i := 1) dX11_weighs_1 rfl rfl ?_
  obtain ⟨r1, hr, h⟩ := bind_some h
  refine r_V (d' := 1) k_X11_68 dX11_weighs_2 (by omega) rfl rfl rfl (Nat.le_of_ble_eq_true rfl) (Nat.le_of_ble_eq_true rfl) (ok_X11_isParish_67 (Nat.le_refl _) hr) (fun v I' L' hq => ?_)
  obtain ⟨rfl, rfl, rfl⟩ := hq
  simp only [Option.toList_some, Option.toList_none, List.drop_succ_cons, List.drop_zero, List.drop_nil, List.cons_append, List.nil_append]
  refine r_if_eq (tgt := 29) dX11_weighs_5 (by decide) (fun c => ?_) (fun c => ?_)
  · rw [if_pos c] at h
    refine r_iconst (v := (-1)) dX11_weighs_29 (by decide) ?_
    refine r_iret (by first | rfl | decide) dX11_weighs_30 ?_
    obtain rfl := Option.some.inj h
    exact ⟨rfl, rfl, rfl⟩
  · rw [if_neg c] at h
    refine r_iload_n (i := 2) dX11_weighs_8 rfl rfl ?_
    refine r_i2l dX11_weighs_9 ?_
    refine r_lconst (v := 1) dX11_weighs_10 (by decide) ?_
    refine r_ldc2 n_X11_83 dX11_weighs_11 ?_
    obtain ⟨r2, hr, h⟩ := bind_some h
    refine r_S (d' := 0) k_X11_50 dX11_weighs_14 (by omega) rfl (Nat.le_of_ble_eq_true rfl) (Nat.le_of_ble_eq_true rfl) (ok_X11_in (Nat.le_refl _) hr) (fun v I' L' hq => ?_)
    obtain ⟨rfl, rfl, rfl⟩ := hq
    simp only [Option.toList_some, Option.toList_none, List.drop_succ_cons, List.drop_zero, List.drop_nil, List.cons_append, List.nil_append]
    refine r_if_eq (tgt := 29) dX11_weighs_17 (by decide) (fun c => ?_) (fun c => ?_)
    · rw [if_pos c] at h
      refine r_iconst (v := (-1)) dX11_weighs_29 (by decide) ?_
      refine r_iret (by first | rfl | decide) dX11_weighs_30 ?_
      obtain rfl := Option.some.inj h
      exact ⟨rfl, rfl, rfl⟩
    · rw [if_neg c] at h
      refine r_aload_n (i := 0) dX11_weighs_20 rfl rfl ?_
      refine r_iload_n (i := 1) dX11_weighs_21 rfl rfl ?_
      refine r_iload_n (i := 2) dX11_weighs_22 rfl rfl ?_
      obtain ⟨r3, hr, h⟩ := bind_some h
      refine r_V (d' := 1) k_X11_88 dX11_weighs_23 (by omega) rfl rfl rfl (Nat.le_of_ble_eq_true rfl) (Nat.le_of_ble_eq_true rfl) (ok_X11_weight_67 (Nat.le_refl _) hr) (fun v I' L' hq => ?_)
      obtain ⟨rfl, rfl, rfl⟩ := hq
      simp only [Option.toList_some, Option.toList_none, List.drop_succ_cons, List.drop_zero, List.drop_nil, List.cons_append, List.nil_append]
      refine r_goto (tgt := 30) dX11_weighs_26 (by decide) ?_
      refine r_iret (by first | rfl | decide) dX11_weighs_30 ?_
      obtain rfl := Option.some.inj h
      exact ⟨rfl, rfl, rfl⟩
