def f_X10_within (I : mI) (L : mL) (a0 : Int32) (a1 : Int32) (a2 : Int32) : Option Int32 := if a0 < a1 then (some 0) else (if a2 < a0 then (some 0) else (some 1))
theorem ok_X10_within {d : Nat} (hd : 0 ≤ d) {I : mI} {L : mL} {a0 : Int32} {a1 : Int32} {a2 : Int32} {o : Int32} (h : f_X10_within I L a0 a1 a2 = some o) : RR mX10_within d 0 [some (.int a0), some (.int a1), some (.int a2)] [] I L (retQ (some (.int o)) I L) := by
  unfold f_X10_within at h
  refine r_iload_n (i := 0) dX10_within_0 rfl rfl ?_
  refine r_iload_n (i := 1) dX10_within_1 rfl rfl ?_
  refine r_icmp_lt (tgt := 14) dX10_within_2 (by decide) (fun c => ?_) (fun c => ?_)
  · rw [if_pos c] at h
    refine r_iconst (v := 0) dX10_within_14 (by decide) ?_
    refine r_iret (by first | rfl | decide) dX10_within_15 ?_
    obtain rfl := Option.some.inj h
    exact ⟨rfl, rfl, rfl⟩
  · rw [if_neg c] at h
    refine r_iload_n (i := 0) dX10_within_5 rfl rfl ?_
    refine r_iload_n (i := 2) dX10_within_6 rfl rfl ?_
    refine r_icmp_gt (tgt := 14) dX10_within_7 (by decide) (fun c => ?_) (fun c => ?_)
    · rw [if_pos c] at h
      refine r_iconst (v := 0) dX10_within_14 (by decide) ?_
      refine r_iret (by first | rfl | decide) dX10_within_15 ?_
      obtain rfl := Option.some.inj h
      exact ⟨rfl, rfl, rfl⟩
    · rw [if_neg c] at h
      refine r_iconst (v := 1) dX10_within_10 (by decide) ?_
      refine r_goto (tgt := 15) dX10_within_11 (by decide) ?_
      refine r_iret (by first | rfl | decide) dX10_within_15 ?_
      obtain rfl := Option.some.inj h
      exact ⟨rfl, rfl, rfl⟩
def f_X3_addParish_2_l14 : Nat → Int32 → Int32 → mI → mL → rI
  | 0, _, _, _, _ => none
  | n + 1, x2, x3, I, L => if 4 ≤ x3 then (lt (uI I 2 5 ((I 2 5) + 1)) (fun M3 => some (x2, M3, L))) else (ck (inb ((x2 * 4) + x3) 32) (lt (uI I 4 ((x2 * 4) + x3).toNatClampNeg 5) (fun M4 => lt (x3 + Int32.ofInt 1) (fun v5 => f_X3_addParish_2_l14 n x2 v5 M4 L))))
theorem ok_X3_addParish_2_l14 {d : Nat} (hd : 0 ≤ d) : ∀ (n : Nat) (x2 : Int32) (x3 : Int32) (I : mI) (L : mL) (o : Int32 × mI × mL), f_X3_addParish_2_l14 n x2 x3 I L = some o → RR mX3_addParish d 14 [some (.ref 2), none, some (.int x2), some (.int x3)] [] I L (retQ (some (.int o.1)) o.2.1 o.2.2) := by
  intro n
  induction n with
  | zero => intro x2 x3 I L o h; rw [f_X3_addParish_2_l14] at h; cases h
  | succ n ih =>
    intro x2 x3 I L o h
    rw [f_X3_addParish_2_l14] at h
    refine r_iload_n (i := 3) dX3_addParish_14 rfl rfl ?_
    refine r_iconst (v := 4) dX3_addParish_15 (by decide) ?_
    refine r_icmp_ge (tgt := 36) dX3_addParish_16 (by decide) (fun c => ?_) (fun c => ?_)
    · rw [if_pos c] at h
      refine r_aload_n (i := 0) dX3_addParish_36 rfl rfl ?_
      refine r_dup dX3_addParish_37 rfl ?_
      refine r_getI f_X3_27 dX3_addParish_38 rfl rfl ?_
      refine r_iconst (v := 1) dX3_addParish_41 (by decide) ?_
      refine r_iadd dX3_addParish_42 ?_
      refine r_putI f_X3_27 rfl rfl dX3_addParish_43 rfl rfl ?_
      replace h := lt_some h
      refine r_iload_n (i := 2) dX3_addParish_46 rfl rfl ?_
      refine r_iret (by first | rfl | decide) dX3_addParish_47 ?_
      obtain rfl := Option.some.inj h
      exact ⟨rfl, rfl, rfl⟩
    · rw [if_neg c] at h
      refine r_aload_n (i := 0) dX3_addParish_19 rfl rfl ?_
      refine r_getR f_X3_15 dX3_addParish_20 rfl rfl ?_
      refine r_iload_n (i := 2) dX3_addParish_23 rfl rfl ?_
      refine r_iconst (v := 4) dX3_addParish_24 (by decide) ?_
      refine r_imul dX3_addParish_25 ?_
      refine r_iload_n (i := 3) dX3_addParish_26 rfl rfl ?_
      refine r_iadd dX3_addParish_27 ?_
      refine r_iconst (v := 5) dX3_addParish_28 (by decide) ?_
      obtain ⟨hb, h⟩ := ck_some h
      refine r_iast rfl (inb_vp hb) dX3_addParish_29 ?_
      replace h := lt_some h
      refine r_iinc (v := _) dX3_addParish_30 rfl rfl (by decide) rfl ?_
      simp only [List.set_cons_zero, List.set_cons_succ]
      replace h := lt_some h
      refine r_goto (tgt := 14) dX3_addParish_33 (by decide) ?_
      exact RR.wk (ih _ _ _ _ _ h) (And.intro rfl (And.intro rfl (And.intro rfl (trivial))))
def f_X3_addParish_2 (I : mI) (L : mL) (a1 : Int32) : rI := lt (I 2 5) (fun v1 => ck (inb v1 8) (lt (uI I 3 v1.toNatClampNeg a1) (fun M2 => f_X3_addParish_2_l14 fuel v1 0 M2 L)))
theorem ok_X3_addParish_2 {d : Nat} (hd : 0 ≤ d) {I : mI} {L : mL} {a1 : Int32} {o : Int32 × mI × mL} (h : f_X3_addParish_2 I L a1 = some o) : RR mX3_addParish d 0 [some (.ref 2), some (.int a1), none, none] [] I L (retQ (some (.int o.1)) o.2.1 o.2.2) := by
  unfold f_X3_addParish_2 at h
  refine r_aload_n (i := 0) dX3_addParish_0 rfl rfl ?_
  refine r_getI f_X3_27 dX3_addParish_1 rfl rfl ?_
  refine r_istore_n (i := 2) dX3_addParish_4 rfl (by decide) rfl ?_
  simp only [List.set_cons_zero, List.set_cons_succ]
  replace h := lt_some h
  refine r_aload_n (i := 0) dX3_addParish_5 rfl rfl ?_
  refine r_getR f_X3_9 dX3_addParish_6 rfl rfl ?_
  refine r_iload_n (i := 2) dX3_addParish_9 rfl rfl ?_
  refine r_iload_n (i := 1) dX3_addParish_10 rfl rfl ?_
  obtain ⟨hb, h⟩ := ck_some h
  refine r_iast rfl (inb_vp hb) dX3_addParish_11 ?_
  replace h := lt_some h
  refine r_iconst (v := 0) dX3_addParish_12 (by decide) ?_
  refine r_istore_n (i := 3) dX3_addParish_13 rfl (by decide) rfl ?_
  simp only [List.set_cons_zero, List.set_cons_succ]
  exact RR.wk (ok_X3_addParish_2_l14 hd _ _ _ _ _ _ h) (And.intro rfl (And.intro rfl (And.intro rfl (trivial))))
def f_X10_parish_0 (I : mI) (L : mL) (a1 : Int32) : rI := (f_X10_within I L a1 0 3).bind (fun r1 => if r1 = 0 then (some ((-1), I, L)) else (if (I 2 5) < 8 then (bndI (f_X3_addParish_2 I L a1) (fun r2 Ir2 Lr2 => some (r2, Ir2, Lr2))) else (some ((-3), I, L))))
theorem ok_X10_parish_0 {d : Nat} (hd : 1 ≤ d) {I : mI} {L : mL} {a1 : Int32} {o : Int32 × mI × mL} (h : f_X10_parish_0 I L a1 = some o) : RR mX10_parish d 0 [some (.ref 0), some (.int a1)] [] I L (retQ (some (.int o.1)) o.2.1 o.2.2) := by
  unfold f_X10_parish_0 at h
  refine r_iload_n (i := 1) dX10_parish_0 rfl rfl ?_
  refine r_iconst (v := 0) dX10_parish_1 (by decide) ?_
  refine r_iconst (v := 3) dX10_parish_2 (by decide) ?_
  obtain ⟨r1, hr, h⟩ := bind_some h
  refine r_S (d' := 0) k_X10_72 dX10_parish_3 (by omega) rfl (Nat.le_of_ble_eq_true rfl) (Nat.le_of_ble_eq_true rfl) (ok_X10_within (Nat.le_refl _) hr) (fun v I' L' hq => ?_)
  obtain ⟨rfl, rfl, rfl⟩ := hq
  simp only [Option.toList_some, Option.toList_none, List.drop_succ_cons, List.drop_zero, List.drop_nil, List.cons_append, List.nil_append]
  refine r_if_ne (tgt := 11) dX10_parish_6 (by decide) (fun c => ?_) (fun c => ?_)
  · rw [if_neg c] at h
    refine r_aload_n (i := 0) dX10_parish_11 rfl rfl ?_
    refine r_getR f_X10_10 dX10_parish_12 rfl rfl ?_
    refine r_getR f_X10_76 dX10_parish_15 rfl rfl ?_
    refine r_getI f_X10_80 dX10_parish_18 rfl rfl ?_
    refine r_bipush (v := 8) dX10_parish_21 (by decide) ?_
    refine r_icmp_lt (tgt := 29) dX10_parish_23 (by decide) (fun c => ?_) (fun c => ?_)
    · rw [if_pos c] at h
      refine r_aload_n (i := 0) dX10_parish_29 rfl rfl ?_
      refine r_getR f_X10_10 dX10_parish_30 rfl rfl ?_
      refine r_getR f_X10_76 dX10_parish_33 rfl rfl ?_
      refine r_iload_n (i := 1) dX10_parish_36 rfl rfl ?_
      obtain ⟨⟨r2, Ir2, Lr2⟩, hr, h⟩ := bind_some h
      refine r_V (d' := 0) k_X10_86 dX10_parish_37 (by omega) rfl rfl rfl (Nat.le_of_ble_eq_true rfl) (Nat.le_of_ble_eq_true rfl) (ok_X3_addParish_2 (Nat.le_refl _) hr) (fun v I' L' hq => ?_)
      obtain ⟨rfl, rfl, rfl⟩ := hq
      simp only [Option.toList_some, Option.toList_none, List.drop_succ_cons, List.drop_zero, List.drop_nil, List.cons_append, List.nil_append]
      dsimp only at h
      refine r_iret (by first | rfl | decide) dX10_parish_40 ?_
      obtain rfl := Option.some.inj h
      exact ⟨rfl, rfl, rfl⟩
    · rw [if_neg c] at h
      refine r_bipush (v := (-3)) dX10_parish_26 (by decide) ?_
      refine r_iret (by first | rfl | decide) dX10_parish_28 ?_
      obtain rfl := Option.some.inj h
      exact ⟨rfl, rfl, rfl⟩
  · rw [if_pos c] at h
    refine r_iconst (v := (-1)) dX10_parish_9 (by decide) ?_
    refine r_iret (by first | rfl | decide) dX10_parish_10 ?_
    obtain rfl := Option.some.inj h
    exact ⟨rfl, rfl, rfl⟩
def f_X3_hasParish_2 (I : mI) (L : mL) (a1 : Int32) : Option Int32 := if a1 < 0 then (some 0) else (if (I 2 5) ≤ a1 then (some 0) else (some 1))
theorem ok_X3_hasParish_2 {d : Nat} (hd : 0 ≤ d) {I : mI} {L : mL} {a1 : Int32} {o : Int32} (h : f_X3_hasParish_2 I L a1 = some o) : RR mX3_hasParish d 0 [some (.ref 2), some (.int a1)] [] I L (retQ (some (.int o)) I L) := by
  unfold f_X3_hasParish_2 at h
  refine r_iload_n (i := 1) dX3_hasParish_0 rfl rfl ?_
  refine r_if_lt (tgt := 16) dX3_hasParish_1 (by decide) (fun c => ?_) (fun c => ?_)
  · rw [if_pos c] at h
    refine r_iconst (v := 0) dX3_hasParish_16 (by decide) ?_
    refine r_iret (by first | rfl | decide) dX3_hasParish_17 ?_
    obtain rfl := Option.some.inj h
    exact ⟨rfl, rfl, rfl⟩
  · rw [if_neg c] at h
    refine r_iload_n (i := 1) dX3_hasParish_4 rfl rfl ?_
    refine r_aload_n (i := 0) dX3_hasParish_5 rfl rfl ?_
    refine r_getI f_X3_27 dX3_hasParish_6 rfl rfl ?_
    refine r_icmp_ge (tgt := 16) dX3_hasParish_9 (by decide) (fun c => ?_) (fun c => ?_)
    · rw [if_pos c] at h
      refine r_iconst (v := 0) dX3_hasParish_16 (by decide) ?_
      refine r_iret (by first | rfl | decide) dX3_hasParish_17 ?_
      obtain rfl := Option.some.inj h
      exact ⟨rfl, rfl, rfl⟩
    · rw [if_neg c] at h
      refine r_iconst (v := 1) dX3_hasParish_12 (by decide) ?_
      refine r_goto (tgt := 17) dX3_hasParish_13 (by decide) ?_
      refine r_iret (by first | rfl | decide) dX3_hasParish_17 ?_
      obtain rfl := Option.some.inj h
      exact ⟨rfl, rfl, rfl⟩
def f_X10_pull_0 (I : mI) (L : mL) (a1 : Int32) (a2 : Int32) (a3 : Int32) : rI := (f_X3_hasParish_2 I L a1).bind (fun r1 => if r1 = 0 then (some ((-1), I, L)) else ((f_X10_within I L a2 0 3).bind (fun r2 => if r2 = 0 then (some ((-1), I, L)) else ((f_X10_within I L a3 1 9).bind (fun r3 => if r3 = 0 then (some ((-1), I, L)) else (ck (inb ((a1 * 4) + a2) 32) (lt (I 4 ((a1 * 4) + a2).toNatClampNeg) (fun v4 => ck (inb ((a1 * 4) + a2) 32) (lt (uI I 4 ((a1 * 4) + a2).toNatClampNeg a3) (fun M5 => some (v4, M5, L)))))))))))
theorem ok_X10_pull_0 {d : Nat} (hd : 1 ≤ d) {I : mI} {L : mL} {a1 : Int32} {a2 : Int32} {a3 : Int32} {o : Int32 × mI × mL} (h : f_X10_pull_0 I L a1 a2 a3 = some o) : RR mX10_pull d 0 [some (.ref 0), some (.int a1), some (.int a2), some (.int a3), none] [] I L (retQ (some (.int o.1)) o.2.1 o.2.2) := by
  unfold f_X10_pull_0 at h
  refine r_aload_n (i := 0) dX10_pull_0 rfl rfl ?_
  refine r_getR f_X10_10 dX10_pull_1 rfl rfl ?_
  refine r_getR f_X10_76 dX10_pull_4 rfl rfl ?_
  refine r_iload_n (i := 1) dX10_pull_7 rfl rfl ?_
  obtain ⟨r1, hr, h⟩ := bind_some h
  refine r_V (d' := 0) k_X10_90 dX10_pull_8 (by omega) rfl rfl rfl (Nat.le_of_ble_eq_true rfl) (Nat.le_of_ble_eq_true rfl) (ok_X3_hasParish_2 (Nat.le_refl _) hr) (fun v I' L' hq => ?_)
  obtain ⟨rfl, rfl, rfl⟩ := hq
  simp only [Option.toList_some, Option.toList_none, List.drop_succ_cons, List.drop_zero, List.drop_nil, List.cons_append, List.nil_append]
  refine r_if_eq (tgt := 33) dX10_pull_11 (by decide) (fun c => ?_) (fun c => ?_)
  · rw [if_pos c] at h
    refine r_iconst (v := (-1)) dX10_pull_33 (by decide) ?_
    refine r_iret (by first | rfl | decide) dX10_pull_34 ?_
    obtain rfl := Option.some.inj h
    exact ⟨rfl, rfl, rfl⟩
  · rw [if_neg c] at h
    refine r_iload_n (i := 2) dX10_pull_14 rfl rfl ?_
    refine r_iconst (v := 0) dX10_pull_15 (by decide) ?_
    refine r_iconst (v := 3) dX10_pull_16 (by decide) ?_
    obtain ⟨r2, hr, h⟩ := bind_some h
    refine r_S (d' := 0) k_X10_72 dX10_pull_17 (by omega) rfl (Nat.le_of_ble_eq_true rfl) (Nat.le_of_ble_eq_true rfl) (ok_X10_within (Nat.le_refl _) hr) (fun v I' L' hq => ?_)
    obtain ⟨rfl, rfl, rfl⟩ := hq
    simp only [Option.toList_some, Option.toList_none, List.drop_succ_cons, List.drop_zero, List.drop_nil, List.cons_append, List.nil_append]
    refine r_if_eq (tgt := 33) dX10_pull_20 (by decide) (fun c => ?_) (fun c => ?_)
    · rw [if_pos c] at h
      refine r_iconst (v := (-1)) dX10_pull_33 (by decide) ?_
      refine r_iret (by first | rfl | decide) dX10_pull_34 ?_
      obtain rfl := Option.some.inj h
      exact ⟨rfl, rfl, rfl⟩
    · rw [if_neg c] at h
      refine r_iload_n (i := 3) dX10_pull_23 rfl rfl ?_
      refine r_iconst (v := 1) dX10_pull_24 (by decide) ?_
      refine r_bipush (v := 9) dX10_pull_25 (by decide) ?_
      obtain ⟨r3, hr, h⟩ := bind_some h
      refine r_S (d' := 0) k_X10_72 dX10_pull_27 (by omega) rfl (Nat.le_of_ble_eq_true rfl) (Nat.le_of_ble_eq_true rfl) (ok_X10_within (Nat.le_refl _) hr) (fun v I' L' hq => ?_)
      obtain ⟨rfl, rfl, rfl⟩ := hq
      simp only [Option.toList_some, Option.toList_none, List.drop_succ_cons, List.drop_zero, List.drop_nil, List.cons_append, List.nil_append]
      refine r_if_ne (tgt := 35) dX10_pull_30 (by decide) (fun c => ?_) (fun c => ?_)
      · rw [if_neg c] at h
        refine r_aload_n (i := 0) dX10_pull_35 rfl rfl ?_
        refine r_getR f_X10_10 dX10_pull_36 rfl rfl ?_
        refine r_getR f_X10_76 dX10_pull_39 rfl rfl ?_
        refine r_getR f_X10_94 dX10_pull_42 rfl rfl ?_
        refine r_iload_n (i := 1) dX10_pull_45 rfl rfl ?_
        refine r_iconst (v := 4) dX10_pull_46 (by decide) ?_
        refine r_imul dX10_pull_47 ?_
        refine r_iload_n (i := 2) dX10_pull_48 rfl rfl ?_
        refine r_iadd dX10_pull_49 ?_
        obtain ⟨hb, h⟩ := ck_some h
        refine r_iald rfl (inb_vp hb) dX10_pull_50 ?_
        refine r_istore dX10_pull_51 (by decide) rfl ?_
        simp only [List.set_cons_zero, List.set_cons_succ]
        replace h := lt_some h
        refine r_aload_n (i := 0) dX10_pull_53 rfl rfl ?_
        refine r_getR f_X10_10 dX10_pull_54 rfl rfl ?_
        refine r_getR f_X10_76 dX10_pull_57 rfl rfl ?_
        refine r_getR f_X10_94 dX10_pull_60 rfl rfl ?_
        refine r_iload_n (i := 1) dX10_pull_63 rfl rfl ?_
        refine r_iconst (v := 4) dX10_pull_64 (by decide) ?_
        refine r_imul dX10_pull_65 ?_
        refine r_iload_n (i := 2) dX10_pull_66 rfl rfl ?_
        refine r_iadd dX10_pull_67 ?_
        refine r_iload_n (i := 3) dX10_pull_68 rfl rfl ?_
        obtain ⟨hb, h⟩ := ck_some h
        refine r_iast rfl (inb_vp hb) dX10_pull_69 ?_
        replace h := lt_some h
        refine r_iload dX10_pull_70 rfl ?_
        refine r_iret (by first | rfl | decide) dX10_pull_72 ?_
        obtain rfl := Option.some.inj h
        exact ⟨rfl, rfl, rfl⟩
      · rw [if_pos c] at h
        refine r_iconst (v := (-1)) dX10_pull_33 (by decide) ?_
        refine r_iret (by first | rfl | decide) dX10_pull_34 ?_
        obtain rfl := Option.some.inj h
        exact ⟨rfl, rfl, rfl⟩
def f_X3_joins_2_l2 (I : mI) (L : mL) : Nat → Int32 → Int32 → Int32 → Option Int32
  | 0, _, _, _ => none
  | n + 1, x1, x2, x3 => if (I 2 6) ≤ x3 then (some 0) else (ck (inb x3 15) (if (I 5 x3.toNatClampNeg) = (if x2 < x1 then x2 else x1) then (ck (inb x3 15) (if (I 6 x3.toNatClampNeg) = (if x1 < x2 then x2 else x1) then (some 1) else (lt (x3 + Int32.ofInt 1) (fun v2 => f_X3_joins_2_l2 I L n x1 x2 v2)))) else (lt (x3 + Int32.ofInt 1) (fun v1 => f_X3_joins_2_l2 I L n x1 x2 v1))))
theorem ok_X3_joins_2_l2 {d : Nat} (hd : 1 ≤ d){I : mI} {L : mL} : ∀ (n : Nat) (x1 : Int32) (x2 : Int32) (x3 : Int32) (o : Int32), f_X3_joins_2_l2 I L n x1 x2 x3 = some o → RR mX3_joins d 2 [some (.ref 2), some (.int x1), some (.int x2), some (.int x3)] [] I L (retQ (some (.int o)) I L) := by
  intro n
  induction n with
  | zero => intro x1 x2 x3 o h; rw [f_X3_joins_2_l2] at h; cases h
  | succ n ih =>
    intro x1 x2 x3 o h
    rw [f_X3_joins_2_l2] at h
    refine r_iload_n (i := 3) dX3_joins_2 rfl rfl ?_
    refine r_aload_n (i := 0) dX3_joins_3 rfl rfl ?_
    refine r_getI f_X3_31 dX3_joins_4 rfl rfl ?_
    refine r_icmp_ge (tgt := 46) dX3_joins_7 (by decide) (fun c => ?_) (fun c => ?_)
    · rw [if_pos c] at h
      refine r_iconst (v := 0) dX3_joins_46 (by decide) ?_
      refine r_iret (by first | rfl | decide) dX3_joins_47 ?_
      obtain rfl := Option.some.inj h
      exact ⟨rfl, rfl, rfl⟩
    · rw [if_neg c] at h
      refine r_aload_n (i := 0) dX3_joins_10 rfl rfl ?_
      refine r_getR f_X3_18 dX3_joins_11 rfl rfl ?_
      refine r_iload_n (i := 3) dX3_joins_14 rfl rfl ?_
      obtain ⟨hb, h⟩ := ck_some h
      refine r_iald rfl (inb_vp hb) dX3_joins_15 ?_
      refine r_iload_n (i := 1) dX3_joins_16 rfl rfl ?_
      refine r_iload_n (i := 2) dX3_joins_17 rfl rfl ?_
      refine r_mmin k_X3_34 dX3_joins_18 (by omega) (Nat.le_of_ble_eq_true rfl) ?_
      refine r_icmp_ne (tgt := 40) dX3_joins_21 (by decide) (fun c => ?_) (fun c => ?_)
      · rw [if_neg c] at h
        refine r_iinc (v := _) dX3_joins_40 rfl rfl (by decide) rfl ?_
        simp only [List.set_cons_zero, List.set_cons_succ]
        replace h := lt_some h
        refine r_goto (tgt := 2) dX3_joins_43 (by decide) ?_
        exact RR.wk (ih _ _ _ _ h) (And.intro rfl (And.intro rfl (And.intro rfl (And.intro rfl (trivial)))))
      · rw [if_pos c] at h
        refine r_aload_n (i := 0) dX3_joins_24 rfl rfl ?_
        refine r_getR f_X3_21 dX3_joins_25 rfl rfl ?_
        refine r_iload_n (i := 3) dX3_joins_28 rfl rfl ?_
        obtain ⟨hb, h⟩ := ck_some h
        refine r_iald rfl (inb_vp hb) dX3_joins_29 ?_
        refine r_iload_n (i := 1) dX3_joins_30 rfl rfl ?_
        refine r_iload_n (i := 2) dX3_joins_31 rfl rfl ?_
        refine r_mmax k_X3_40 dX3_joins_32 (by omega) (Nat.le_of_ble_eq_true rfl) ?_
        refine r_icmp_ne (tgt := 40) dX3_joins_35 (by decide) (fun c => ?_) (fun c => ?_)
        · rw [if_neg c] at h
          refine r_iinc (v := _) dX3_joins_40 rfl rfl (by decide) rfl ?_
          simp only [List.set_cons_zero, List.set_cons_succ]
          replace h := lt_some h
          refine r_goto (tgt := 2) dX3_joins_43 (by decide) ?_
          exact RR.wk (ih _ _ _ _ h) (And.intro rfl (And.intro rfl (And.intro rfl (And.intro rfl (trivial)))))
        · rw [if_pos c] at h
          refine r_iconst (v := 1) dX3_joins_38 (by decide) ?_
          refine r_iret (by first | rfl | decide) dX3_joins_39 ?_
          obtain rfl := Option.some.inj h
          exact ⟨rfl, rfl, rfl⟩
def f_X3_joins_2 (I : mI) (L : mL) (a1 : Int32) (a2 : Int32) : Option Int32 := f_X3_joins_2_l2 I L fuel a1 a2 0
theorem ok_X3_joins_2 {d : Nat} (hd : 1 ≤ d) {I : mI} {L : mL} {a1 : Int32} {a2 : Int32} {o : Int32} (h : f_X3_joins_2 I L a1 a2 = some o) : RR mX3_joins d 0 [some (.ref 2), some (.int a1), some (.int a2), none] [] I L (retQ (some (.int o)) I L) := by
  unfold f_X3_joins_2 at h
  refine r_iconst (v := 0) dX3_joins_0 (by decide) ?_
  refine r_istore_n (i := 3) dX3_joins_1 rfl (by decide) rfl ?_
  simp only [List.set_cons_zero, List.set_cons_succ]
  exact RR.wk (ok_X3_joins_2_l2 hd _ _ _ _ _ h) (And.intro rfl (And.intro rfl (And.intro rfl (And.intro rfl (trivial)))))
def f_X3_addRoad_2 (I : mI) (L : mL) (a1 : Int32) (a2 : Int32) (a3 : Int32) : rI := lt (I 2 6) (fun v1 => ck (inb v1 15) (lt (uI I 5 v1.toNatClampNeg (if a2 < a1 then a2 else a1)) (fun M2 => ck (inb v1 15) (lt (uI M2 6 v1.toNatClampNeg (if a1 < a2 then a2 else a1)) (fun M3 => ck (inb v1 15) (lt (uI M3 7 v1.toNatClampNeg a3) (fun M4 => lt (uI M4 2 6 ((M4 2 6) + 1)) (fun M5 => some (v1, M5, L)))))))))
theorem ok_X3_addRoad_2 {d : Nat} (hd : 1 ≤ d) {I : mI} {L : mL} {a1 : Int32} {a2 : Int32} {a3 : Int32} {o : Int32 × mI × mL} (h : f_X3_addRoad_2 I L a1 a2 a3 = some o) : RR mX3_addRoad d 0 [some (.ref 2), some (.int a1), some (.int a2), some (.int a3), none] [] I L (retQ (some (.int o.1)) o.2.1 o.2.2) := by
  unfold f_X3_addRoad_2 at h
  refine r_aload_n (i := 0) dX3_addRoad_0 rfl rfl ?_
  refine r_getI f_X3_31 dX3_addRoad_1 rfl rfl ?_
  refine r_istore dX3_addRoad_4 (by decide) rfl ?_
  simp only [List.set_cons_zero, List.set_cons_succ]
  replace h := lt_some h
  refine r_aload_n (i := 0) dX3_addRoad_6 rfl rfl ?_
  refine r_getR f_X3_18 dX3_addRoad_7 rfl rfl ?_
  refine r_iload dX3_addRoad_10 rfl ?_
  refine r_iload_n (i := 1) dX3_addRoad_12 rfl rfl ?_
  refine r_iload_n (i := 2) dX3_addRoad_13 rfl rfl ?_
  refine r_mmin k_X3_34 dX3_addRoad_14 (by omega) (Nat.le_of_ble_eq_true rfl) ?_
  obtain ⟨hb, h⟩ := ck_some h
  refine r_iast rfl (inb_vp hb) dX3_addRoad_17 ?_
  replace h := lt_some h
  refine r_aload_n (i := 0) dX3_addRoad_18 rfl rfl ?_
  refine r_getR f_X3_21 dX3_addRoad_19 rfl rfl ?_
  refine r_iload dX3_addRoad_22 rfl ?_
  refine r_iload_n (i := 1) dX3_addRoad_24 rfl rfl ?_
  refine r_iload_n (i := 2) dX3_addRoad_25 rfl rfl ?_
  refine r_mmax k_X3_40 dX3_addRoad_26 (by omega) (Nat.le_of_ble_eq_true rfl) ?_
  obtain ⟨hb, h⟩ := ck_some h
  refine r_iast rfl (inb_vp hb) dX3_addRoad_29 ?_
  replace h := lt_some h
  refine r_aload_n (i := 0) dX3_addRoad_30 rfl rfl ?_
  refine r_getR f_X3_24 dX3_addRoad_31 rfl rfl ?_
  refine r_iload dX3_addRoad_34 rfl ?_
  refine r_iload_n (i := 3) dX3_addRoad_36 rfl rfl ?_
  obtain ⟨hb, h⟩ := ck_some h
  refine r_iast rfl (inb_vp hb) dX3_addRoad_37 ?_
  replace h := lt_some h
  refine r_aload_n (i := 0) dX3_addRoad_38 rfl rfl ?_
  refine r_dup dX3_addRoad_39 rfl ?_
  refine r_getI f_X3_31 dX3_addRoad_40 rfl rfl ?_
  refine r_iconst (v := 1) dX3_addRoad_43 (by decide) ?_
  refine r_iadd dX3_addRoad_44 ?_
  refine r_putI f_X3_31 rfl rfl dX3_addRoad_45 rfl rfl ?_
  replace h := lt_some h
  refine r_iload dX3_addRoad_48 rfl ?_
  refine r_iret (by first | rfl | decide) dX3_addRoad_50 ?_
  obtain rfl := Option.some.inj h
  exact ⟨rfl, rfl, rfl⟩
def f_X10_road_0 (I : mI) (L : mL) (a1 : Int32) (a2 : Int32) (a3 : Int32) : rI := (f_X3_hasParish_2 I L a1).bind (fun r1 => if r1 = 0 then (some ((-1), I, L)) else ((f_X3_hasParish_2 I L a2).bind (fun r2 => if r2 = 0 then (some ((-1), I, L)) else (if a1 = a2 then (some ((-1), I, L)) else ((f_X10_within I L a3 0 9).bind (fun r3 => if r3 = 0 then (some ((-1), I, L)) else ((f_X3_joins_2 I L a1 a2).bind (fun r4 => if r4 = 0 then (if (I 2 6) < 15 then (bndI (f_X3_addRoad_2 I L a1 a2 a3) (fun r5 Ir5 Lr5 => some (r5, Ir5, Lr5))) else (some ((-3), I, L))) else (some ((-2), I, L))))))))))
theorem ok_X10_road_0 {d : Nat} (hd : 2 ≤ d) {I : mI} {L : mL} {a1 : Int32} {a2 : Int32} {a3 : Int32} {o : Int32 × mI × mL} (h : f_X10_road_0 I L a1 a2 a3 = some o) : RR mX10_road d 0 [some (.ref 0), some (.int a1), some (.int a2), some (.int a3)] [] I L (retQ (some (.int o.1)) o.2.1 o.2.2) := by
  unfold f_X10_road_0 at h
  refine r_aload_n (i := 0) dX10_road_0 rfl rfl ?_
  refine r_getR f_X10_10 dX10_road_1 rfl rfl ?_
  refine r_getR f_X10_76 dX10_road_4 rfl rfl ?_
  refine r_iload_n (i := 1) dX10_road_7 rfl rfl ?_
  obtain ⟨r1, hr, h⟩ := bind_some h
  refine r_V (d' := 0) k_X10_90 dX10_road_8 (by omega) rfl rfl rfl (Nat.le_of_ble_eq_true rfl) (Nat.le_of_ble_eq_true rfl) (ok_X3_hasParish_2 (Nat.le_refl _) hr) (fun v I' L' hq => ?_)
  obtain ⟨rfl, rfl, rfl⟩ := hq
  simp only [Option.toList_some, Option.toList_none, List.drop_succ_cons, List.drop_zero, List.drop_nil, List.cons_append, List.nil_append]
  refine r_if_eq (tgt := 43) dX10_road_11 (by decide) (fun c => ?_) (fun c => ?_)
  · rw [if_pos c] at h
    refine r_iconst (v := (-1)) dX10_road_43 (by decide) ?_
    refine r_iret (by first | rfl | decide) dX10_road_44 ?_
    obtain rfl := Option.some.inj h
    exact ⟨rfl, rfl, rfl⟩
  · rw [if_neg c] at h
    refine r_aload_n (i := 0) dX10_road_14 rfl rfl ?_
    refine r_getR f_X10_10 dX10_road_15 rfl rfl ?_
    refine r_getR f_X10_76 dX10_road_18 rfl rfl ?_
    refine r_iload_n (i := 2) dX10_road_21 rfl rfl ?_
    obtain ⟨r2, hr, h⟩ := bind_some h
    refine r_V (d' := 0) k_X10_90 dX10_road_22 (by omega) rfl rfl rfl (Nat.le_of_ble_eq_true rfl) (Nat.le_of_ble_eq_true rfl) (ok_X3_hasParish_2 (Nat.le_refl _) hr) (fun v I' L' hq => ?_)
    obtain ⟨rfl, rfl, rfl⟩ := hq
    simp only [Option.toList_some, Option.toList_none, List.drop_succ_cons, List.drop_zero, List.drop_nil, List.cons_append, List.nil_append]
    refine r_if_eq (tgt := 43) dX10_road_25 (by decide) (fun c => ?_) (fun c => ?_)
    · rw [if_pos c] at h
      refine r_iconst (v := (-1)) dX10_road_43 (by decide) ?_
      refine r_iret (by first | rfl | decide) dX10_road_44 ?_
      obtain rfl := Option.some.inj h
      exact ⟨rfl, rfl, rfl⟩
    · rw [if_neg c] at h
      refine r_iload_n (i := 1) dX10_road_28 rfl rfl ?_
      refine r_iload_n (i := 2) dX10_road_29 rfl rfl ?_
      refine r_icmp_eq (tgt := 43) dX10_road_30 (by decide) (fun c => ?_) (fun c => ?_)
      · rw [if_pos c] at h
        refine r_iconst (v := (-1)) dX10_road_43 (by decide) ?_
        refine r_iret (by first | rfl | decide) dX10_road_44 ?_
        obtain rfl := Option.some.inj h
        exact ⟨rfl, rfl, rfl⟩
      · rw [if_neg c] at h
        refine r_iload_n (i := 3) dX10_road_33 rfl rfl ?_
        refine r_iconst (v := 0) dX10_road_34 (by decide) ?_
        refine r_bipush (v := 9) dX10_road_35 (by decide) ?_
        obtain ⟨r3, hr, h⟩ := bind_some h
        refine r_S (d' := 0) k_X10_72 dX10_road_37 (by omega) rfl (Nat.le_of_ble_eq_true rfl) (Nat.le_of_ble_eq_true rfl) (ok_X10_within (Nat.le_refl _) hr) (fun v I' L' hq => ?_)
        obtain ⟨rfl, rfl, rfl⟩ := hq
        simp only [Option.toList_some, Option.toList_none, List.drop_succ_cons, List.drop_zero, List.drop_nil, List.cons_append, List.nil_append]
        refine r_if_ne (tgt := 45) dX10_road_40 (by decide) (fun c => ?_) (fun c => ?_)
        · rw [if_neg c] at h
          refine r_aload_n (i := 0) dX10_road_45 rfl rfl ?_
          refine r_getR f_X10_10 dX10_road_46 rfl rfl ?_
          refine r_getR f_X10_76 dX10_road_49 rfl rfl ?_
          refine r_iload_n (i := 1) dX10_road_52 rfl rfl ?_
          refine r_iload_n (i := 2) dX10_road_53 rfl rfl ?_
          obtain ⟨r4, hr, h⟩ := bind_some h
          refine r_V (d' := 1) k_X10_98 dX10_road_54 (by omega) rfl rfl rfl (Nat.le_of_ble_eq_true rfl) (Nat.le_of_ble_eq_true rfl) (ok_X3_joins_2 (Nat.le_refl _) hr) (fun v I' L' hq => ?_)
          obtain ⟨rfl, rfl, rfl⟩ := hq
          simp only [Option.toList_some, Option.toList_none, List.drop_succ_cons, List.drop_zero, List.drop_nil, List.cons_append, List.nil_append]
          refine r_if_eq (tgt := 63) dX10_road_57 (by decide) (fun c => ?_) (fun c => ?_)
          · rw [if_pos c] at h
            refine r_aload_n (i := 0) dX10_road_63 rfl rfl ?_
            refine r_getR f_X10_10 dX10_road_64 rfl rfl ?_
            refine r_getR f_X10_76 dX10_road_67 rfl rfl ?_
            refine r_getI f_X10_102 dX10_road_70 rfl rfl ?_
            refine r_bipush (v := 15) dX10_road_73 (by decide) ?_
            refine r_icmp_lt (tgt := 81) dX10_road_75 (by decide) (fun c => ?_) (fun c => ?_)
            · rw [if_pos c] at h
              refine r_aload_n (i := 0) dX10_road_81 rfl rfl ?_
              refine r_getR f_X10_10 dX10_road_82 rfl rfl ?_
              refine r_getR f_X10_76 dX10_road_85 rfl rfl ?_
              refine r_iload_n (i := 1) dX10_road_88 rfl rfl ?_
              refine r_iload_n (i := 2) dX10_road_89 rfl rfl ?_
              refine r_iload_n (i := 3) dX10_road_90 rfl rfl ?_
              obtain ⟨⟨r5, Ir5, Lr5⟩, hr, h⟩ := bind_some h
              refine r_V (d' := 1) k_X10_105 dX10_road_91 (by omega) rfl rfl rfl (Nat.le_of_ble_eq_true rfl) (Nat.le_of_ble_eq_true rfl) (ok_X3_addRoad_2 (Nat.le_refl _) hr) (fun v I' L' hq => ?_)
              obtain ⟨rfl, rfl, rfl⟩ := hq
              simp only [Option.toList_some, Option.toList_none, List.drop_succ_cons, List.drop_zero, List.drop_nil, List.cons_append, List.nil_append]
              dsimp only at h
              refine r_iret (by first | rfl | decide) dX10_road_94 ?_
              obtain rfl := Option.some.inj h
              exact ⟨rfl, rfl, rfl⟩
            · rw [if_neg c] at h
              refine r_bipush (v := (-3)) dX10_road_78 (by decide) ?_
              refine r_iret (by first | rfl | decide) dX10_road_80 ?_
              obtain rfl := Option.some.inj h
              exact ⟨rfl, rfl, rfl⟩
          · rw [if_neg c] at h
            refine r_bipush (v := (-2)) dX10_road_60 (by decide) ?_
            refine r_iret (by first | rfl | decide) dX10_road_62 ?_
            obtain rfl := Option.some.inj h
            exact ⟨rfl, rfl, rfl⟩
        · rw [if_pos c] at h
          refine r_iconst (v := (-1)) dX10_road_43 (by decide) ?_
          refine r_iret (by first | rfl | decide) dX10_road_44 ?_
          obtain rfl := Option.some.inj h
          exact ⟨rfl, rfl, rfl⟩
def f_X3_hasRoad_2 (I : mI) (L : mL) (a1 : Int32) : Option Int32 := if a1 < 0 then (some 0) else (if (I 2 6) ≤ a1 then (some 0) else (some 1))
theorem ok_X3_hasRoad_2 {d : Nat} (hd : 0 ≤ d) {I : mI} {L : mL} {a1 : Int32} {o : Int32} (h : f_X3_hasRoad_2 I L a1 = some o) : RR mX3_hasRoad d 0 [some (.ref 2), some (.int a1)] [] I L (retQ (some (.int o)) I L) := by
  unfold f_X3_hasRoad_2 at h
  refine r_iload_n (i := 1) dX3_hasRoad_0 rfl rfl ?_
  refine r_if_lt (tgt := 16) dX3_hasRoad_1 (by decide) (fun c => ?_) (fun c => ?_)
  · rw [if_pos c] at h
    refine r_iconst (v := 0) dX3_hasRoad_16 (by decide) ?_
    refine r_iret (by first | rfl | decide) dX3_hasRoad_17 ?_
    obtain rfl := Option.some.inj h
    exact ⟨rfl, rfl, rfl⟩
  · rw [if_neg c] at h
    refine r_iload_n (i := 1) dX3_hasRoad_4 rfl rfl ?_
    refine r_aload_n (i := 0) dX3_hasRoad_5 rfl rfl ?_
    refine r_getI f_X3_31 dX3_hasRoad_6 rfl rfl ?_
    refine r_icmp_ge (tgt := 16) dX3_hasRoad_9 (by decide) (fun c => ?_) (fun c => ?_)
    · rw [if_pos c] at h
      refine r_iconst (v := 0) dX3_hasRoad_16 (by decide) ?_
      refine r_iret (by first | rfl | decide) dX3_hasRoad_17 ?_
      obtain rfl := Option.some.inj h
      exact ⟨rfl, rfl, rfl⟩
    · rw [if_neg c] at h
      refine r_iconst (v := 1) dX3_hasRoad_12 (by decide) ?_
      refine r_goto (tgt := 17) dX3_hasRoad_13 (by decide) ?_
      refine r_iret (by first | rfl | decide) dX3_hasRoad_17 ?_
      obtain rfl := Option.some.inj h
      exact ⟨rfl, rfl, rfl⟩
def f_X10_toll_0 (I : mI) (L : mL) (a1 : Int32) (a2 : Int32) : rI := (f_X3_hasRoad_2 I L a1).bind (fun r1 => if r1 = 0 then (some ((-1), I, L)) else ((f_X10_within I L a2 0 9).bind (fun r2 => if r2 = 0 then (some ((-1), I, L)) else (ck (inb a1 15) (lt (I 7 a1.toNatClampNeg) (fun v3 => ck (inb a1 15) (lt (uI I 7 a1.toNatClampNeg a2) (fun M4 => some (v3, M4, L)))))))))
theorem ok_X10_toll_0 {d : Nat} (hd : 1 ≤ d) {I : mI} {L : mL} {a1 : Int32} {a2 : Int32} {o : Int32 × mI × mL} (h : f_X10_toll_0 I L a1 a2 = some o) : RR mX10_toll d 0 [some (.ref 0), some (.int a1), some (.int a2), none] [] I L (retQ (some (.int o.1)) o.2.1 o.2.2) := by
  unfold f_X10_toll_0 at h
  refine r_aload_n (i := 0) dX10_toll_0 rfl rfl ?_
  refine r_getR f_X10_10 dX10_toll_1 rfl rfl ?_
  refine r_getR f_X10_76 dX10_toll_4 rfl rfl ?_
  refine r_iload_n (i := 1) dX10_toll_7 rfl rfl ?_
  obtain ⟨r1, hr, h⟩ := bind_some h
  refine r_V (d' := 0) k_X10_109 dX10_toll_8 (by omega) rfl rfl rfl (Nat.le_of_ble_eq_true rfl) (Nat.le_of_ble_eq_true rfl) (ok_X3_hasRoad_2 (Nat.le_refl _) hr) (fun v I' L' hq => ?_)
  obtain ⟨rfl, rfl, rfl⟩ := hq
  simp only [Option.toList_some, Option.toList_none, List.drop_succ_cons, List.drop_zero, List.drop_nil, List.cons_append, List.nil_append]
  refine r_if_eq (tgt := 24) dX10_toll_11 (by decide) (fun c => ?_) (fun c => ?_)
  · rw [if_pos c] at h
    refine r_iconst (v := (-1)) dX10_toll_24 (by decide) ?_
    refine r_iret (by first | rfl | decide) dX10_toll_25 ?_
    obtain rfl := Option.some.inj h
    exact ⟨rfl, rfl, rfl⟩
  · rw [if_neg c] at h
    refine r_iload_n (i := 2) dX10_toll_14 rfl rfl ?_
    refine r_iconst (v := 0) dX10_toll_15 (by decide) ?_
    refine r_bipush (v := 9) dX10_toll_16 (by decide) ?_
    obtain ⟨r2, hr, h⟩ := bind_some h
    refine r_S (d' := 0) k_X10_72 dX10_toll_18 (by omega) rfl (Nat.le_of_ble_eq_true rfl) (Nat.le_of_ble_eq_true rfl) (ok_X10_within (Nat.le_refl _) hr) (fun v I' L' hq => ?_)
    obtain ⟨rfl, rfl, rfl⟩ := hq
    simp only [Option.toList_some, Option.toList_none, List.drop_succ_cons, List.drop_zero, List.drop_nil, List.cons_append, List.nil_append]
    refine r_if_ne (tgt := 26) dX10_toll_21 (by decide) (fun c => ?_) (fun c => ?_)
    · rw [if_neg c] at h
      refine r_aload_n (i := 0) dX10_toll_26 rfl rfl ?_
      refine r_getR f_X10_10 dX10_toll_27 rfl rfl ?_
      refine r_getR f_X10_76 dX10_toll_30 rfl rfl ?_
      refine r_getR f_X10_112 dX10_toll_33 rfl rfl ?_
      refine r_iload_n (i := 1) dX10_toll_36 rfl rfl ?_
      obtain ⟨hb, h⟩ := ck_some h
      refine r_iald rfl (inb_vp hb) dX10_toll_37 ?_
      refine r_istore_n (i := 3) dX10_toll_38 rfl (by decide) rfl ?_
      simp only [List.set_cons_zero, List.set_cons_succ]
      replace h := lt_some h
      refine r_aload_n (i := 0) dX10_toll_39 rfl rfl ?_
      refine r_getR f_X10_10 dX10_toll_40 rfl rfl ?_
      refine r_getR f_X10_76 dX10_toll_43 rfl rfl ?_
      refine r_getR f_X10_112 dX10_toll_46 rfl rfl ?_
      refine r_iload_n (i := 1) dX10_toll_49 rfl rfl ?_
      refine r_iload_n (i := 2) dX10_toll_50 rfl rfl ?_
      obtain ⟨hb, h⟩ := ck_some h
      refine r_iast rfl (inb_vp hb) dX10_toll_51 ?_
      replace h := lt_some h
      refine r_iload_n (i := 3) dX10_toll_52 rfl rfl ?_
      refine r_iret (by first | rfl | decide) dX10_toll_53 ?_
      obtain rfl := Option.some.inj h
      exact ⟨rfl, rfl, rfl⟩
    · rw [if_pos c] at h
      refine r_iconst (v := (-1)) dX10_toll_24 (by decide) ?_
      refine r_iret (by first | rfl | decide) dX10_toll_25 ?_
      obtain rfl := Option.some.inj h
      exact ⟨rfl, rfl, rfl⟩
def f_X7_addCart_1 (I : mI) (L : mL) (a1 : Int32) (a2 : Int32) : rI := ck (inb (I 1 9) 4) (lt (uI I 8 (I 1 9).toNatClampNeg a1) (fun M1 => ck (inb (M1 1 9) 4) (lt (uI M1 9 (M1 1 9).toNatClampNeg a2) (fun M2 => lt (uI M2 1 9 ((M2 1 9) + 1)) (fun M3 => some ((M3 1 9) - 1, M3, L))))))
theorem ok_X7_addCart_1 {d : Nat} (hd : 0 ≤ d) {I : mI} {L : mL} {a1 : Int32} {a2 : Int32} {o : Int32 × mI × mL} (h : f_X7_addCart_1 I L a1 a2 = some o) : RR mX7_addCart d 0 [some (.ref 1), some (.int a1), some (.int a2)] [] I L (retQ (some (.int o.1)) o.2.1 o.2.2) := by
  unfold f_X7_addCart_1 at h
  refine r_aload_n (i := 0) dX7_addCart_0 rfl rfl ?_
  refine r_getR f_X7_18 dX7_addCart_1 rfl rfl ?_
  refine r_aload_n (i := 0) dX7_addCart_4 rfl rfl ?_
  refine r_getI f_X7_69 dX7_addCart_5 rfl rfl ?_
  refine r_iload_n (i := 1) dX7_addCart_8 rfl rfl ?_
  obtain ⟨hb, h⟩ := ck_some h
  refine r_iast rfl (inb_vp hb) dX7_addCart_9 ?_
  replace h := lt_some h
  refine r_aload_n (i := 0) dX7_addCart_10 rfl rfl ?_
  refine r_getR f_X7_22 dX7_addCart_11 rfl rfl ?_
  refine r_aload_n (i := 0) dX7_addCart_14 rfl rfl ?_
  refine r_getI f_X7_69 dX7_addCart_15 rfl rfl ?_
  refine r_iload_n (i := 2) dX7_addCart_18 rfl rfl ?_
  obtain ⟨hb, h⟩ := ck_some h
  refine r_iast rfl (inb_vp hb) dX7_addCart_19 ?_
  replace h := lt_some h
  refine r_aload_n (i := 0) dX7_addCart_20 rfl rfl ?_
  refine r_dup dX7_addCart_21 rfl ?_
  refine r_getI f_X7_69 dX7_addCart_22 rfl rfl ?_
  refine r_iconst (v := 1) dX7_addCart_25 (by decide) ?_
  refine r_iadd dX7_addCart_26 ?_
  refine r_putI f_X7_69 rfl rfl dX7_addCart_27 rfl rfl ?_
  replace h := lt_some h
  refine r_aload_n (i := 0) dX7_addCart_30 rfl rfl ?_
  refine r_getI f_X7_69 dX7_addCart_31 rfl rfl ?_
  refine r_iconst (v := 1) dX7_addCart_34 (by decide) ?_
  refine r_isub dX7_addCart_35 ?_
  refine r_iret (by first | rfl | decide) dX7_addCart_36 ?_
  obtain rfl := Option.some.inj h
  exact ⟨rfl, rfl, rfl⟩
def f_X10_cart_0 (I : mI) (L : mL) (a1 : Int32) (a2 : Int32) : rI := (f_X10_within I L a1 0 999).bind (fun r1 => if r1 = 0 then (some ((-1), I, L)) else ((f_X10_within I L a2 0 99).bind (fun r2 => if r2 = 0 then (some ((-1), I, L)) else (if (I 1 9) < 4 then (bndI (f_X7_addCart_1 I L a1 a2) (fun r3 Ir3 Lr3 => some (r3, Ir3, Lr3))) else (some ((-3), I, L))))))
theorem ok_X10_cart_0 {d : Nat} (hd : 1 ≤ d) {I : mI} {L : mL} {a1 : Int32} {a2 : Int32} {o : Int32 × mI × mL} (h : f_X10_cart_0 I L a1 a2 = some o) : RR mX10_cart d 0 [some (.ref 0), some (.int a1), some (.int a2)] [] I L (retQ (some (.int o.1)) o.2.1 o.2.2) := by
  unfold f_X10_cart_0 at h
  refine r_iload_n (i := 1) dX10_cart_0 rfl rfl ?_
  refine r_iconst (v := 0) dX10_cart_1 (by decide) ?_
  refine r_sipush (v := 999) dX10_cart_2 (by decide) ?_
  obtain ⟨r1, hr, h⟩ := bind_some h
  refine r_S (d' := 0) k_X10_72 dX10_cart_5 (by omega) rfl (Nat.le_of_ble_eq_true rfl) (Nat.le_of_ble_eq_true rfl) (ok_X10_within (Nat.le_refl _) hr) (fun v I' L' hq => ?_)
  obtain ⟨rfl, rfl, rfl⟩ := hq
  simp only [Option.toList_some, Option.toList_none, List.drop_succ_cons, List.drop_zero, List.drop_nil, List.cons_append, List.nil_append]
  refine r_if_eq (tgt := 21) dX10_cart_8 (by decide) (fun c => ?_) (fun c => ?_)
  · rw [if_pos c] at h
    refine r_iconst (v := (-1)) dX10_cart_21 (by decide) ?_
    refine r_iret (by first | rfl | decide) dX10_cart_22 ?_
    obtain rfl := Option.some.inj h
    exact ⟨rfl, rfl, rfl⟩
  · rw [if_neg c] at h
    refine r_iload_n (i := 2) dX10_cart_11 rfl rfl ?_
    refine r_iconst (v := 0) dX10_cart_12 (by decide) ?_
    refine r_bipush (v := 99) dX10_cart_13 (by decide) ?_
    obtain ⟨r2, hr, h⟩ := bind_some h
    refine r_S (d' := 0) k_X10_72 dX10_cart_15 (by omega) rfl (Nat.le_of_ble_eq_true rfl) (Nat.le_of_ble_eq_true rfl) (ok_X10_within (Nat.le_refl _) hr) (fun v I' L' hq => ?_)
    obtain ⟨rfl, rfl, rfl⟩ := hq
    simp only [Option.toList_some, Option.toList_none, List.drop_succ_cons, List.drop_zero, List.drop_nil, List.cons_append, List.nil_append]
    refine r_if_ne (tgt := 23) dX10_cart_18 (by decide) (fun c => ?_) (fun c => ?_)
    · rw [if_neg c] at h
      refine r_aload_n (i := 0) dX10_cart_23 rfl rfl ?_
      refine r_getR f_X10_10 dX10_cart_24 rfl rfl ?_
      refine r_getI f_X10_115 dX10_cart_27 rfl rfl ?_
      refine r_iconst (v := 4) dX10_cart_30 (by decide) ?_
      refine r_icmp_lt (tgt := 37) dX10_cart_31 (by decide) (fun c => ?_) (fun c => ?_)
      · rw [if_pos c] at h
        refine r_aload_n (i := 0) dX10_cart_37 rfl rfl ?_
        refine r_getR f_X10_10 dX10_cart_38 rfl rfl ?_
        refine r_iload_n (i := 1) dX10_cart_41 rfl rfl ?_
        refine r_iload_n (i := 2) dX10_cart_42 rfl rfl ?_
        obtain ⟨⟨r3, Ir3, Lr3⟩, hr, h⟩ := bind_some h
        refine r_V (d' := 0) k_X10_118 dX10_cart_43 (by omega) rfl rfl rfl (Nat.le_of_ble_eq_true rfl) (Nat.le_of_ble_eq_true rfl) (ok_X7_addCart_1 (Nat.le_refl _) hr) (fun v I' L' hq => ?_)
        obtain ⟨rfl, rfl, rfl⟩ := hq
        simp only [Option.toList_some, Option.toList_none, List.drop_succ_cons, List.drop_zero, List.drop_nil, List.cons_append, List.nil_append]
        dsimp only at h
        refine r_iret (by first | rfl | decide) dX10_cart_46 ?_
        obtain rfl := Option.some.inj h
        exact ⟨rfl, rfl, rfl⟩
      · rw [if_neg c] at h
        refine r_bipush (v := (-3)) dX10_cart_34 (by decide) ?_
        refine r_iret (by first | rfl | decide) dX10_cart_36 ?_
        obtain rfl := Option.some.inj h
        exact ⟨rfl, rfl, rfl⟩
    · rw [if_pos c] at h
      refine r_iconst (v := (-1)) dX10_cart_21 (by decide) ?_
      refine r_iret (by first | rfl | decide) dX10_cart_22 ?_
      obtain rfl := Option.some.inj h
      exact ⟨rfl, rfl, rfl⟩
def f_X7_addGood_1 (I : mI) (L : mL) (a1 : Int32) (a2 : Int32) (a3 : Int32) : rI := ck (inb (I 1 10) 6) (lt (uI I 10 (I 1 10).toNatClampNeg a1) (fun M1 => ck (inb (M1 1 10) 6) (lt (uI M1 11 (M1 1 10).toNatClampNeg a2) (fun M2 => ck (inb (M2 1 10) 6) (lt (uI M2 12 (M2 1 10).toNatClampNeg a3) (fun M3 => ck (inb (M3 1 10) 6) (lt (uI M3 13 (M3 1 10).toNatClampNeg 0) (fun M4 => lt (uI M4 1 10 ((M4 1 10) + 1)) (fun M5 => some ((M5 1 10) - 1, M5, L))))))))))
theorem ok_X7_addGood_1 {d : Nat} (hd : 0 ≤ d) {I : mI} {L : mL} {a1 : Int32} {a2 : Int32} {a3 : Int32} {o : Int32 × mI × mL} (h : f_X7_addGood_1 I L a1 a2 a3 = some o) : RR mX7_addGood d 0 [some (.ref 1), some (.int a1), some (.int a2), some (.int a3)] [] I L (retQ (some (.int o.1)) o.2.1 o.2.2) := by
  unfold f_X7_addGood_1 at h
  refine r_aload_n (i := 0) dX7_addGood_0 rfl rfl ?_
  refine r_getR f_X7_25 dX7_addGood_1 rfl rfl ?_
  refine r_aload_n (i := 0) dX7_addGood_4 rfl rfl ?_
  refine r_getI f_X7_72 dX7_addGood_5 rfl rfl ?_
  refine r_iload_n (i := 1) dX7_addGood_8 rfl rfl ?_
  obtain ⟨hb, h⟩ := ck_some h
  refine r_iast rfl (inb_vp hb) dX7_addGood_9 ?_
  replace h := lt_some h
  refine r_aload_n (i := 0) dX7_addGood_10 rfl rfl ?_
  refine r_getR f_X7_28 dX7_addGood_11 rfl rfl ?_
  refine r_aload_n (i := 0) dX7_addGood_14 rfl rfl ?_
  refine r_getI f_X7_72 dX7_addGood_15 rfl rfl ?_
  refine r_iload_n (i := 2) dX7_addGood_18 rfl rfl ?_
  obtain ⟨hb, h⟩ := ck_some h
  refine r_iast rfl (inb_vp hb) dX7_addGood_19 ?_
  replace h := lt_some h
  refine r_aload_n (i := 0) dX7_addGood_20 rfl rfl ?_
  refine r_getR f_X7_31 dX7_addGood_21 rfl rfl ?_
  refine r_aload_n (i := 0) dX7_addGood_24 rfl rfl ?_
  refine r_getI f_X7_72 dX7_addGood_25 rfl rfl ?_
  refine r_iload_n (i := 3) dX7_addGood_28 rfl rfl ?_
  obtain ⟨hb, h⟩ := ck_some h
  refine r_iast rfl (inb_vp hb) dX7_addGood_29 ?_
  replace h := lt_some h
  refine r_aload_n (i := 0) dX7_addGood_30 rfl rfl ?_
  refine r_getR f_X7_34 dX7_addGood_31 rfl rfl ?_
  refine r_aload_n (i := 0) dX7_addGood_34 rfl rfl ?_
  refine r_getI f_X7_72 dX7_addGood_35 rfl rfl ?_
  refine r_iconst (v := 0) dX7_addGood_38 (by decide) ?_
  obtain ⟨hb, h⟩ := ck_some h
  refine r_iast rfl (inb_vp hb) dX7_addGood_39 ?_
  replace h := lt_some h
  refine r_aload_n (i := 0) dX7_addGood_40 rfl rfl ?_
  refine r_dup dX7_addGood_41 rfl ?_
  refine r_getI f_X7_72 dX7_addGood_42 rfl rfl ?_
  refine r_iconst (v := 1) dX7_addGood_45 (by decide) ?_
  refine r_iadd dX7_addGood_46 ?_
  refine r_putI f_X7_72 rfl rfl dX7_addGood_47 rfl rfl ?_
  replace h := lt_some h
  refine r_aload_n (i := 0) dX7_addGood_50 rfl rfl ?_
  refine r_getI f_X7_72 dX7_addGood_51 rfl rfl ?_
  refine r_iconst (v := 1) dX7_addGood_54 (by decide) ?_
  refine r_isub dX7_addGood_55 ?_
  refine r_iret (by first | rfl | decide) dX7_addGood_56 ?_
  obtain rfl := Option.some.inj h
  exact ⟨rfl, rfl, rfl⟩
def f_X10_good_0 (I : mI) (L : mL) (a1 : Int32) (a2 : Int32) (a3 : Int32) : rI := (f_X10_within I L a1 1 99).bind (fun r1 => if r1 = 0 then (some ((-1), I, L)) else ((f_X10_within I L a2 1 9).bind (fun r2 => if r2 = 0 then (some ((-1), I, L)) else ((f_X3_hasParish_2 I L a3).bind (fun r3 => if r3 = 0 then (some ((-1), I, L)) else (if (I 1 10) < 6 then (bndI (f_X7_addGood_1 I L a1 a2 a3) (fun r4 Ir4 Lr4 => some (r4, Ir4, Lr4))) else (some ((-3), I, L))))))))
theorem ok_X10_good_0 {d : Nat} (hd : 1 ≤ d) {I : mI} {L : mL} {a1 : Int32} {a2 : Int32} {a3 : Int32} {o : Int32 × mI × mL} (h : f_X10_good_0 I L a1 a2 a3 = some o) : RR mX10_good d 0 [some (.ref 0), some (.int a1), some (.int a2), some (.int a3)] [] I L (retQ (some (.int o.1)) o.2.1 o.2.2) := by
  unfold f_X10_good_0 at h
  refine r_iload_n (i := 1) dX10_good_0 rfl rfl ?_
  refine r_iconst (v := 1) dX10_good_1 (by decide) ?_
  refine r_bipush (v := 99) dX10_good_2 (by decide) ?_
  obtain ⟨r1, hr, h⟩ := bind_some h
  refine r_S (d' := 0) k_X10_72 dX10_good_4 (by omega) rfl (Nat.le_of_ble_eq_true rfl) (Nat.le_of_ble_eq_true rfl) (ok_X10_within (Nat.le_refl _) hr) (fun v I' L' hq => ?_)
  obtain ⟨rfl, rfl, rfl⟩ := hq
  simp only [Option.toList_some, Option.toList_none, List.drop_succ_cons, List.drop_zero, List.drop_nil, List.cons_append, List.nil_append]
  refine r_if_eq (tgt := 34) dX10_good_7 (by decide) (fun c => ?_) (fun c => ?_)
  · rw [if_pos c] at h
    refine r_iconst (v := (-1)) dX10_good_34 (by decide) ?_
    refine r_iret (by first | rfl | decide) dX10_good_35 ?_
    obtain rfl := Option.some.inj h
    exact ⟨rfl, rfl, rfl⟩
  · rw [if_neg c] at h
    refine r_iload_n (i := 2) dX10_good_10 rfl rfl ?_
    refine r_iconst (v := 1) dX10_good_11 (by decide) ?_
    refine r_bipush (v := 9) dX10_good_12 (by decide) ?_
    obtain ⟨r2, hr, h⟩ := bind_some h
    refine r_S (d' := 0) k_X10_72 dX10_good_14 (by omega) rfl (Nat.le_of_ble_eq_true rfl) (Nat.le_of_ble_eq_true rfl) (ok_X10_within (Nat.le_refl _) hr) (fun v I' L' hq => ?_)
    obtain ⟨rfl, rfl, rfl⟩ := hq
    simp only [Option.toList_some, Option.toList_none, List.drop_succ_cons, List.drop_zero, List.drop_nil, List.cons_append, List.nil_append]
    refine r_if_eq (tgt := 34) dX10_good_17 (by decide) (fun c => ?_) (fun c => ?_)
    · rw [if_pos c] at h
      refine r_iconst (v := (-1)) dX10_good_34 (by decide) ?_
      refine r_iret (by first | rfl | decide) dX10_good_35 ?_
      obtain rfl := Option.some.inj h
      exact ⟨rfl, rfl, rfl⟩
    · rw [if_neg c] at h
      refine r_aload_n (i := 0) dX10_good_20 rfl rfl ?_
      refine r_getR f_X10_10 dX10_good_21 rfl rfl ?_
      refine r_getR f_X10_76 dX10_good_24 rfl rfl ?_
      refine r_iload_n (i := 3) dX10_good_27 rfl rfl ?_
      obtain ⟨r3, hr, h⟩ := bind_some h
      refine r_V (d' := 0) k_X10_90 dX10_good_28 (by omega) rfl rfl rfl (Nat.le_of_ble_eq_true rfl) (Nat.le_of_ble_eq_true rfl) (ok_X3_hasParish_2 (Nat.le_refl _) hr) (fun v I' L' hq => ?_)
      obtain ⟨rfl, rfl, rfl⟩ := hq
      simp only [Option.toList_some, Option.toList_none, List.drop_succ_cons, List.drop_zero, List.drop_nil, List.cons_append, List.nil_append]
      refine r_if_ne (tgt := 36) dX10_good_31 (by decide) (fun c => ?_) (fun c => ?_)
      · rw [if_neg c] at h
        refine r_aload_n (i := 0) dX10_good_36 rfl rfl ?_
        refine r_getR f_X10_10 dX10_good_37 rfl rfl ?_
        refine r_getI f_X10_122 dX10_good_40 rfl rfl ?_
        refine r_bipush (v := 6) dX10_good_43 (by decide) ?_
        refine r_icmp_lt (tgt := 51) dX10_good_45 (by decide) (fun c => ?_) (fun c => ?_)
        · rw [if_pos c] at h
          refine r_aload_n (i := 0) dX10_good_51 rfl rfl ?_
          refine r_getR f_X10_10 dX10_good_52 rfl rfl ?_
          refine r_iload_n (i := 1) dX10_good_55 rfl rfl ?_
          refine r_iload_n (i := 2) dX10_good_56 rfl rfl ?_
          refine r_iload_n (i := 3) dX10_good_57 rfl rfl ?_
          obtain ⟨⟨r4, Ir4, Lr4⟩, hr, h⟩ := bind_some h
          refine r_V (d' := 0) k_X10_125 dX10_good_58 (by omega) rfl rfl rfl (Nat.le_of_ble_eq_true rfl) (Nat.le_of_ble_eq_true rfl) (ok_X7_addGood_1 (Nat.le_refl _) hr) (fun v I' L' hq => ?_)
          obtain ⟨rfl, rfl, rfl⟩ := hq
          simp only [Option.toList_some, Option.toList_none, List.drop_succ_cons, List.drop_zero, List.drop_nil, List.cons_append, List.nil_append]
          dsimp only at h
          refine r_iret (by first | rfl | decide) dX10_good_61 ?_
          obtain rfl := Option.some.inj h
          exact ⟨rfl, rfl, rfl⟩
        · rw [if_neg c] at h
          refine r_bipush (v := (-3)) dX10_good_48 (by decide) ?_
          refine r_iret (by first | rfl | decide) dX10_good_50 ?_
          obtain rfl := Option.some.inj h
          exact ⟨rfl, rfl, rfl⟩
      · rw [if_pos c] at h
        refine r_iconst (v := (-1)) dX10_good_34 (by decide) ?_
        refine r_iret (by first | rfl | decide) dX10_good_35 ?_
        obtain rfl := Option.some.inj h
        exact ⟨rfl, rfl, rfl⟩
def f_X7_hasGood_1 (I : mI) (L : mL) (a1 : Int32) : Option Int32 := if a1 < 0 then (some 0) else (if (I 1 10) ≤ a1 then (some 0) else (some 1))
theorem ok_X7_hasGood_1 {d : Nat} (hd : 0 ≤ d) {I : mI} {L : mL} {a1 : Int32} {o : Int32} (h : f_X7_hasGood_1 I L a1 = some o) : RR mX7_hasGood d 0 [some (.ref 1), some (.int a1)] [] I L (retQ (some (.int o)) I L) := by
  unfold f_X7_hasGood_1 at h
  refine r_iload_n (i := 1) dX7_hasGood_0 rfl rfl ?_
  refine r_if_lt (tgt := 16) dX7_hasGood_1 (by decide) (fun c => ?_) (fun c => ?_)
  · rw [if_pos c] at h
    refine r_iconst (v := 0) dX7_hasGood_16 (by decide) ?_
    refine r_iret (by first | rfl | decide) dX7_hasGood_17 ?_
    obtain rfl := Option.some.inj h
    exact ⟨rfl, rfl, rfl⟩
  · rw [if_neg c] at h
    refine r_iload_n (i := 1) dX7_hasGood_4 rfl rfl ?_
    refine r_aload_n (i := 0) dX7_hasGood_5 rfl rfl ?_
    refine r_getI f_X7_72 dX7_hasGood_6 rfl rfl ?_
    refine r_icmp_ge (tgt := 16) dX7_hasGood_9 (by decide) (fun c => ?_) (fun c => ?_)
    · rw [if_pos c] at h
      refine r_iconst (v := 0) dX7_hasGood_16 (by decide) ?_
      refine r_iret (by first | rfl | decide) dX7_hasGood_17 ?_
      obtain rfl := Option.some.inj h
      exact ⟨rfl, rfl, rfl⟩
    · rw [if_neg c] at h
      refine r_iconst (v := 1) dX7_hasGood_12 (by decide) ?_
      refine r_goto (tgt := 17) dX7_hasGood_13 (by decide) ?_
      refine r_iret (by first | rfl | decide) dX7_hasGood_17 ?_
      obtain rfl := Option.some.inj h
      exact ⟨rfl, rfl, rfl⟩
def f_X7_seasonOf (I : mI) (L : mL) (a0 : Int32) : Option Int32 := some ((a0 / 13) - (a0 / 13) / 4 * 4)
theorem ok_X7_seasonOf {d : Nat} (hd : 0 ≤ d) {I : mI} {L : mL} {a0 : Int32} {o : Int32} (h : f_X7_seasonOf I L a0 = some o) : RR mX7_seasonOf d 0 [some (.int a0)] [] I L (retQ (some (.int o)) I L) := by
  unfold f_X7_seasonOf at h
  refine r_iload_n (i := 0) dX7_seasonOf_0 rfl rfl ?_
  refine r_bipush (v := 13) dX7_seasonOf_1 (by decide) ?_
  refine r_idiv dX7_seasonOf_3 (by decide) ?_
  refine r_iconst (v := 4) dX7_seasonOf_4 (by decide) ?_
  refine r_irem dX7_seasonOf_5 (by decide) ?_
  refine r_iret (by first | rfl | decide) dX7_seasonOf_6 ?_
  obtain rfl := Option.some.inj h
  exact ⟨rfl, rfl, rfl⟩
def f_X7_season_1 (I : mI) (L : mL) : Option Int32 := (f_X7_seasonOf I L (I 1 12)).bind (fun r1 => some r1)
theorem ok_X7_season_1 {d : Nat} (hd : 1 ≤ d) {I : mI} {L : mL} {o : Int32} (h : f_X7_season_1 I L = some o) : RR mX7_season d 0 [some (.ref 1)] [] I L (retQ (some (.int o)) I L) := by
  unfold f_X7_season_1 at h
  refine r_aload_n (i := 0) dX7_season_0 rfl rfl ?_
  refine r_getI f_X7_43 dX7_season_1 rfl rfl ?_
  obtain ⟨r1, hr, h⟩ := bind_some h
  refine r_S (d' := 0) k_X7_47 dX7_season_4 (by omega) rfl (Nat.le_of_ble_eq_true rfl) (Nat.le_of_ble_eq_true rfl) (ok_X7_seasonOf (Nat.le_refl _) hr) (fun v I' L' hq => ?_)
  obtain ⟨rfl, rfl, rfl⟩ := hq
  simp only [Option.toList_some, Option.toList_none, List.drop_succ_cons, List.drop_zero, List.drop_nil, List.cons_append, List.nil_append]
  refine r_iret (by first | rfl | decide) dX7_season_7 ?_
  obtain rfl := Option.some.inj h
  exact ⟨rfl, rfl, rfl⟩
def f_X3_weight (I : mI) (L : mL) (a0 : Int32) (a1 : Int32) (a2 : Int32) : Option Int32 := if a0 = 0 then (some (a2 * a1)) else (if a0 = 1 then (some ((a2 * a1) + a2)) else (if a0 = 2 then (some 0) else (some (((a2 * a1) + a2) / 2))))
theorem ok_X3_weight {d : Nat} (hd : 0 ≤ d) {I : mI} {L : mL} {a0 : Int32} {a1 : Int32} {a2 : Int32} {o : Int32} (h : f_X3_weight I L a0 a1 a2 = some o) : RR mX3_weight d 0 [some (.int a0), some (.int a1), some (.int a2)] [] I L (retQ (some (.int o)) I L) := by
  unfold f_X3_weight at h
  refine r_iload_n (i := 0) dX3_weight_0 rfl rfl ?_
  by_cases c0 : a0 = 0
  · rw [if_pos c0] at h
    refine r_tabIn (tgt := 28) (off := 27) dX3_weight_1 (by rw [c0]; decide) (by rw [c0]; decide) (by rw [c0]; rfl) (by decide) ?_
    refine r_iload_n (i := 2) dX3_weight_28 rfl rfl ?_
    refine r_iload_n (i := 1) dX3_weight_29 rfl rfl ?_
    refine r_imul dX3_weight_30 ?_
    refine r_iret (by first | rfl | decide) dX3_weight_31 ?_
    obtain rfl := Option.some.inj h
    exact ⟨rfl, rfl, rfl⟩
  rw [if_neg c0] at h
  by_cases c1 : a0 = 1
  · rw [if_pos c1] at h
    refine r_tabIn (tgt := 32) (off := 31) dX3_weight_1 (by rw [c1]; decide) (by rw [c1]; decide) (by rw [c1]; rfl) (by decide) ?_
    refine r_iload_n (i := 2) dX3_weight_32 rfl rfl ?_
    refine r_iload_n (i := 1) dX3_weight_33 rfl rfl ?_
    refine r_imul dX3_weight_34 ?_
    refine r_iload_n (i := 2) dX3_weight_35 rfl rfl ?_
    refine r_iadd dX3_weight_36 ?_
    refine r_iret (by first | rfl | decide) dX3_weight_37 ?_
    obtain rfl := Option.some.inj h
    exact ⟨rfl, rfl, rfl⟩
  rw [if_neg c1] at h
  by_cases c2 : a0 = 2
  · rw [if_pos c2] at h
    refine r_tabIn (tgt := 38) (off := 37) dX3_weight_1 (by rw [c2]; decide) (by rw [c2]; decide) (by rw [c2]; rfl) (by decide) ?_
    refine r_iconst (v := 0) dX3_weight_38 (by decide) ?_
    refine r_iret (by first | rfl | decide) dX3_weight_39 ?_
    obtain rfl := Option.some.inj h
    exact ⟨rfl, rfl, rfl⟩
  rw [if_neg c2] at h
  refine r_tabOut (tgt := 40) dX3_weight_1 (by have := lv_neT c0 (a := 0) (by decide); have := lv_neT c1 (a := 1) (by decide); have := lv_neT c2 (a := 2) (by decide); omega) (by decide) ?_
  refine r_iload_n (i := 2) dX3_weight_40 rfl rfl ?_
  refine r_iload_n (i := 1) dX3_weight_41 rfl rfl ?_
  refine r_imul dX3_weight_42 ?_
  refine r_iload_n (i := 2) dX3_weight_43 rfl rfl ?_
  refine r_iadd dX3_weight_44 ?_
  refine r_iconst (v := 2) dX3_weight_45 (by decide) ?_
  refine r_idiv dX3_weight_46 (by decide) ?_
  refine r_iret (by first | rfl | decide) dX3_weight_47 ?_
  obtain rfl := Option.some.inj h
  exact ⟨rfl, rfl, rfl⟩
def f_X7_weightAt_1 (I : mI) (L : mL) (a1 : Int32) (a2 : Int32) : Option Int32 := ck (inb a1 8) ((f_X7_season_1 I L).bind (fun r1 => ck (inb ((a1 * 4) + r1) 32) ((f_X3_weight I L (I 3 a1.toNatClampNeg) (I 4 ((a1 * 4) + r1).toNatClampNeg) a2).bind (fun r2 => some r2))))
theorem ok_X7_weightAt_1 {d : Nat} (hd : 2 ≤ d) {I : mI} {L : mL} {a1 : Int32} {a2 : Int32} {o : Int32} (h : f_X7_weightAt_1 I L a1 a2 = some o) : RR mX7_weightAt d 0 [some (.ref 1), some (.int a1), some (.int a2)] [] I L (retQ (some (.int o)) I L) := by
  unfold f_X7_weightAt_1 at h
  refine r_aload_n (i := 0) dX7_weightAt_0 rfl rfl ?_
  refine r_getR f_X7_12 dX7_weightAt_1 rfl rfl ?_
  refine r_getR f_X7_51 dX7_weightAt_4 rfl rfl ?_
  refine r_iload_n (i := 1) dX7_weightAt_7 rfl rfl ?_
  obtain ⟨hb, h⟩ := ck_some h
  refine r_iald rfl (inb_vp hb) dX7_weightAt_8 ?_
  refine r_aload_n (i := 0) dX7_weightAt_9 rfl rfl ?_
  refine r_getR f_X7_12 dX7_weightAt_10 rfl rfl ?_
  refine r_getR f_X7_54 dX7_weightAt_13 rfl rfl ?_
  refine r_iload_n (i := 1) dX7_weightAt_16 rfl rfl ?_
  refine r_iconst (v := 4) dX7_weightAt_17 (by decide) ?_
  refine r_imul dX7_weightAt_18 ?_
  refine r_aload_n (i := 0) dX7_weightAt_19 rfl rfl ?_
  obtain ⟨r1, hr, h⟩ := bind_some h
  refine r_V (d' := 1) k_X7_57 dX7_weightAt_20 (by omega) rfl rfl rfl (Nat.le_of_ble_eq_true rfl) (Nat.le_of_ble_eq_true rfl) (ok_X7_season_1 (Nat.le_refl _) hr) (fun v I' L' hq => ?_)
  obtain ⟨rfl, rfl, rfl⟩ := hq
  simp only [Option.toList_some, Option.toList_none, List.drop_succ_cons, List.drop_zero, List.drop_nil, List.cons_append, List.nil_append]
  refine r_iadd dX7_weightAt_23 ?_
  obtain ⟨hb, h⟩ := ck_some h
  refine r_iald rfl (inb_vp hb) dX7_weightAt_24 ?_
  refine r_iload_n (i := 2) dX7_weightAt_25 rfl rfl ?_
  obtain ⟨r2, hr, h⟩ := bind_some h
  refine r_S (d' := 0) k_X7_61 dX7_weightAt_26 (by omega) rfl (Nat.le_of_ble_eq_true rfl) (Nat.le_of_ble_eq_true rfl) (ok_X3_weight (Nat.le_refl _) hr) (fun v I' L' hq => ?_)
  obtain ⟨rfl, rfl, rfl⟩ := hq
  simp only [Option.toList_some, Option.toList_none, List.drop_succ_cons, List.drop_zero, List.drop_nil, List.cons_append, List.nil_append]
  refine r_iret (by first | rfl | decide) dX7_weightAt_29 ?_
  obtain rfl := Option.some.inj h
  exact ⟨rfl, rfl, rfl⟩
def f_X7_weightOfGood_1 (I : mI) (L : mL) (a1 : Int32) : Option Int32 := ck (inb a1 6) (ck (inb a1 6) ((f_X7_weightAt_1 I L (I 12 a1.toNatClampNeg) (I 10 a1.toNatClampNeg)).bind (fun r1 => some r1)))
theorem ok_X7_weightOfGood_1 {d : Nat} (hd : 3 ≤ d) {I : mI} {L : mL} {a1 : Int32} {o : Int32} (h : f_X7_weightOfGood_1 I L a1 = some o) : RR mX7_weightOfGood d 0 [some (.ref 1), some (.int a1)] [] I L (retQ (some (.int o)) I L) := by
  unfold f_X7_weightOfGood_1 at h
  refine r_aload_n (i := 0) dX7_weightOfGood_0 rfl rfl ?_
  refine r_aload_n (i := 0) dX7_weightOfGood_1 rfl rfl ?_
  refine r_getR f_X7_31 dX7_weightOfGood_2 rfl rfl ?_
  refine r_iload_n (i := 1) dX7_weightOfGood_5 rfl rfl ?_
  obtain ⟨hb, h⟩ := ck_some h
  refine r_iald rfl (inb_vp hb) dX7_weightOfGood_6 ?_
  refine r_aload_n (i := 0) dX7_weightOfGood_7 rfl rfl ?_
  refine r_getR f_X7_25 dX7_weightOfGood_8 rfl rfl ?_
  refine r_iload_n (i := 1) dX7_weightOfGood_11 rfl rfl ?_
  obtain ⟨hb, h⟩ := ck_some h
  refine r_iald rfl (inb_vp hb) dX7_weightOfGood_12 ?_
  obtain ⟨r1, hr, h⟩ := bind_some h
  refine r_V (d' := 2) k_X7_65 dX7_weightOfGood_13 (by omega) rfl rfl rfl (Nat.le_of_ble_eq_true rfl) (Nat.le_of_ble_eq_true rfl) (ok_X7_weightAt_1 (Nat.le_refl _) hr) (fun v I' L' hq => ?_)
  obtain ⟨rfl, rfl, rfl⟩ := hq
  simp only [Option.toList_some, Option.toList_none, List.drop_succ_cons, List.drop_zero, List.drop_nil, List.cons_append, List.nil_append]
  refine r_iret (by first | rfl | decide) dX7_weightOfGood_16 ?_
  obtain rfl := Option.some.inj h
  exact ⟨rfl, rfl, rfl⟩
def f_X10_hang_0_b43 (I : mI) (L : mL) (x1 : Int32) (x2 : Int32) : rI := ck (inb x1 6) (lt (I 13 x1.toNatClampNeg) (fun v3 => ck (inb x1 6) (lt (uI I 13 x1.toNatClampNeg x2) (fun M4 => some (v3, M4, L)))))
theorem ok_X10_hang_0_b43 {d : Nat} (hd : 4 ≤ d){I : mI} {L : mL} (x1 : Int32) (x2 : Int32) {o : Int32 × mI × mL} (h : f_X10_hang_0_b43 I L x1 x2 = some o) : RR mX10_hang d 43 [some (.ref 0), some (.int x1), some (.int x2), none] [] I L (retQ (some (.int o.1)) o.2.1 o.2.2) := by
  unfold f_X10_hang_0_b43 at h
  refine r_aload_n (i := 0) dX10_hang_43 rfl rfl ?_
  refine r_getR f_X10_10 dX10_hang_44 rfl rfl ?_
  refine r_getR f_X10_134 dX10_hang_47 rfl rfl ?_
  refine r_iload_n (i := 1) dX10_hang_50 rfl rfl ?_
  obtain ⟨hb, h⟩ := ck_some h
  refine r_iald rfl (inb_vp hb) dX10_hang_51 ?_
  refine r_istore_n (i := 3) dX10_hang_52 rfl (by decide) rfl ?_
  simp only [List.set_cons_zero, List.set_cons_succ]
  replace h := lt_some h
  refine r_aload_n (i := 0) dX10_hang_53 rfl rfl ?_
  refine r_getR f_X10_10 dX10_hang_54 rfl rfl ?_
  refine r_getR f_X10_134 dX10_hang_57 rfl rfl ?_
  refine r_iload_n (i := 1) dX10_hang_60 rfl rfl ?_
  refine r_iload_n (i := 2) dX10_hang_61 rfl rfl ?_
  obtain ⟨hb, h⟩ := ck_some h
  refine r_iast rfl (inb_vp hb) dX10_hang_62 ?_
  replace h := lt_some h
  refine r_iload_n (i := 3) dX10_hang_63 rfl rfl ?_
  refine r_iret (by first | rfl | decide) dX10_hang_64 ?_
  obtain rfl := Option.some.inj h
  exact ⟨rfl, rfl, rfl⟩
def f_X10_hang_0 (I : mI) (L : mL) (a1 : Int32) (a2 : Int32) : rI := (f_X7_hasGood_1 I L a1).bind (fun r1 => if r1 = 0 then (some ((-1), I, L)) else ((f_X10_within I L a2 0 999).bind (fun r2 => if r2 = 0 then (some ((-1), I, L)) else (if a2 ≤ 0 then (f_X10_hang_0_b43 I L a1 a2) else ((f_X7_weightOfGood_1 I L a1).bind (fun r5 => if r5 ≤ a2 then (f_X10_hang_0_b43 I L a1 a2) else (some ((-2), I, L))))))))
theorem ok_X10_hang_0 {d : Nat} (hd : 4 ≤ d) {I : mI} {L : mL} {a1 : Int32} {a2 : Int32} {o : Int32 × mI × mL} (h : f_X10_hang_0 I L a1 a2 = some o) : RR mX10_hang d 0 [some (.ref 0), some (.int a1), some (.int a2), none] [] I L (retQ (some (.int o.1)) o.2.1 o.2.2) := by
  unfold f_X10_hang_0 at h
  refine r_aload_n (i := 0) dX10_hang_0 rfl rfl ?_
  refine r_getR f_X10_10 dX10_hang_1 rfl rfl ?_
  refine r_iload_n (i := 1) dX10_hang_4 rfl rfl ?_
  obtain ⟨r1, hr, h⟩ := bind_some h
  refine r_V (d' := 0) k_X10_128 dX10_hang_5 (by omega) rfl rfl rfl (Nat.le_of_ble_eq_true rfl) (Nat.le_of_ble_eq_true rfl) (ok_X7_hasGood_1 (Nat.le_refl _) hr) (fun v I' L' hq => ?_)
  obtain ⟨rfl, rfl, rfl⟩ := hq
  simp only [Option.toList_some, Option.toList_none, List.drop_succ_cons, List.drop_zero, List.drop_nil, List.cons_append, List.nil_append]
  refine r_if_eq (tgt := 22) dX10_hang_8 (by decide) (fun c => ?_) (fun c => ?_)
  · rw [if_pos c] at h
    refine r_iconst (v := (-1)) dX10_hang_22 (by decide) ?_
    refine r_iret (by first | rfl | decide) dX10_hang_23 ?_
    obtain rfl := Option.some.inj h
    exact ⟨rfl, rfl, rfl⟩
  · rw [if_neg c] at h
    refine r_iload_n (i := 2) dX10_hang_11 rfl rfl ?_
    refine r_iconst (v := 0) dX10_hang_12 (by decide) ?_
    refine r_sipush (v := 999) dX10_hang_13 (by decide) ?_
    obtain ⟨r2, hr, h⟩ := bind_some h
    refine r_S (d' := 0) k_X10_72 dX10_hang_16 (by omega) rfl (Nat.le_of_ble_eq_true rfl) (Nat.le_of_ble_eq_true rfl) (ok_X10_within (Nat.le_refl _) hr) (fun v I' L' hq => ?_)
    obtain ⟨rfl, rfl, rfl⟩ := hq
    simp only [Option.toList_some, Option.toList_none, List.drop_succ_cons, List.drop_zero, List.drop_nil, List.cons_append, List.nil_append]
    refine r_if_ne (tgt := 24) dX10_hang_19 (by decide) (fun c => ?_) (fun c => ?_)
    · rw [if_neg c] at h
      refine r_iload_n (i := 2) dX10_hang_24 rfl rfl ?_
      refine r_if_le (tgt := 43) dX10_hang_25 (by decide) (fun c => ?_) (fun c => ?_)
      · rw [if_pos c] at h
        exact RR.wk (ok_X10_hang_0_b43 hd _ _ h) (And.intro rfl (And.intro rfl (And.intro rfl (trivial))))
      · rw [if_neg c] at h
        refine r_aload_n (i := 0) dX10_hang_28 rfl rfl ?_
        refine r_getR f_X10_10 dX10_hang_29 rfl rfl ?_
        refine r_iload_n (i := 1) dX10_hang_32 rfl rfl ?_
        obtain ⟨r5, hr, h⟩ := bind_some h
        refine r_V (d' := 3) k_X10_131 dX10_hang_33 (by omega) rfl rfl rfl (Nat.le_of_ble_eq_true rfl) (Nat.le_of_ble_eq_true rfl) (ok_X7_weightOfGood_1 (Nat.le_refl _) hr) (fun v I' L' hq => ?_)
        obtain ⟨rfl, rfl, rfl⟩ := hq
        simp only [Option.toList_some, Option.toList_none, List.drop_succ_cons, List.drop_zero, List.drop_nil, List.cons_append, List.nil_append]
        refine r_iload_n (i := 2) dX10_hang_36 rfl rfl ?_
        refine r_icmp_le (tgt := 43) dX10_hang_37 (by decide) (fun c => ?_) (fun c => ?_)
        · rw [if_pos c] at h
          exact RR.wk (ok_X10_hang_0_b43 hd _ _ h) (And.intro rfl (And.intro rfl (And.intro rfl (trivial))))
        · rw [if_neg c] at h
          refine r_bipush (v := (-2)) dX10_hang_40 (by decide) ?_
          refine r_iret (by first | rfl | decide) dX10_hang_42 ?_
          obtain rfl := Option.some.inj h
          exact ⟨rfl, rfl, rfl⟩
    · rw [if_pos c] at h
      refine r_iconst (v := (-1)) dX10_hang_22 (by decide) ?_
      refine r_iret (by first | rfl | decide) dX10_hang_23 ?_
      obtain rfl := Option.some.inj h
      exact ⟨rfl, rfl, rfl⟩
def f_X7_addPerson_1 (I : mI) (L : mL) (a1 : Int32) (a2 : Int32) : rI := ck (inb (I 1 11) 6) (lt (uI I 14 (I 1 11).toNatClampNeg a1) (fun M1 => ck (inb (M1 1 11) 6) (lt (uI M1 15 (M1 1 11).toNatClampNeg a2) (fun M2 => lt (uI M2 1 11 ((M2 1 11) + 1)) (fun M3 => some ((M3 1 11) - 1, M3, L))))))
theorem ok_X7_addPerson_1 {d : Nat} (hd : 0 ≤ d) {I : mI} {L : mL} {a1 : Int32} {a2 : Int32} {o : Int32 × mI × mL} (h : f_X7_addPerson_1 I L a1 a2 = some o) : RR mX7_addPerson d 0 [some (.ref 1), some (.int a1), some (.int a2)] [] I L (retQ (some (.int o.1)) o.2.1 o.2.2) := by
  unfold f_X7_addPerson_1 at h
  refine r_aload_n (i := 0) dX7_addPerson_0 rfl rfl ?_
  refine r_getR f_X7_37 dX7_addPerson_1 rfl rfl ?_
  refine r_aload_n (i := 0) dX7_addPerson_4 rfl rfl ?_
  refine r_getI f_X7_75 dX7_addPerson_5 rfl rfl ?_
  refine r_iload_n (i := 1) dX7_addPerson_8 rfl rfl ?_
  obtain ⟨hb, h⟩ := ck_some h
  refine r_iast rfl (inb_vp hb) dX7_addPerson_9 ?_
  replace h := lt_some h
  refine r_aload_n (i := 0) dX7_addPerson_10 rfl rfl ?_
  refine r_getR f_X7_40 dX7_addPerson_11 rfl rfl ?_
  refine r_aload_n (i := 0) dX7_addPerson_14 rfl rfl ?_
  refine r_getI f_X7_75 dX7_addPerson_15 rfl rfl ?_
  refine r_iload_n (i := 2) dX7_addPerson_18 rfl rfl ?_
  obtain ⟨hb, h⟩ := ck_some h
  refine r_iast rfl (inb_vp hb) dX7_addPerson_19 ?_
  replace h := lt_some h
  refine r_aload_n (i := 0) dX7_addPerson_20 rfl rfl ?_
  refine r_dup dX7_addPerson_21 rfl ?_
  refine r_getI f_X7_75 dX7_addPerson_22 rfl rfl ?_
  refine r_iconst (v := 1) dX7_addPerson_25 (by decide) ?_
  refine r_iadd dX7_addPerson_26 ?_
  refine r_putI f_X7_75 rfl rfl dX7_addPerson_27 rfl rfl ?_
  replace h := lt_some h
  refine r_aload_n (i := 0) dX7_addPerson_30 rfl rfl ?_
  refine r_getI f_X7_75 dX7_addPerson_31 rfl rfl ?_
  refine r_iconst (v := 1) dX7_addPerson_34 (by decide) ?_
  refine r_isub dX7_addPerson_35 ?_
  refine r_iret (by first | rfl | decide) dX7_addPerson_36 ?_
  obtain rfl := Option.some.inj h
  exact ⟨rfl, rfl, rfl⟩
def f_X10_person_0 (I : mI) (L : mL) (a1 : Int32) (a2 : Int32) : rI := (f_X10_within I L a1 1 99).bind (fun r1 => if r1 = 0 then (some ((-1), I, L)) else ((f_X3_hasParish_2 I L a2).bind (fun r2 => if r2 = 0 then (some ((-1), I, L)) else (if (I 1 11) < 6 then (bndI (f_X7_addPerson_1 I L a1 a2) (fun r3 Ir3 Lr3 => some (r3, Ir3, Lr3))) else (some ((-3), I, L))))))
theorem ok_X10_person_0 {d : Nat} (hd : 1 ≤ d) {I : mI} {L : mL} {a1 : Int32} {a2 : Int32} {o : Int32 × mI × mL} (h : f_X10_person_0 I L a1 a2 = some o) : RR mX10_person d 0 [some (.ref 0), some (.int a1), some (.int a2)] [] I L (retQ (some (.int o.1)) o.2.1 o.2.2) := by
  unfold f_X10_person_0 at h
  refine r_iload_n (i := 1) dX10_person_0 rfl rfl ?_
  refine r_iconst (v := 1) dX10_person_1 (by decide) ?_
  refine r_bipush (v := 99) dX10_person_2 (by decide) ?_
  obtain ⟨r1, hr, h⟩ := bind_some h
  refine r_S (d' := 0) k_X10_72 dX10_person_4 (by omega) rfl (Nat.le_of_ble_eq_true rfl) (Nat.le_of_ble_eq_true rfl) (ok_X10_within (Nat.le_refl _) hr) (fun v I' L' hq => ?_)
  obtain ⟨rfl, rfl, rfl⟩ := hq
  simp only [Option.toList_some, Option.toList_none, List.drop_succ_cons, List.drop_zero, List.drop_nil, List.cons_append, List.nil_append]
  refine r_if_eq (tgt := 24) dX10_person_7 (by decide) (fun c => ?_) (fun c => ?_)
  · rw [if_pos c] at h
    refine r_iconst (v := (-1)) dX10_person_24 (by decide) ?_
    refine r_iret (by first | rfl | decide) dX10_person_25 ?_
    obtain rfl := Option.some.inj h
    exact ⟨rfl, rfl, rfl⟩
  · rw [if_neg c] at h
    refine r_aload_n (i := 0) dX10_person_10 rfl rfl ?_
    refine r_getR f_X10_10 dX10_person_11 rfl rfl ?_
    refine r_getR f_X10_76 dX10_person_14 rfl rfl ?_
    refine r_iload_n (i := 2) dX10_person_17 rfl rfl ?_
    obtain ⟨r2, hr, h⟩ := bind_some h
    refine r_V (d' := 0) k_X10_90 dX10_person_18 (by omega) rfl rfl rfl (Nat.le_of_ble_eq_true rfl) (Nat.le_of_ble_eq_true rfl) (ok_X3_hasParish_2 (Nat.le_refl _) hr) (fun v I' L' hq => ?_)
    obtain ⟨rfl, rfl, rfl⟩ := hq
    simp only [Option.toList_some, Option.toList_none, List.drop_succ_cons, List.drop_zero, List.drop_nil, List.cons_append, List.nil_append]
    refine r_if_ne (tgt := 26) dX10_person_21 (by decide) (fun c => ?_) (fun c => ?_)
    · rw [if_neg c] at h
      refine r_aload_n (i := 0) dX10_person_26 rfl rfl ?_
      refine r_getR f_X10_10 dX10_person_27 rfl rfl ?_
      refine r_getI f_X10_137 dX10_person_30 rfl rfl ?_
      refine r_bipush (v := 6) dX10_person_33 (by decide) ?_
      refine r_icmp_lt (tgt := 41) dX10_person_35 (by decide) (fun c => ?_) (fun c => ?_)
      · rw [if_pos c] at h
        refine r_aload_n (i := 0) dX10_person_41 rfl rfl ?_
        refine r_getR f_X10_10 dX10_person_42 rfl rfl ?_
        refine r_iload_n (i := 1) dX10_person_45 rfl rfl ?_
        refine r_iload_n (i := 2) dX10_person_46 rfl rfl ?_
        obtain ⟨⟨r3, Ir3, Lr3⟩, hr, h⟩ := bind_some h
        refine r_V (d' := 0) k_X10_140 dX10_person_47 (by omega) rfl rfl rfl (Nat.le_of_ble_eq_true rfl) (Nat.le_of_ble_eq_true rfl) (ok_X7_addPerson_1 (Nat.le_refl _) hr) (fun v I' L' hq => ?_)
        obtain ⟨rfl, rfl, rfl⟩ := hq
        simp only [Option.toList_some, Option.toList_none, List.drop_succ_cons, List.drop_zero, List.drop_nil, List.cons_append, List.nil_append]
        dsimp only at h
        refine r_iret (by first | rfl | decide) dX10_person_50 ?_
        obtain rfl := Option.some.inj h
        exact ⟨rfl, rfl, rfl⟩
      · rw [if_neg c] at h
        refine r_bipush (v := (-3)) dX10_person_38 (by decide) ?_
        refine r_iret (by first | rfl | decide) dX10_person_40 ?_
        obtain rfl := Option.some.inj h
        exact ⟨rfl, rfl, rfl⟩
    · rw [if_pos c] at h
      refine r_iconst (v := (-1)) dX10_person_24 (by decide) ?_
      refine r_iret (by first | rfl | decide) dX10_person_25 ?_
      obtain rfl := Option.some.inj h
      exact ⟨rfl, rfl, rfl⟩
def f_X3_otherEnd_2 (I : mI) (L : mL) (a1 : Int32) (a2 : Int32) : Option Int32 := ck (inb a1 15) (if (I 5 a1.toNatClampNeg) = a2 then (ck (inb a1 15) (some (I 6 a1.toNatClampNeg))) else (ck (inb a1 15) (if (I 6 a1.toNatClampNeg) = a2 then (ck (inb a1 15) (some (I 5 a1.toNatClampNeg))) else (some (-1)))))
theorem ok_X3_otherEnd_2 {d : Nat} (hd : 0 ≤ d) {I : mI} {L : mL} {a1 : Int32} {a2 : Int32} {o : Int32} (h : f_X3_otherEnd_2 I L a1 a2 = some o) : RR mX3_otherEnd d 0 [some (.ref 2), some (.int a1), some (.int a2)] [] I L (retQ (some (.int o)) I L) := by
  unfold f_X3_otherEnd_2 at h
  refine r_aload_n (i := 0) dX3_otherEnd_0 rfl rfl ?_
  refine r_getR f_X3_18 dX3_otherEnd_1 rfl rfl ?_
  refine r_iload_n (i := 1) dX3_otherEnd_4 rfl rfl ?_
  obtain ⟨hb, h⟩ := ck_some h
  refine r_iald rfl (inb_vp hb) dX3_otherEnd_5 ?_
  refine r_iload_n (i := 2) dX3_otherEnd_6 rfl rfl ?_
  refine r_icmp_ne (tgt := 17) dX3_otherEnd_7 (by decide) (fun c => ?_) (fun c => ?_)
  · rw [if_neg c] at h
    refine r_aload_n (i := 0) dX3_otherEnd_17 rfl rfl ?_
    refine r_getR f_X3_21 dX3_otherEnd_18 rfl rfl ?_
    refine r_iload_n (i := 1) dX3_otherEnd_21 rfl rfl ?_
    obtain ⟨hb, h⟩ := ck_some h
    refine r_iald rfl (inb_vp hb) dX3_otherEnd_22 ?_
    refine r_iload_n (i := 2) dX3_otherEnd_23 rfl rfl ?_
    refine r_icmp_ne (tgt := 36) dX3_otherEnd_24 (by decide) (fun c => ?_) (fun c => ?_)
    · rw [if_neg c] at h
      refine r_iconst (v := (-1)) dX3_otherEnd_36 (by decide) ?_
      refine r_iret (by first | rfl | decide) dX3_otherEnd_37 ?_
      obtain rfl := Option.some.inj h
      exact ⟨rfl, rfl, rfl⟩
    · rw [if_pos c] at h
      refine r_aload_n (i := 0) dX3_otherEnd_27 rfl rfl ?_
      refine r_getR f_X3_18 dX3_otherEnd_28 rfl rfl ?_
      refine r_iload_n (i := 1) dX3_otherEnd_31 rfl rfl ?_
      obtain ⟨hb, h⟩ := ck_some h
      refine r_iald rfl (inb_vp hb) dX3_otherEnd_32 ?_
      refine r_goto (tgt := 37) dX3_otherEnd_33 (by decide) ?_
      refine r_iret (by first | rfl | decide) dX3_otherEnd_37 ?_
      obtain rfl := Option.some.inj h
      exact ⟨rfl, rfl, rfl⟩
  · rw [if_pos c] at h
    refine r_aload_n (i := 0) dX3_otherEnd_10 rfl rfl ?_
    refine r_getR f_X3_21 dX3_otherEnd_11 rfl rfl ?_
    refine r_iload_n (i := 1) dX3_otherEnd_14 rfl rfl ?_
    obtain ⟨hb, h⟩ := ck_some h
    refine r_iald rfl (inb_vp hb) dX3_otherEnd_15 ?_
    refine r_iret (by first | rfl | decide) dX3_otherEnd_16 ?_
    obtain rfl := Option.some.inj h
    exact ⟨rfl, rfl, rfl⟩
def f_X3_roadsAt_2_l4 (I : mI) (L : mL) : Nat → Int32 → Int32 → Int32 → Option Int32
  | 0, _, _, _ => none
  | n + 1, x1, x2, x3 => if (I 2 6) ≤ x3 then (some x2) else ((f_X3_otherEnd_2 I L x3 x1).bind (fun r1 => if r1 < 0 then (lt (x3 + Int32.ofInt 1) (fun v2 => f_X3_roadsAt_2_l4 I L n x1 x2 v2)) else (lt (x2 + Int32.ofInt 1) (fun v3 => lt (x3 + Int32.ofInt 1) (fun v4 => f_X3_roadsAt_2_l4 I L n x1 v3 v4)))))
theorem ok_X3_roadsAt_2_l4 {d : Nat} (hd : 1 ≤ d){I : mI} {L : mL} : ∀ (n : Nat) (x1 : Int32) (x2 : Int32) (x3 : Int32) (o : Int32), f_X3_roadsAt_2_l4 I L n x1 x2 x3 = some o → RR mX3_roadsAt d 4 [some (.ref 2), some (.int x1), some (.int x2), some (.int x3)] [] I L (retQ (some (.int o)) I L) := by
  intro n
  induction n with
  | zero => intro x1 x2 x3 o h; rw [f_X3_roadsAt_2_l4] at h; cases h
  | succ n ih =>
    intro x1 x2 x3 o h
    rw [f_X3_roadsAt_2_l4] at h
    refine r_iload_n (i := 3) dX3_roadsAt_4 rfl rfl ?_
    refine r_aload_n (i := 0) dX3_roadsAt_5 rfl rfl ?_
    refine r_getI f_X3_31 dX3_roadsAt_6 rfl rfl ?_
    refine r_icmp_ge (tgt := 30) dX3_roadsAt_9 (by decide) (fun c => ?_) (fun c => ?_)
    · rw [if_pos c] at h
      refine r_iload_n (i := 2) dX3_roadsAt_30 rfl rfl ?_
      refine r_iret (by first | rfl | decide) dX3_roadsAt_31 ?_
      obtain rfl := Option.some.inj h
      exact ⟨rfl, rfl, rfl⟩
    · rw [if_neg c] at h
      refine r_aload_n (i := 0) dX3_roadsAt_12 rfl rfl ?_
      refine r_iload_n (i := 3) dX3_roadsAt_13 rfl rfl ?_
      refine r_iload_n (i := 1) dX3_roadsAt_14 rfl rfl ?_
      obtain ⟨r1, hr, h⟩ := bind_some h
      refine r_V (d' := 0) k_X3_43 dX3_roadsAt_15 (by omega) rfl rfl rfl (Nat.le_of_ble_eq_true rfl) (Nat.le_of_ble_eq_true rfl) (ok_X3_otherEnd_2 (Nat.le_refl _) hr) (fun v I' L' hq => ?_)
      obtain ⟨rfl, rfl, rfl⟩ := hq
      simp only [Option.toList_some, Option.toList_none, List.drop_succ_cons, List.drop_zero, List.drop_nil, List.cons_append, List.nil_append]
      refine r_if_lt (tgt := 24) dX3_roadsAt_18 (by decide) (fun c => ?_) (fun c => ?_)
      · rw [if_pos c] at h
        refine r_iinc (v := _) dX3_roadsAt_24 rfl rfl (by decide) rfl ?_
        simp only [List.set_cons_zero, List.set_cons_succ]
        replace h := lt_some h
        refine r_goto (tgt := 4) dX3_roadsAt_27 (by decide) ?_
        exact RR.wk (ih _ _ _ _ h) (And.intro rfl (And.intro rfl (And.intro rfl (And.intro rfl (trivial)))))
      · rw [if_neg c] at h
        refine r_iinc (v := _) dX3_roadsAt_21 rfl rfl (by decide) rfl ?_
        simp only [List.set_cons_zero, List.set_cons_succ]
        replace h := lt_some h
        refine r_iinc (v := _) dX3_roadsAt_24 rfl rfl (by decide) rfl ?_
        simp only [List.set_cons_zero, List.set_cons_succ]
        replace h := lt_some h
        refine r_goto (tgt := 4) dX3_roadsAt_27 (by decide) ?_
        exact RR.wk (ih _ _ _ _ h) (And.intro rfl (And.intro rfl (And.intro rfl (And.intro rfl (trivial)))))
def f_X3_roadsAt_2 (I : mI) (L : mL) (a1 : Int32) : Option Int32 := f_X3_roadsAt_2_l4 I L fuel a1 0 0
theorem ok_X3_roadsAt_2 {d : Nat} (hd : 1 ≤ d) {I : mI} {L : mL} {a1 : Int32} {o : Int32} (h : f_X3_roadsAt_2 I L a1 = some o) : RR mX3_roadsAt d 0 [some (.ref 2), some (.int a1), none, none] [] I L (retQ (some (.int o)) I L) := by
  unfold f_X3_roadsAt_2 at h
  refine r_iconst (v := 0) dX3_roadsAt_0 (by decide) ?_
  refine r_istore_n (i := 2) dX3_roadsAt_1 rfl (by decide) rfl ?_
  simp only [List.set_cons_zero, List.set_cons_succ]
  refine r_iconst (v := 0) dX3_roadsAt_2 (by decide) ?_
  refine r_istore_n (i := 3) dX3_roadsAt_3 rfl (by decide) rfl ?_
  simp only [List.set_cons_zero, List.set_cons_succ]
  exact RR.wk (ok_X3_roadsAt_2_l4 hd _ _ _ _ _ h) (And.intro rfl (And.intro rfl (And.intro rfl (And.intro rfl (trivial)))))
def f_X10_setThere_12_l5 (I : mI) (L : mL) : Nat → Int32 → Int32 → Int32 → Int32 → Option Int32
  | 0, _, _, _, _ => none
  | n + 1, x1, x2, x3, x4 => if x1 ≤ x4 then (some x3) else (ck (inb x4 6) (if (I 12 x4.toNatClampNeg) = x2 then (lt (x3 ||| ((1 : Int32) <<< (x4 &&& 31))) (fun v2 => lt (x4 + Int32.ofInt 1) (fun v3 => f_X10_setThere_12_l5 I L n x1 x2 v2 v3))) else (lt (x4 + Int32.ofInt 1) (fun v1 => f_X10_setThere_12_l5 I L n x1 x2 x3 v1))))
theorem ok_X10_setThere_12_l5 {d : Nat} (hd : 0 ≤ d){I : mI} {L : mL} : ∀ (n : Nat) (x1 : Int32) (x2 : Int32) (x3 : Int32) (x4 : Int32) (o : Int32), f_X10_setThere_12_l5 I L n x1 x2 x3 x4 = some o → RR mX10_setThere d 5 [some (.ref 12), some (.int x1), some (.int x2), some (.int x3), some (.int x4)] [] I L (retQ (some (.int o)) I L) := by
  intro n
  induction n with
  | zero => intro x1 x2 x3 x4 o h; rw [f_X10_setThere_12_l5] at h; cases h
  | succ n ih =>
    intro x1 x2 x3 x4 o h
    rw [f_X10_setThere_12_l5] at h
    refine r_iload dX10_setThere_5 rfl ?_
    refine r_iload_n (i := 1) dX10_setThere_7 rfl rfl ?_
    refine r_icmp_ge (tgt := 32) dX10_setThere_8 (by decide) (fun c => ?_) (fun c => ?_)
    · rw [if_pos c] at h
      refine r_iload_n (i := 3) dX10_setThere_32 rfl rfl ?_
      refine r_iret (by first | rfl | decide) dX10_setThere_33 ?_
      obtain rfl := Option.some.inj h
      exact ⟨rfl, rfl, rfl⟩
    · rw [if_neg c] at h
      refine r_aload_n (i := 0) dX10_setThere_11 rfl rfl ?_
      refine r_iload dX10_setThere_12 rfl ?_
      obtain ⟨hb, h⟩ := ck_some h
      refine r_iald rfl (inb_vp hb) dX10_setThere_14 ?_
      refine r_iload_n (i := 2) dX10_setThere_15 rfl rfl ?_
      refine r_icmp_ne (tgt := 26) dX10_setThere_16 (by decide) (fun c => ?_) (fun c => ?_)
      · rw [if_neg c] at h
        refine r_iinc (v := _) dX10_setThere_26 rfl rfl (by decide) rfl ?_
        simp only [List.set_cons_zero, List.set_cons_succ]
        replace h := lt_some h
        refine r_goto (tgt := 5) dX10_setThere_29 (by decide) ?_
        exact RR.wk (ih _ _ _ _ _ h) (And.intro rfl (And.intro rfl (And.intro rfl (And.intro rfl (And.intro rfl (trivial))))))
      · rw [if_pos c] at h
        refine r_iload_n (i := 3) dX10_setThere_19 rfl rfl ?_
        refine r_iconst (v := 1) dX10_setThere_20 (by decide) ?_
        refine r_iload dX10_setThere_21 rfl ?_
        refine r_ishl dX10_setThere_23 ?_
        refine r_ior dX10_setThere_24 ?_
        refine r_istore_n (i := 3) dX10_setThere_25 rfl (by decide) rfl ?_
        simp only [List.set_cons_zero, List.set_cons_succ]
        replace h := lt_some h
        refine r_iinc (v := _) dX10_setThere_26 rfl rfl (by decide) rfl ?_
        simp only [List.set_cons_zero, List.set_cons_succ]
        replace h := lt_some h
        refine r_goto (tgt := 5) dX10_setThere_29 (by decide) ?_
        exact RR.wk (ih _ _ _ _ _ h) (And.intro rfl (And.intro rfl (And.intro rfl (And.intro rfl (And.intro rfl (trivial))))))
def f_X10_setThere_12 (I : mI) (L : mL) (a1 : Int32) (a2 : Int32) : Option Int32 := f_X10_setThere_12_l5 I L fuel a1 a2 0 0
theorem ok_X10_setThere_12 {d : Nat} (hd : 0 ≤ d) {I : mI} {L : mL} {a1 : Int32} {a2 : Int32} {o : Int32} (h : f_X10_setThere_12 I L a1 a2 = some o) : RR mX10_setThere d 0 [some (.ref 12), some (.int a1), some (.int a2), none, none] [] I L (retQ (some (.int o)) I L) := by
  unfold f_X10_setThere_12 at h
  refine r_iconst (v := 0) dX10_setThere_0 (by decide) ?_
  refine r_istore_n (i := 3) dX10_setThere_1 rfl (by decide) rfl ?_
  simp only [List.set_cons_zero, List.set_cons_succ]
  refine r_iconst (v := 0) dX10_setThere_2 (by decide) ?_
  refine r_istore dX10_setThere_3 (by decide) rfl ?_
  simp only [List.set_cons_zero, List.set_cons_succ]
  exact RR.wk (ok_X10_setThere_12_l5 hd _ _ _ _ _ _ h) (And.intro rfl (And.intro rfl (And.intro rfl (And.intro rfl (And.intro rfl (trivial))))))
def f_X10_setThere_15_l5 (I : mI) (L : mL) : Nat → Int32 → Int32 → Int32 → Int32 → Option Int32
  | 0, _, _, _, _ => none
  | n + 1, x1, x2, x3, x4 => if x1 ≤ x4 then (some x3) else (ck (inb x4 6) (if (I 15 x4.toNatClampNeg) = x2 then (lt (x3 ||| ((1 : Int32) <<< (x4 &&& 31))) (fun v2 => lt (x4 + Int32.ofInt 1) (fun v3 => f_X10_setThere_15_l5 I L n x1 x2 v2 v3))) else (lt (x4 + Int32.ofInt 1) (fun v1 => f_X10_setThere_15_l5 I L n x1 x2 x3 v1))))
theorem ok_X10_setThere_15_l5 {d : Nat} (hd : 0 ≤ d){I : mI} {L : mL} : ∀ (n : Nat) (x1 : Int32) (x2 : Int32) (x3 : Int32) (x4 : Int32) (o : Int32), f_X10_setThere_15_l5 I L n x1 x2 x3 x4 = some o → RR mX10_setThere d 5 [some (.ref 15), some (.int x1), some (.int x2), some (.int x3), some (.int x4)] [] I L (retQ (some (.int o)) I L) := by
  intro n
  induction n with
  | zero => intro x1 x2 x3 x4 o h; rw [f_X10_setThere_15_l5] at h; cases h
  | succ n ih =>
    intro x1 x2 x3 x4 o h
    rw [f_X10_setThere_15_l5] at h
    refine r_iload dX10_setThere_5 rfl ?_
    refine r_iload_n (i := 1) dX10_setThere_7 rfl rfl ?_
    refine r_icmp_ge (tgt := 32) dX10_setThere_8 (by decide) (fun c => ?_) (fun c => ?_)
    · rw [if_pos c] at h
      refine r_iload_n (i := 3) dX10_setThere_32 rfl rfl ?_
      refine r_iret (by first | rfl | decide) dX10_setThere_33 ?_
      obtain rfl := Option.some.inj h
      exact ⟨rfl, rfl, rfl⟩
    · rw [if_neg c] at h
      refine r_aload_n (i := 0) dX10_setThere_11 rfl rfl ?_
      refine r_iload dX10_setThere_12 rfl ?_
      obtain ⟨hb, h⟩ := ck_some h
      refine r_iald rfl (inb_vp hb) dX10_setThere_14 ?_
      refine r_iload_n (i := 2) dX10_setThere_15 rfl rfl ?_
      refine r_icmp_ne (tgt := 26) dX10_setThere_16 (by decide) (fun c => ?_) (fun c => ?_)
      · rw [if_neg c] at h
        refine r_iinc (v := _) dX10_setThere_26 rfl rfl (by decide) rfl ?_
        simp only [List.set_cons_zero, List.set_cons_succ]
        replace h := lt_some h
        refine r_goto (tgt := 5) dX10_setThere_29 (by decide) ?_
        exact RR.wk (ih _ _ _ _ _ h) (And.intro rfl (And.intro rfl (And.intro rfl (And.intro rfl (And.intro rfl (trivial))))))
      · rw [if_pos c] at h
        refine r_iload_n (i := 3) dX10_setThere_19 rfl rfl ?_
        refine r_iconst (v := 1) dX10_setThere_20 (by decide) ?_
        refine r_iload dX10_setThere_21 rfl ?_
        refine r_ishl dX10_setThere_23 ?_
        refine r_ior dX10_setThere_24 ?_
        refine r_istore_n (i := 3) dX10_setThere_25 rfl (by decide) rfl ?_
        simp only [List.set_cons_zero, List.set_cons_succ]
        replace h := lt_some h
        refine r_iinc (v := _) dX10_setThere_26 rfl rfl (by decide) rfl ?_
        simp only [List.set_cons_zero, List.set_cons_succ]
        replace h := lt_some h
        refine r_goto (tgt := 5) dX10_setThere_29 (by decide) ?_
        exact RR.wk (ih _ _ _ _ _ h) (And.intro rfl (And.intro rfl (And.intro rfl (And.intro rfl (And.intro rfl (trivial))))))
def f_X10_setThere_15 (I : mI) (L : mL) (a1 : Int32) (a2 : Int32) : Option Int32 := f_X10_setThere_15_l5 I L fuel a1 a2 0 0
theorem ok_X10_setThere_15 {d : Nat} (hd : 0 ≤ d) {I : mI} {L : mL} {a1 : Int32} {a2 : Int32} {o : Int32} (h : f_X10_setThere_15 I L a1 a2 = some o) : RR mX10_setThere d 0 [some (.ref 15), some (.int a1), some (.int a2), none, none] [] I L (retQ (some (.int o)) I L) := by
  unfold f_X10_setThere_15 at h
  refine r_iconst (v := 0) dX10_setThere_0 (by decide) ?_
  refine r_istore_n (i := 3) dX10_setThere_1 rfl (by decide) rfl ?_
  simp only [List.set_cons_zero, List.set_cons_succ]
  refine r_iconst (v := 0) dX10_setThere_2 (by decide) ?_
  refine r_istore dX10_setThere_3 (by decide) rfl ?_
  simp only [List.set_cons_zero, List.set_cons_succ]
  exact RR.wk (ok_X10_setThere_15_l5 hd _ _ _ _ _ _ h) (And.intro rfl (And.intro rfl (And.intro rfl (And.intro rfl (And.intro rfl (trivial))))))
def f_X10_of_0_b77 (I : mI) (L : mL) (x1 : Int32) (x2 : Int32) : Option Int32 := ck (inb (((x1 * 4) + x2) - 1) 32) (some (I 4 (((x1 * 4) + x2) - 1).toNatClampNeg))
theorem ok_X10_of_0_b77 {d : Nat} (hd : 2 ≤ d){I : mI} {L : mL} (x1 : Int32) (x2 : Int32) {o : Int32} (h : f_X10_of_0_b77 I L x1 x2 = some o) : RR mX10_of d 77 [some (.ref 0), some (.int x1), some (.int x2)] [] I L (retQ (some (.int o)) I L) := by
  unfold f_X10_of_0_b77 at h
  refine r_aload_n (i := 0) dX10_of_77 rfl rfl ?_
  refine r_getR f_X10_10 dX10_of_78 rfl rfl ?_
  refine r_getR f_X10_76 dX10_of_81 rfl rfl ?_
  refine r_getR f_X10_94 dX10_of_84 rfl rfl ?_
  refine r_iload_n (i := 1) dX10_of_87 rfl rfl ?_
  refine r_iconst (v := 4) dX10_of_88 (by decide) ?_
  refine r_imul dX10_of_89 ?_
  refine r_iload_n (i := 2) dX10_of_90 rfl rfl ?_
  refine r_iadd dX10_of_91 ?_
  refine r_iconst (v := 1) dX10_of_92 (by decide) ?_
  refine r_isub dX10_of_93 ?_
  obtain ⟨hb, h⟩ := ck_some h
  refine r_iald rfl (inb_vp hb) dX10_of_94 ?_
  refine r_iret (by first | rfl | decide) dX10_of_95 ?_
  obtain rfl := Option.some.inj h
  exact ⟨rfl, rfl, rfl⟩
def f_X10_of_0 (I : mI) (L : mL) (a1 : Int32) (a2 : Int32) : Option Int32 := (f_X3_hasParish_2 I L a1).bind (fun r1 => if r1 = 0 then (some (-1)) else (if a2 = 0 then (ck (inb a1 8) (some (I 3 a1.toNatClampNeg))) else (if a2 = 1 then (f_X10_of_0_b77 I L a1 a2) else (if a2 = 2 then (f_X10_of_0_b77 I L a1 a2) else (if a2 = 3 then (f_X10_of_0_b77 I L a1 a2) else (if a2 = 4 then (f_X10_of_0_b77 I L a1 a2) else (if a2 = 5 then ((f_X3_roadsAt_2 I L a1).bind (fun r2 => some r2)) else (if a2 = 6 then ((f_X10_setThere_12 I L (I 1 10) a1).bind (fun r3 => some r3)) else (if a2 = 7 then ((f_X10_setThere_15 I L (I 1 11) a1).bind (fun r4 => some r4)) else (some (-1)))))))))))
theorem ok_X10_of_0 {d : Nat} (hd : 2 ≤ d) {I : mI} {L : mL} {a1 : Int32} {a2 : Int32} {o : Int32} (h : f_X10_of_0 I L a1 a2 = some o) : RR mX10_of d 0 [some (.ref 0), some (.int a1), some (.int a2)] [] I L (retQ (some (.int o)) I L) := by
  unfold f_X10_of_0 at h
  refine r_aload_n (i := 0) dX10_of_0 rfl rfl ?_
  refine r_getR f_X10_10 dX10_of_1 rfl rfl ?_
  refine r_getR f_X10_76 dX10_of_4 rfl rfl ?_
  refine r_iload_n (i := 1) dX10_of_7 rfl rfl ?_
  obtain ⟨r1, hr, h⟩ := bind_some h
  refine r_V (d' := 0) k_X10_90 dX10_of_8 (by omega) rfl rfl rfl (Nat.le_of_ble_eq_true rfl) (Nat.le_of_ble_eq_true rfl) (ok_X3_hasParish_2 (Nat.le_refl _) hr) (fun v I' L' hq => ?_)
  obtain ⟨rfl, rfl, rfl⟩ := hq
  simp only [Option.toList_some, Option.toList_none, List.drop_succ_cons, List.drop_zero, List.drop_nil, List.cons_append, List.nil_append]
  refine r_if_ne (tgt := 16) dX10_of_11 (by decide) (fun c => ?_) (fun c => ?_)
  · rw [if_neg c] at h
    refine r_iload_n (i := 2) dX10_of_16 rfl rfl ?_
    by_cases c0 : a2 = 0
    · rw [if_pos c0] at h
      refine r_tabIn (tgt := 64) (off := 47) dX10_of_17 (by rw [c0]; decide) (by rw [c0]; decide) (by rw [c0]; rfl) (by decide) ?_
      refine r_aload_n (i := 0) dX10_of_64 rfl rfl ?_
      refine r_getR f_X10_10 dX10_of_65 rfl rfl ?_
      refine r_getR f_X10_76 dX10_of_68 rfl rfl ?_
      refine r_getR f_X10_143 dX10_of_71 rfl rfl ?_
      refine r_iload_n (i := 1) dX10_of_74 rfl rfl ?_
      obtain ⟨hb, h⟩ := ck_some h
      refine r_iald rfl (inb_vp hb) dX10_of_75 ?_
      refine r_iret (by first | rfl | decide) dX10_of_76 ?_
      obtain rfl := Option.some.inj h
      exact ⟨rfl, rfl, rfl⟩
    rw [if_neg c0] at h
    by_cases c1 : a2 = 1
    · rw [if_pos c1] at h
      refine r_tabIn (tgt := 77) (off := 60) dX10_of_17 (by rw [c1]; decide) (by rw [c1]; decide) (by rw [c1]; rfl) (by decide) ?_
      exact RR.wk (ok_X10_of_0_b77 hd _ _ h) (And.intro rfl (And.intro rfl (And.intro rfl (trivial))))
    rw [if_neg c1] at h
    by_cases c2 : a2 = 2
    · rw [if_pos c2] at h
      refine r_tabIn (tgt := 77) (off := 60) dX10_of_17 (by rw [c2]; decide) (by rw [c2]; decide) (by rw [c2]; rfl) (by decide) ?_
      exact RR.wk (ok_X10_of_0_b77 hd _ _ h) (And.intro rfl (And.intro rfl (And.intro rfl (trivial))))
    rw [if_neg c2] at h
    by_cases c3 : a2 = 3
    · rw [if_pos c3] at h
      refine r_tabIn (tgt := 77) (off := 60) dX10_of_17 (by rw [c3]; decide) (by rw [c3]; decide) (by rw [c3]; rfl) (by decide) ?_
      exact RR.wk (ok_X10_of_0_b77 hd _ _ h) (And.intro rfl (And.intro rfl (And.intro rfl (trivial))))
    rw [if_neg c3] at h
    by_cases c4 : a2 = 4
    · rw [if_pos c4] at h
      refine r_tabIn (tgt := 77) (off := 60) dX10_of_17 (by rw [c4]; decide) (by rw [c4]; decide) (by rw [c4]; rfl) (by decide) ?_
      exact RR.wk (ok_X10_of_0_b77 hd _ _ h) (And.intro rfl (And.intro rfl (And.intro rfl (trivial))))
    rw [if_neg c4] at h
    by_cases c5 : a2 = 5
    · rw [if_pos c5] at h
      refine r_tabIn (tgt := 96) (off := 79) dX10_of_17 (by rw [c5]; decide) (by rw [c5]; decide) (by rw [c5]; rfl) (by decide) ?_
      refine r_aload_n (i := 0) dX10_of_96 rfl rfl ?_
      refine r_getR f_X10_10 dX10_of_97 rfl rfl ?_
      refine r_getR f_X10_76 dX10_of_100 rfl rfl ?_
      refine r_iload_n (i := 1) dX10_of_103 rfl rfl ?_
      obtain ⟨r2, hr, h⟩ := bind_some h
      refine r_V (d' := 1) k_X10_146 dX10_of_104 (by omega) rfl rfl rfl (Nat.le_of_ble_eq_true rfl) (Nat.le_of_ble_eq_true rfl) (ok_X3_roadsAt_2 (Nat.le_refl _) hr) (fun v I' L' hq => ?_)
      obtain ⟨rfl, rfl, rfl⟩ := hq
      simp only [Option.toList_some, Option.toList_none, List.drop_succ_cons, List.drop_zero, List.drop_nil, List.cons_append, List.nil_append]
      refine r_iret (by first | rfl | decide) dX10_of_107 ?_
      obtain rfl := Option.some.inj h
      exact ⟨rfl, rfl, rfl⟩
    rw [if_neg c5] at h
    by_cases c6 : a2 = 6
    · rw [if_pos c6] at h
      refine r_tabIn (tgt := 108) (off := 91) dX10_of_17 (by rw [c6]; decide) (by rw [c6]; decide) (by rw [c6]; rfl) (by decide) ?_
      refine r_aload_n (i := 0) dX10_of_108 rfl rfl ?_
      refine r_getR f_X10_10 dX10_of_109 rfl rfl ?_
      refine r_getR f_X10_149 dX10_of_112 rfl rfl ?_
      refine r_aload_n (i := 0) dX10_of_115 rfl rfl ?_
      refine r_getR f_X10_10 dX10_of_116 rfl rfl ?_
      refine r_getI f_X10_122 dX10_of_119 rfl rfl ?_
      refine r_iload_n (i := 1) dX10_of_122 rfl rfl ?_
      obtain ⟨r3, hr, h⟩ := bind_some h
      refine r_S (d' := 0) k_X10_152 dX10_of_123 (by omega) rfl (Nat.le_of_ble_eq_true rfl) (Nat.le_of_ble_eq_true rfl) (ok_X10_setThere_12 (Nat.le_refl _) hr) (fun v I' L' hq => ?_)
      obtain ⟨rfl, rfl, rfl⟩ := hq
      simp only [Option.toList_some, Option.toList_none, List.drop_succ_cons, List.drop_zero, List.drop_nil, List.cons_append, List.nil_append]
      refine r_iret (by first | rfl | decide) dX10_of_126 ?_
      obtain rfl := Option.some.inj h
      exact ⟨rfl, rfl, rfl⟩
    rw [if_neg c6] at h
    by_cases c7 : a2 = 7
    · rw [if_pos c7] at h
      refine r_tabIn (tgt := 127) (off := 110) dX10_of_17 (by rw [c7]; decide) (by rw [c7]; decide) (by rw [c7]; rfl) (by decide) ?_
      refine r_aload_n (i := 0) dX10_of_127 rfl rfl ?_
      refine r_getR f_X10_10 dX10_of_128 rfl rfl ?_
      refine r_getR f_X10_156 dX10_of_131 rfl rfl ?_
      refine r_aload_n (i := 0) dX10_of_134 rfl rfl ?_
      refine r_getR f_X10_10 dX10_of_135 rfl rfl ?_
      refine r_getI f_X10_137 dX10_of_138 rfl rfl ?_
      refine r_iload_n (i := 1) dX10_of_141 rfl rfl ?_
      obtain ⟨r4, hr, h⟩ := bind_some h
      refine r_S (d' := 0) k_X10_152 dX10_of_142 (by omega) rfl (Nat.le_of_ble_eq_true rfl) (Nat.le_of_ble_eq_true rfl) (ok_X10_setThere_15 (Nat.le_refl _) hr) (fun v I' L' hq => ?_)
      obtain ⟨rfl, rfl, rfl⟩ := hq
      simp only [Option.toList_some, Option.toList_none, List.drop_succ_cons, List.drop_zero, List.drop_nil, List.cons_append, List.nil_append]
      refine r_iret (by first | rfl | decide) dX10_of_145 ?_
      obtain rfl := Option.some.inj h
      exact ⟨rfl, rfl, rfl⟩
    rw [if_neg c7] at h
    refine r_tabOut (tgt := 146) dX10_of_17 (by have := lv_neT c0 (a := 0) (by decide); have := lv_neT c1 (a := 1) (by decide); have := lv_neT c2 (a := 2) (by decide); have := lv_neT c3 (a := 3) (by decide); have := lv_neT c4 (a := 4) (by decide); have := lv_neT c5 (a := 5) (by decide); have := lv_neT c6 (a := 6) (by decide); have := lv_neT c7 (a := 7) (by decide); omega) (by decide) ?_
    refine r_iconst (v := (-1)) dX10_of_146 (by decide) ?_
    refine r_iret (by first | rfl | decide) dX10_of_147 ?_
    obtain rfl := Option.some.inj h
    exact ⟨rfl, rfl, rfl⟩
  · rw [if_pos c] at h
    refine r_iconst (v := (-1)) dX10_of_14 (by decide) ?_
    refine r_iret (by first | rfl | decide) dX10_of_15 ?_
    obtain rfl := Option.some.inj h
    exact ⟨rfl, rfl, rfl⟩
def f_X10_toldOfPerson_0 (I : mI) (L : mL) (a1 : Int32) (a2 : Int32) : Option Int32 := if a1 < 0 then (some (-1)) else (if a1 < (I 1 11) then (if a2 = 9 then (ck (inb a1 6) (some (I 14 a1.toNatClampNeg))) else (ck (inb a1 6) (some (I 15 a1.toNatClampNeg)))) else (some (-1)))
theorem ok_X10_toldOfPerson_0 {d : Nat} (hd : 0 ≤ d) {I : mI} {L : mL} {a1 : Int32} {a2 : Int32} {o : Int32} (h : f_X10_toldOfPerson_0 I L a1 a2 = some o) : RR mX10_toldOfPerson d 0 [some (.ref 0), some (.int a1), some (.int a2)] [] I L (retQ (some (.int o)) I L) := by
  unfold f_X10_toldOfPerson_0 at h
  refine r_iload_n (i := 1) dX10_toldOfPerson_0 rfl rfl ?_
  refine r_if_lt (tgt := 15) dX10_toldOfPerson_1 (by decide) (fun c => ?_) (fun c => ?_)
  · rw [if_pos c] at h
    refine r_iconst (v := (-1)) dX10_toldOfPerson_15 (by decide) ?_
    refine r_iret (by first | rfl | decide) dX10_toldOfPerson_16 ?_
    obtain rfl := Option.some.inj h
    exact ⟨rfl, rfl, rfl⟩
  · rw [if_neg c] at h
    refine r_iload_n (i := 1) dX10_toldOfPerson_4 rfl rfl ?_
    refine r_aload_n (i := 0) dX10_toldOfPerson_5 rfl rfl ?_
    refine r_getR f_X10_10 dX10_toldOfPerson_6 rfl rfl ?_
    refine r_getI f_X10_137 dX10_toldOfPerson_9 rfl rfl ?_
    refine r_icmp_lt (tgt := 17) dX10_toldOfPerson_12 (by decide) (fun c => ?_) (fun c => ?_)
    · rw [if_pos c] at h
      refine r_iload_n (i := 2) dX10_toldOfPerson_17 rfl rfl ?_
      refine r_bipush (v := 9) dX10_toldOfPerson_18 (by decide) ?_
      refine r_icmp_ne (tgt := 35) dX10_toldOfPerson_20 (by decide) (fun c => ?_) (fun c => ?_)
      · rw [if_neg c] at h
        refine r_aload_n (i := 0) dX10_toldOfPerson_35 rfl rfl ?_
        refine r_getR f_X10_10 dX10_toldOfPerson_36 rfl rfl ?_
        refine r_getR f_X10_156 dX10_toldOfPerson_39 rfl rfl ?_
        refine r_iload_n (i := 1) dX10_toldOfPerson_42 rfl rfl ?_
        obtain ⟨hb, h⟩ := ck_some h
        refine r_iald rfl (inb_vp hb) dX10_toldOfPerson_43 ?_
        refine r_iret (by first | rfl | decide) dX10_toldOfPerson_44 ?_
        obtain rfl := Option.some.inj h
        exact ⟨rfl, rfl, rfl⟩
      · rw [if_pos c] at h
        refine r_aload_n (i := 0) dX10_toldOfPerson_23 rfl rfl ?_
        refine r_getR f_X10_10 dX10_toldOfPerson_24 rfl rfl ?_
        refine r_getR f_X10_390 dX10_toldOfPerson_27 rfl rfl ?_
        refine r_iload_n (i := 1) dX10_toldOfPerson_30 rfl rfl ?_
        obtain ⟨hb, h⟩ := ck_some h
        refine r_iald rfl (inb_vp hb) dX10_toldOfPerson_31 ?_
        refine r_goto (tgt := 44) dX10_toldOfPerson_32 (by decide) ?_
        refine r_iret (by first | rfl | decide) dX10_toldOfPerson_44 ?_
        obtain rfl := Option.some.inj h
        exact ⟨rfl, rfl, rfl⟩
    · rw [if_neg c] at h
      refine r_iconst (v := (-1)) dX10_toldOfPerson_15 (by decide) ?_
      refine r_iret (by first | rfl | decide) dX10_toldOfPerson_16 ?_
      obtain rfl := Option.some.inj h
      exact ⟨rfl, rfl, rfl⟩
def f_X10_toldOfGood_0 (I : mI) (L : mL) (a1 : Int32) (a2 : Int32) : Option Int32 := (f_X7_hasGood_1 I L a1).bind (fun r1 => if r1 = 0 then (some (-1)) else (if a2 = 5 then (ck (inb a1 6) (some (I 10 a1.toNatClampNeg))) else (if a2 = 6 then (ck (inb a1 6) (some (I 11 a1.toNatClampNeg))) else (if a2 = 7 then (ck (inb a1 6) (some (I 12 a1.toNatClampNeg))) else (ck (inb a1 6) (some (I 13 a1.toNatClampNeg)))))))
theorem ok_X10_toldOfGood_0 {d : Nat} (hd : 1 ≤ d) {I : mI} {L : mL} {a1 : Int32} {a2 : Int32} {o : Int32} (h : f_X10_toldOfGood_0 I L a1 a2 = some o) : RR mX10_toldOfGood d 0 [some (.ref 0), some (.int a1), some (.int a2)] [] I L (retQ (some (.int o)) I L) := by
  unfold f_X10_toldOfGood_0 at h
  refine r_aload_n (i := 0) dX10_toldOfGood_0 rfl rfl ?_
  refine r_getR f_X10_10 dX10_toldOfGood_1 rfl rfl ?_
  refine r_iload_n (i := 1) dX10_toldOfGood_4 rfl rfl ?_
  obtain ⟨r1, hr, h⟩ := bind_some h
  refine r_V (d' := 0) k_X10_128 dX10_toldOfGood_5 (by omega) rfl rfl rfl (Nat.le_of_ble_eq_true rfl) (Nat.le_of_ble_eq_true rfl) (ok_X7_hasGood_1 (Nat.le_refl _) hr) (fun v I' L' hq => ?_)
  obtain ⟨rfl, rfl, rfl⟩ := hq
  simp only [Option.toList_some, Option.toList_none, List.drop_succ_cons, List.drop_zero, List.drop_nil, List.cons_append, List.nil_append]
  refine r_if_ne (tgt := 13) dX10_toldOfGood_8 (by decide) (fun c => ?_) (fun c => ?_)
  · rw [if_neg c] at h
    refine r_iload_n (i := 2) dX10_toldOfGood_13 rfl rfl ?_
    by_cases c5 : a2 = 5
    · rw [if_pos c5] at h
      refine r_tabIn (tgt := 40) (off := 26) dX10_toldOfGood_14 (by rw [c5]; decide) (by rw [c5]; decide) (by rw [c5]; rfl) (by decide) ?_
      refine r_aload_n (i := 0) dX10_toldOfGood_40 rfl rfl ?_
      refine r_getR f_X10_10 dX10_toldOfGood_41 rfl rfl ?_
      refine r_getR f_X10_233 dX10_toldOfGood_44 rfl rfl ?_
      refine r_iload_n (i := 1) dX10_toldOfGood_47 rfl rfl ?_
      obtain ⟨hb, h⟩ := ck_some h
      refine r_iald rfl (inb_vp hb) dX10_toldOfGood_48 ?_
      refine r_iret (by first | rfl | decide) dX10_toldOfGood_49 ?_
      obtain rfl := Option.some.inj h
      exact ⟨rfl, rfl, rfl⟩
    rw [if_neg c5] at h
    by_cases c6 : a2 = 6
    · rw [if_pos c6] at h
      refine r_tabIn (tgt := 50) (off := 36) dX10_toldOfGood_14 (by rw [c6]; decide) (by rw [c6]; decide) (by rw [c6]; rfl) (by decide) ?_
      refine r_aload_n (i := 0) dX10_toldOfGood_50 rfl rfl ?_
      refine r_getR f_X10_10 dX10_toldOfGood_51 rfl rfl ?_
      refine r_getR f_X10_244 dX10_toldOfGood_54 rfl rfl ?_
      refine r_iload_n (i := 1) dX10_toldOfGood_57 rfl rfl ?_
      obtain ⟨hb, h⟩ := ck_some h
      refine r_iald rfl (inb_vp hb) dX10_toldOfGood_58 ?_
      refine r_iret (by first | rfl | decide) dX10_toldOfGood_59 ?_
      obtain rfl := Option.some.inj h
      exact ⟨rfl, rfl, rfl⟩
    rw [if_neg c6] at h
    by_cases c7 : a2 = 7
    · rw [if_pos c7] at h
      refine r_tabIn (tgt := 60) (off := 46) dX10_toldOfGood_14 (by rw [c7]; decide) (by rw [c7]; decide) (by rw [c7]; rfl) (by decide) ?_
      refine r_aload_n (i := 0) dX10_toldOfGood_60 rfl rfl ?_
      refine r_getR f_X10_10 dX10_toldOfGood_61 rfl rfl ?_
      refine r_getR f_X10_149 dX10_toldOfGood_64 rfl rfl ?_
      refine r_iload_n (i := 1) dX10_toldOfGood_67 rfl rfl ?_
      obtain ⟨hb, h⟩ := ck_some h
      refine r_iald rfl (inb_vp hb) dX10_toldOfGood_68 ?_
      refine r_iret (by first | rfl | decide) dX10_toldOfGood_69 ?_
      obtain rfl := Option.some.inj h
      exact ⟨rfl, rfl, rfl⟩
    rw [if_neg c7] at h
    refine r_tabOut (tgt := 70) dX10_toldOfGood_14 (by have := lv_neT c5 (a := 5) (by decide); have := lv_neT c6 (a := 6) (by decide); have := lv_neT c7 (a := 7) (by decide); omega) (by decide) ?_
    refine r_aload_n (i := 0) dX10_toldOfGood_70 rfl rfl ?_
    refine r_getR f_X10_10 dX10_toldOfGood_71 rfl rfl ?_
    refine r_getR f_X10_134 dX10_toldOfGood_74 rfl rfl ?_
    refine r_iload_n (i := 1) dX10_toldOfGood_77 rfl rfl ?_
    obtain ⟨hb, h⟩ := ck_some h
    refine r_iald rfl (inb_vp hb) dX10_toldOfGood_78 ?_
    refine r_iret (by first | rfl | decide) dX10_toldOfGood_79 ?_
    obtain rfl := Option.some.inj h
    exact ⟨rfl, rfl, rfl⟩
  · rw [if_pos c] at h
    refine r_iconst (v := (-1)) dX10_toldOfGood_11 (by decide) ?_
    refine r_iret (by first | rfl | decide) dX10_toldOfGood_12 ?_
    obtain rfl := Option.some.inj h
    exact ⟨rfl, rfl, rfl⟩
def f_X7_hasCart_1 (I : mI) (L : mL) (a1 : Int32) : Option Int32 := if a1 < 0 then (some 0) else (if (I 1 9) ≤ a1 then (some 0) else (some 1))
theorem ok_X7_hasCart_1 {d : Nat} (hd : 0 ≤ d) {I : mI} {L : mL} {a1 : Int32} {o : Int32} (h : f_X7_hasCart_1 I L a1 = some o) : RR mX7_hasCart d 0 [some (.ref 1), some (.int a1)] [] I L (retQ (some (.int o)) I L) := by
  unfold f_X7_hasCart_1 at h
  refine r_iload_n (i := 1) dX7_hasCart_0 rfl rfl ?_
  refine r_if_lt (tgt := 16) dX7_hasCart_1 (by decide) (fun c => ?_) (fun c => ?_)
  · rw [if_pos c] at h
    refine r_iconst (v := 0) dX7_hasCart_16 (by decide) ?_
    refine r_iret (by first | rfl | decide) dX7_hasCart_17 ?_
    obtain rfl := Option.some.inj h
    exact ⟨rfl, rfl, rfl⟩
  · rw [if_neg c] at h
    refine r_iload_n (i := 1) dX7_hasCart_4 rfl rfl ?_
    refine r_aload_n (i := 0) dX7_hasCart_5 rfl rfl ?_
    refine r_getI f_X7_69 dX7_hasCart_6 rfl rfl ?_
    refine r_icmp_ge (tgt := 16) dX7_hasCart_9 (by decide) (fun c => ?_) (fun c => ?_)
    · rw [if_pos c] at h
      refine r_iconst (v := 0) dX7_hasCart_16 (by decide) ?_
      refine r_iret (by first | rfl | decide) dX7_hasCart_17 ?_
      obtain rfl := Option.some.inj h
      exact ⟨rfl, rfl, rfl⟩
    · rw [if_neg c] at h
      refine r_iconst (v := 1) dX7_hasCart_12 (by decide) ?_
      refine r_goto (tgt := 17) dX7_hasCart_13 (by decide) ?_
      refine r_iret (by first | rfl | decide) dX7_hasCart_17 ?_
      obtain rfl := Option.some.inj h
      exact ⟨rfl, rfl, rfl⟩
