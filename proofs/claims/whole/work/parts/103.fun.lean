def f_X5_trace_48_l60 : Nat → Int32 → Int32 → Int32 → Int32 → mI → mL → rI
  | 0, _, _, _, _, _, _ => none
  | n + 1, x2, x3, x4, x5, I, L => if (I 48 8) ≤ x5 then (if x4 = x2 then (some (1, I, L)) else (some (0, I, L))) else (if x4 = x2 then (if x4 = x2 then (some (1, I, L)) else (some (0, I, L))) else ((f_X5_firstStep_48 I L x4 x2 x3).bind (fun r8 => if 0 ≤ r8 then (lt (x3 &&& (((1 : Int32) <<< (r8 &&& 31)) ^^^ (-1))) (fun v9 => ck (inb x5 8) (lt (uI I 54 x5.toNatClampNeg r8) (fun M10 => lt (uI M10 48 7 (x5 + 1)) (fun M11 => lt (x5 + Int32.ofInt 1) (fun v12 => f_X5_trace_48_l60 n x2 v9 r8 v12 M11 L)))))) else (some (0, I, L)))))
theorem ok_X5_trace_48_l60 {d : Nat} (hd : 4 ≤ d) : ∀ (n : Nat) (x2 : Int32) (x3 : Int32) (x4 : Int32) (x5 : Int32) (I : mI) (L : mL) (o : Int32 × mI × mL), f_X5_trace_48_l60 n x2 x3 x4 x5 I L = some o → RR mX5_trace d 60 [some (.ref 48), none, some (.int x2), some (.int x3), some (.int x4), some (.int x5)] [] I L (retQ (some (.int o.1)) o.2.1 o.2.2) := by
  intro n
  induction n with
  | zero => intro x2 x3 x4 x5 I L o h; rw [f_X5_trace_48_l60] at h; cases h
  | succ n ih =>
    intro x2 x3 x4 x5 I L o h
    rw [f_X5_trace_48_l60] at h
    refine r_iload dX5_trace_60 rfl ?_
    refine r_aload_n (i := 0) dX5_trace_62 rfl rfl ?_
    refine r_getI f_X5_46 dX5_trace_63 rfl rfl ?_
    refine r_icmp_ge (tgt := 124) dX5_trace_66 (by decide) (fun c => ?_) (fun c => ?_)
    · rw [if_pos c] at h
      refine r_iload dX5_trace_124 rfl ?_
      refine r_iload_n (i := 2) dX5_trace_126 rfl rfl ?_
      refine r_icmp_ne (tgt := 134) dX5_trace_127 (by decide) (fun c => ?_) (fun c => ?_)
      · rw [if_neg c] at h
        refine r_iconst (v := 0) dX5_trace_134 (by decide) ?_
        refine r_iret (by first | rfl | decide) dX5_trace_135 ?_
        obtain rfl := Option.some.inj h
        exact ⟨rfl, rfl, rfl⟩
      · rw [if_pos c] at h
        refine r_iconst (v := 1) dX5_trace_130 (by decide) ?_
        refine r_goto (tgt := 135) dX5_trace_131 (by decide) ?_
        refine r_iret (by first | rfl | decide) dX5_trace_135 ?_
        obtain rfl := Option.some.inj h
        exact ⟨rfl, rfl, rfl⟩
    · rw [if_neg c] at h
      refine r_iload dX5_trace_69 rfl ?_
      refine r_iload_n (i := 2) dX5_trace_71 rfl rfl ?_
      refine r_icmp_eq (tgt := 124) dX5_trace_72 (by decide) (fun c => ?_) (fun c => ?_)
      · rw [if_pos c] at h
        refine r_iload dX5_trace_124 rfl ?_
        refine r_iload_n (i := 2) dX5_trace_126 rfl rfl ?_
        refine r_icmp_ne (tgt := 134) dX5_trace_127 (by decide) (fun c => ?_) (fun c => ?_)
        · rw [if_neg c] at h
          refine r_iconst (v := 0) dX5_trace_134 (by decide) ?_
          refine r_iret (by first | rfl | decide) dX5_trace_135 ?_
          obtain rfl := Option.some.inj h
          exact ⟨rfl, rfl, rfl⟩
        · rw [if_pos c] at h
          refine r_iconst (v := 1) dX5_trace_130 (by decide) ?_
          refine r_goto (tgt := 135) dX5_trace_131 (by decide) ?_
          refine r_iret (by first | rfl | decide) dX5_trace_135 ?_
          obtain rfl := Option.some.inj h
          exact ⟨rfl, rfl, rfl⟩
      · rw [if_neg c] at h
        refine r_aload_n (i := 0) dX5_trace_75 rfl rfl ?_
        refine r_iload dX5_trace_76 rfl ?_
        refine r_iload_n (i := 2) dX5_trace_78 rfl rfl ?_
        refine r_iload_n (i := 3) dX5_trace_79 rfl rfl ?_
        obtain ⟨r8, hr, h⟩ := bind_some h
        refine r_V (d' := 1) k_X5_137 dX5_trace_80 (by omega) rfl rfl rfl (Nat.le_of_ble_eq_true rfl) (Nat.le_of_ble_eq_true rfl) (ok_X5_firstStep_48 (Nat.le_refl _) hr) (fun v I' L' hq => ?_)
        obtain ⟨rfl, rfl, rfl⟩ := hq
        simp only [Option.toList_some, Option.toList_none, List.drop_succ_cons, List.drop_zero, List.drop_nil, List.cons_append, List.nil_append]
        refine r_istore dX5_trace_83 (by decide) rfl ?_
        simp only [List.set_cons_zero, List.set_cons_succ]
        refine r_iload dX5_trace_85 rfl ?_
        refine r_if_ge (tgt := 92) dX5_trace_87 (by decide) (fun c => ?_) (fun c => ?_)
        · rw [if_pos c] at h
          refine r_iload_n (i := 3) dX5_trace_92 rfl rfl ?_
          refine r_iconst (v := 1) dX5_trace_93 (by decide) ?_
          refine r_iload dX5_trace_94 rfl ?_
          refine r_ishl dX5_trace_96 ?_
          refine r_iconst (v := (-1)) dX5_trace_97 (by decide) ?_
          refine r_ixor dX5_trace_98 ?_
          refine r_iand dX5_trace_99 ?_
          refine r_istore_n (i := 3) dX5_trace_100 rfl (by decide) rfl ?_
          simp only [List.set_cons_zero, List.set_cons_succ]
          replace h := lt_some h
          refine r_aload_n (i := 0) dX5_trace_101 rfl rfl ?_
          refine r_getR f_X5_27 dX5_trace_102 rfl rfl ?_
          refine r_iload dX5_trace_105 rfl ?_
          refine r_iload dX5_trace_107 rfl ?_
          obtain ⟨hb, h⟩ := ck_some h
          refine r_iast rfl (inb_vp hb) dX5_trace_109 ?_
          replace h := lt_some h
          refine r_aload_n (i := 0) dX5_trace_110 rfl rfl ?_
          refine r_iload dX5_trace_111 rfl ?_
          refine r_iconst (v := 1) dX5_trace_113 (by decide) ?_
          refine r_iadd dX5_trace_114 ?_
          refine r_putI f_X5_134 rfl rfl dX5_trace_115 rfl rfl ?_
          replace h := lt_some h
          refine r_iinc (v := _) dX5_trace_118 rfl rfl (by decide) rfl ?_
          simp only [List.set_cons_zero, List.set_cons_succ]
          replace h := lt_some h
          refine r_goto (tgt := 60) dX5_trace_121 (by decide) ?_
          exact RR.wk (ih _ _ _ _ _ _ _ h) (And.intro rfl (And.intro rfl (And.intro rfl (And.intro rfl (And.intro rfl (trivial))))))
        · rw [if_neg c] at h
          refine r_iconst (v := 0) dX5_trace_90 (by decide) ?_
          refine r_iret (by first | rfl | decide) dX5_trace_91 ?_
          obtain rfl := Option.some.inj h
          exact ⟨rfl, rfl, rfl⟩
def f_X5_trace_48 (I : mI) (L : mL) (a1 : Int32) (a2 : Int32) : rI := bndV (f_X5_spreadAll_48 I L) (fun Ir1 Lr1 => ck (inb ((a1 * 8) + a2) 64) (if (Ir1 50 ((a1 * 8) + a2).toNatClampNeg) < 536870912 then (bndV (f_X5_findNext_48 Ir1 Lr1 a2) (fun Ir3 Lr3 => lt (uI Ir3 54 (0 : Int32).toNatClampNeg a1) (fun M5 => lt (uI M5 48 7 1) (fun M6 => lt ((((1 : Int32) <<< ((M6 48 8) &&& 31)) - 1) &&& (((1 : Int32) <<< (a1 &&& 31)) ^^^ (-1))) (fun v7 => f_X5_trace_48_l60 fuel a2 v7 a1 1 M6 Lr3))))) else (some (0, Ir1, Lr1))))
theorem ok_X5_trace_48 {d : Nat} (hd : 4 ≤ d) {I : mI} {L : mL} {a1 : Int32} {a2 : Int32} {o : Int32 × mI × mL} (h : f_X5_trace_48 I L a1 a2 = some o) : RR mX5_trace d 0 [some (.ref 48), some (.int a1), some (.int a2), none, none, none] [] I L (retQ (some (.int o.1)) o.2.1 o.2.2) := by
  unfold f_X5_trace_48 at h
  refine r_aload_n (i := 0) dX5_trace_0 rfl rfl ?_
  obtain ⟨⟨Ir1, Lr1⟩, hr, h⟩ := bind_some h
  refine r_V (d' := 3) k_X5_128 dX5_trace_1 (by omega) rfl rfl rfl (Nat.le_of_ble_eq_true rfl) (Nat.le_of_ble_eq_true rfl) (ok_X5_spreadAll_48 (Nat.le_refl _) hr) (fun v I' L' hq => ?_)
  obtain ⟨rfl, rfl, rfl⟩ := hq
  simp only [Option.toList_some, Option.toList_none, List.drop_succ_cons, List.drop_zero, List.drop_nil, List.cons_append, List.nil_append]
  dsimp only at h
  refine r_aload_n (i := 0) dX5_trace_4 rfl rfl ?_
  refine r_getR f_X5_15 dX5_trace_5 rfl rfl ?_
  refine r_iload_n (i := 1) dX5_trace_8 rfl rfl ?_
  refine r_bipush (v := 8) dX5_trace_9 (by decide) ?_
  refine r_imul dX5_trace_11 ?_
  refine r_iload_n (i := 2) dX5_trace_12 rfl rfl ?_
  refine r_iadd dX5_trace_13 ?_
  obtain ⟨hb, h⟩ := ck_some h
  refine r_iald rfl (inb_vp hb) dX5_trace_14 ?_
  refine r_ldc n_X5_112 dX5_trace_15 ?_
  refine r_icmp_lt (tgt := 22) dX5_trace_17 (by decide) (fun c => ?_) (fun c => ?_)
  · rw [if_pos c] at h
    refine r_aload_n (i := 0) dX5_trace_22 rfl rfl ?_
    refine r_iload_n (i := 2) dX5_trace_23 rfl rfl ?_
    obtain ⟨⟨Ir3, Lr3⟩, hr, h⟩ := bind_some h
    refine r_V (d' := 1) k_X5_131 dX5_trace_24 (by omega) rfl rfl rfl (Nat.le_of_ble_eq_true rfl) (Nat.le_of_ble_eq_true rfl) (ok_X5_findNext_48 (Nat.le_refl _) hr) (fun v I' L' hq => ?_)
    obtain ⟨rfl, rfl, rfl⟩ := hq
    simp only [Option.toList_some, Option.toList_none, List.drop_succ_cons, List.drop_zero, List.drop_nil, List.cons_append, List.nil_append]
    dsimp only at h
    refine r_aload_n (i := 0) dX5_trace_27 rfl rfl ?_
    refine r_getR f_X5_27 dX5_trace_28 rfl rfl ?_
    refine r_iconst (v := 0) dX5_trace_31 (by decide) ?_
    refine r_iload_n (i := 1) dX5_trace_32 rfl rfl ?_
    refine r_iast rfl (vp_lit (by decide)) dX5_trace_33 ?_
    replace h := lt_some h
    refine r_aload_n (i := 0) dX5_trace_34 rfl rfl ?_
    refine r_iconst (v := 1) dX5_trace_35 (by decide) ?_
    refine r_putI f_X5_134 rfl rfl dX5_trace_36 rfl rfl ?_
    replace h := lt_some h
    refine r_iconst (v := 1) dX5_trace_39 (by decide) ?_
    refine r_aload_n (i := 0) dX5_trace_40 rfl rfl ?_
    refine r_getI f_X5_46 dX5_trace_41 rfl rfl ?_
    refine r_ishl dX5_trace_44 ?_
    refine r_iconst (v := 1) dX5_trace_45 (by decide) ?_
    refine r_isub dX5_trace_46 ?_
    refine r_iconst (v := 1) dX5_trace_47 (by decide) ?_
    refine r_iload_n (i := 1) dX5_trace_48 rfl rfl ?_
    refine r_ishl dX5_trace_49 ?_
    refine r_iconst (v := (-1)) dX5_trace_50 (by decide) ?_
    refine r_ixor dX5_trace_51 ?_
    refine r_iand dX5_trace_52 ?_
    refine r_istore_n (i := 3) dX5_trace_53 rfl (by decide) rfl ?_
    simp only [List.set_cons_zero, List.set_cons_succ]
    replace h := lt_some h
    refine r_iload_n (i := 1) dX5_trace_54 rfl rfl ?_
    refine r_istore dX5_trace_55 (by decide) rfl ?_
    simp only [List.set_cons_zero, List.set_cons_succ]
    refine r_iconst (v := 1) dX5_trace_57 (by decide) ?_
    refine r_istore dX5_trace_58 (by decide) rfl ?_
    simp only [List.set_cons_zero, List.set_cons_succ]
    exact RR.wk (ok_X5_trace_48_l60 hd _ _ _ _ _ _ _ _ h) (And.intro rfl (And.intro rfl (And.intro rfl (And.intro rfl (And.intro rfl (trivial))))))
  · rw [if_neg c] at h
    refine r_iconst (v := 0) dX5_trace_20 (by decide) ?_
    refine r_iret (by first | rfl | decide) dX5_trace_21 ?_
    obtain rfl := Option.some.inj h
    exact ⟨rfl, rfl, rfl⟩
def f_X10_way_0 (I : mI) (L : mL) (a1 : Int32) (a2 : Int32) (a3 : Int32) (a4 : Int32) (a5 : Int32) : rI := (f_X7_hasCart_1 I L a1).bind (fun r1 => if r1 = 0 then (some ((-1), I, L)) else ((f_X10_within I L a2 1 99).bind (fun r2 => if r2 = 0 then (some ((-1), I, L)) else ((f_X3_hasParish_2 I L a3).bind (fun r3 => if r3 = 0 then (some ((-1), I, L)) else ((f_X3_hasParish_2 I L a4).bind (fun r4 => if r4 = 0 then (some ((-1), I, L)) else ((f_X10_within I L a5 (-1) 7).bind (fun r5 => if r5 = 0 then (some ((-1), I, L)) else (bndV (f_X5_harness_48 I L a1) (fun Ir6 Lr6 => bndV (f_X5_weigh_48 Ir6 Lr6 a2) (fun Ir8 Lr8 => bndI (f_X5_trace_48 Ir8 Lr8 a3 a4) (fun r10 Ir10 Lr10 => if r10 = 0 then (some ((-4), Ir10, Lr10)) else (if 0 ≤ a5 then (if (Ir10 48 7) ≤ a5 then (some ((-4), Ir10, Lr10)) else (ck (inb a5 8) (some (Ir10 54 a5.toNatClampNeg, Ir10, Lr10)))) else (ck (inb ((a3 * 8) + a4) 64) (some (Ir10 50 ((a3 * 8) + a4).toNatClampNeg, Ir10, Lr10)))))))))))))))))
theorem ok_X10_way_0 {d : Nat} (hd : 5 ≤ d) {I : mI} {L : mL} {a1 : Int32} {a2 : Int32} {a3 : Int32} {a4 : Int32} {a5 : Int32} {o : Int32 × mI × mL} (h : f_X10_way_0 I L a1 a2 a3 a4 a5 = some o) : RR mX10_way d 0 [some (.ref 0), some (.int a1), some (.int a2), some (.int a3), some (.int a4), some (.int a5)] [] I L (retQ (some (.int o.1)) o.2.1 o.2.2) := by
  unfold f_X10_way_0 at h
  refine r_aload_n (i := 0) dX10_way_0 rfl rfl ?_
  refine r_getR f_X10_10 dX10_way_1 rfl rfl ?_
  refine r_iload_n (i := 1) dX10_way_4 rfl rfl ?_
  obtain ⟨r1, hr, h⟩ := bind_some h
  refine r_V (d' := 0) k_X10_210 dX10_way_5 (by omega) rfl rfl rfl (Nat.le_of_ble_eq_true rfl) (Nat.le_of_ble_eq_true rfl) (ok_X7_hasCart_1 (Nat.le_refl _) hr) (fun v I' L' hq => ?_)
  obtain ⟨rfl, rfl, rfl⟩ := hq
  simp only [Option.toList_some, Option.toList_none, List.drop_succ_cons, List.drop_zero, List.drop_nil, List.cons_append, List.nil_append]
  refine r_if_eq (tgt := 61) dX10_way_8 (by decide) (fun c => ?_) (fun c => ?_)
  · rw [if_pos c] at h
    refine r_iconst (v := (-1)) dX10_way_61 (by decide) ?_
    refine r_iret (by first | rfl | decide) dX10_way_62 ?_
    obtain rfl := Option.some.inj h
    exact ⟨rfl, rfl, rfl⟩
  · rw [if_neg c] at h
    refine r_iload_n (i := 2) dX10_way_11 rfl rfl ?_
    refine r_iconst (v := 1) dX10_way_12 (by decide) ?_
    refine r_bipush (v := 99) dX10_way_13 (by decide) ?_
    obtain ⟨r2, hr, h⟩ := bind_some h
    refine r_S (d' := 0) k_X10_72 dX10_way_15 (by omega) rfl (Nat.le_of_ble_eq_true rfl) (Nat.le_of_ble_eq_true rfl) (ok_X10_within (Nat.le_refl _) hr) (fun v I' L' hq => ?_)
    obtain ⟨rfl, rfl, rfl⟩ := hq
    simp only [Option.toList_some, Option.toList_none, List.drop_succ_cons, List.drop_zero, List.drop_nil, List.cons_append, List.nil_append]
    refine r_if_eq (tgt := 61) dX10_way_18 (by decide) (fun c => ?_) (fun c => ?_)
    · rw [if_pos c] at h
      refine r_iconst (v := (-1)) dX10_way_61 (by decide) ?_
      refine r_iret (by first | rfl | decide) dX10_way_62 ?_
      obtain rfl := Option.some.inj h
      exact ⟨rfl, rfl, rfl⟩
    · rw [if_neg c] at h
      refine r_aload_n (i := 0) dX10_way_21 rfl rfl ?_
      refine r_getR f_X10_10 dX10_way_22 rfl rfl ?_
      refine r_getR f_X10_76 dX10_way_25 rfl rfl ?_
      refine r_iload_n (i := 3) dX10_way_28 rfl rfl ?_
      obtain ⟨r3, hr, h⟩ := bind_some h
      refine r_V (d' := 0) k_X10_90 dX10_way_29 (by omega) rfl rfl rfl (Nat.le_of_ble_eq_true rfl) (Nat.le_of_ble_eq_true rfl) (ok_X3_hasParish_2 (Nat.le_refl _) hr) (fun v I' L' hq => ?_)
      obtain ⟨rfl, rfl, rfl⟩ := hq
      simp only [Option.toList_some, Option.toList_none, List.drop_succ_cons, List.drop_zero, List.drop_nil, List.cons_append, List.nil_append]
      refine r_if_eq (tgt := 61) dX10_way_32 (by decide) (fun c => ?_) (fun c => ?_)
      · rw [if_pos c] at h
        refine r_iconst (v := (-1)) dX10_way_61 (by decide) ?_
        refine r_iret (by first | rfl | decide) dX10_way_62 ?_
        obtain rfl := Option.some.inj h
        exact ⟨rfl, rfl, rfl⟩
      · rw [if_neg c] at h
        refine r_aload_n (i := 0) dX10_way_35 rfl rfl ?_
        refine r_getR f_X10_10 dX10_way_36 rfl rfl ?_
        refine r_getR f_X10_76 dX10_way_39 rfl rfl ?_
        refine r_iload dX10_way_42 rfl ?_
        obtain ⟨r4, hr, h⟩ := bind_some h
        refine r_V (d' := 0) k_X10_90 dX10_way_44 (by omega) rfl rfl rfl (Nat.le_of_ble_eq_true rfl) (Nat.le_of_ble_eq_true rfl) (ok_X3_hasParish_2 (Nat.le_refl _) hr) (fun v I' L' hq => ?_)
        obtain ⟨rfl, rfl, rfl⟩ := hq
        simp only [Option.toList_some, Option.toList_none, List.drop_succ_cons, List.drop_zero, List.drop_nil, List.cons_append, List.nil_append]
        refine r_if_eq (tgt := 61) dX10_way_47 (by decide) (fun c => ?_) (fun c => ?_)
        · rw [if_pos c] at h
          refine r_iconst (v := (-1)) dX10_way_61 (by decide) ?_
          refine r_iret (by first | rfl | decide) dX10_way_62 ?_
          obtain rfl := Option.some.inj h
          exact ⟨rfl, rfl, rfl⟩
        · rw [if_neg c] at h
          refine r_iload dX10_way_50 rfl ?_
          refine r_iconst (v := (-1)) dX10_way_52 (by decide) ?_
          refine r_bipush (v := 7) dX10_way_53 (by decide) ?_
          obtain ⟨r5, hr, h⟩ := bind_some h
          refine r_S (d' := 0) k_X10_72 dX10_way_55 (by omega) rfl (Nat.le_of_ble_eq_true rfl) (Nat.le_of_ble_eq_true rfl) (ok_X10_within (Nat.le_refl _) hr) (fun v I' L' hq => ?_)
          obtain ⟨rfl, rfl, rfl⟩ := hq
          simp only [Option.toList_some, Option.toList_none, List.drop_succ_cons, List.drop_zero, List.drop_nil, List.cons_append, List.nil_append]
          refine r_if_ne (tgt := 63) dX10_way_58 (by decide) (fun c => ?_) (fun c => ?_)
          · rw [if_neg c] at h
            refine r_aload_n (i := 0) dX10_way_63 rfl rfl ?_
            refine r_getR f_X10_38 dX10_way_64 rfl rfl ?_
            refine r_iload_n (i := 1) dX10_way_67 rfl rfl ?_
            obtain ⟨⟨Ir6, Lr6⟩, hr, h⟩ := bind_some h
            refine r_V (d' := 1) k_X10_213 dX10_way_68 (by omega) rfl rfl rfl (Nat.le_of_ble_eq_true rfl) (Nat.le_of_ble_eq_true rfl) (ok_X5_harness_48 (Nat.le_refl _) hr) (fun v I' L' hq => ?_)
            obtain ⟨rfl, rfl, rfl⟩ := hq
            simp only [Option.toList_some, Option.toList_none, List.drop_succ_cons, List.drop_zero, List.drop_nil, List.cons_append, List.nil_append]
            dsimp only at h
            refine r_aload_n (i := 0) dX10_way_71 rfl rfl ?_
            refine r_getR f_X10_38 dX10_way_72 rfl rfl ?_
            refine r_iload_n (i := 2) dX10_way_75 rfl rfl ?_
            obtain ⟨⟨Ir8, Lr8⟩, hr, h⟩ := bind_some h
            refine r_V (d' := 3) k_X10_217 dX10_way_76 (by omega) rfl rfl rfl (Nat.le_of_ble_eq_true rfl) (Nat.le_of_ble_eq_true rfl) (ok_X5_weigh_48 (Nat.le_refl _) hr) (fun v I' L' hq => ?_)
            obtain ⟨rfl, rfl, rfl⟩ := hq
            simp only [Option.toList_some, Option.toList_none, List.drop_succ_cons, List.drop_zero, List.drop_nil, List.cons_append, List.nil_append]
            dsimp only at h
            refine r_aload_n (i := 0) dX10_way_79 rfl rfl ?_
            refine r_getR f_X10_38 dX10_way_80 rfl rfl ?_
            refine r_iload_n (i := 3) dX10_way_83 rfl rfl ?_
            refine r_iload dX10_way_84 rfl ?_
            obtain ⟨⟨r10, Ir10, Lr10⟩, hr, h⟩ := bind_some h
            refine r_V (d' := 4) k_X10_220 dX10_way_86 (by omega) rfl rfl rfl (Nat.le_of_ble_eq_true rfl) (Nat.le_of_ble_eq_true rfl) (ok_X5_trace_48 (Nat.le_refl _) hr) (fun v I' L' hq => ?_)
            obtain ⟨rfl, rfl, rfl⟩ := hq
            simp only [Option.toList_some, Option.toList_none, List.drop_succ_cons, List.drop_zero, List.drop_nil, List.cons_append, List.nil_append]
            dsimp only at h
            refine r_if_ne (tgt := 95) dX10_way_89 (by decide) (fun c => ?_) (fun c => ?_)
            · rw [if_neg c] at h
              refine r_iload dX10_way_95 rfl ?_
              refine r_if_ge (tgt := 116) dX10_way_97 (by decide) (fun c => ?_) (fun c => ?_)
              · rw [if_pos c] at h
                refine r_iload dX10_way_116 rfl ?_
                refine r_aload_n (i := 0) dX10_way_118 rfl rfl ?_
                refine r_getR f_X10_38 dX10_way_119 rfl rfl ?_
                refine r_getI f_X10_226 dX10_way_122 rfl rfl ?_
                refine r_icmp_ge (tgt := 141) dX10_way_125 (by decide) (fun c => ?_) (fun c => ?_)
                · rw [if_pos c] at h
                  refine r_bipush (v := (-4)) dX10_way_141 (by decide) ?_
                  refine r_iret (by first | rfl | decide) dX10_way_143 ?_
                  obtain rfl := Option.some.inj h
                  exact ⟨rfl, rfl, rfl⟩
                · rw [if_neg c] at h
                  refine r_aload_n (i := 0) dX10_way_128 rfl rfl ?_
                  refine r_getR f_X10_38 dX10_way_129 rfl rfl ?_
                  refine r_getR f_X10_229 dX10_way_132 rfl rfl ?_
                  refine r_iload dX10_way_135 rfl ?_
                  obtain ⟨hb, h⟩ := ck_some h
                  refine r_iald rfl (inb_vp hb) dX10_way_137 ?_
                  refine r_goto (tgt := 143) dX10_way_138 (by decide) ?_
                  refine r_iret (by first | rfl | decide) dX10_way_143 ?_
                  obtain rfl := Option.some.inj h
                  exact ⟨rfl, rfl, rfl⟩
              · rw [if_neg c] at h
                refine r_aload_n (i := 0) dX10_way_100 rfl rfl ?_
                refine r_getR f_X10_38 dX10_way_101 rfl rfl ?_
                refine r_getR f_X10_223 dX10_way_104 rfl rfl ?_
                refine r_iload_n (i := 3) dX10_way_107 rfl rfl ?_
                refine r_bipush (v := 8) dX10_way_108 (by decide) ?_
                refine r_imul dX10_way_110 ?_
                refine r_iload dX10_way_111 rfl ?_
                refine r_iadd dX10_way_113 ?_
                obtain ⟨hb, h⟩ := ck_some h
                refine r_iald rfl (inb_vp hb) dX10_way_114 ?_
                refine r_iret (by first | rfl | decide) dX10_way_115 ?_
                obtain rfl := Option.some.inj h
                exact ⟨rfl, rfl, rfl⟩
            · rw [if_pos c] at h
              refine r_bipush (v := (-4)) dX10_way_92 (by decide) ?_
              refine r_iret (by first | rfl | decide) dX10_way_94 ?_
              obtain rfl := Option.some.inj h
              exact ⟨rfl, rfl, rfl⟩
          · rw [if_pos c] at h
            refine r_iconst (v := (-1)) dX10_way_61 (by decide) ?_
            refine r_iret (by first | rfl | decide) dX10_way_62 ?_
            obtain rfl := Option.some.inj h
            exact ⟨rfl, rfl, rfl⟩
def f_X10_net_0 (I : mI) (L : mL) (a1 : Int32) (a2 : Int32) (a3 : Int32) : rI := (f_X7_hasGood_1 I L a1).bind (fun r1 => if r1 = 0 then (some ((-1000001), I, L)) else ((f_X3_hasParish_2 I L a2).bind (fun r2 => if r2 = 0 then (some ((-1000001), I, L)) else ((f_X7_hasCart_1 I L a3).bind (fun r3 => if r3 = 0 then (some ((-1000001), I, L)) else (bndV (f_X5_harness_48 I L a3) (fun Ir4 Lr4 => ck (inb a1 6) (bndV (f_X5_weigh_48 Ir4 Lr4 (Ir4 10 a1.toNatClampNeg)) (fun Ir6 Lr6 => ck (inb a1 6) (bndV (f_X5_spread_48 Ir6 Lr6 (Ir6 12 a1.toNatClampNeg)) (fun Ir8 Lr8 => ck (inb a2 8) (if (Ir8 52 a2.toNatClampNeg) < 536870912 then (ck (inb a1 6) (ck (inb a2 8) (ck (inb a2 8) (some (((Ir8 11 a1.toNatClampNeg) * (Ir8 51 a2.toNatClampNeg)) - (Ir8 52 a2.toNatClampNeg), Ir8, Lr8))))) else (some ((-1000004), Ir8, Lr8))))))))))))))
theorem ok_X10_net_0 {d : Nat} (hd : 4 ≤ d) {I : mI} {L : mL} {a1 : Int32} {a2 : Int32} {a3 : Int32} {o : Int32 × mI × mL} (h : f_X10_net_0 I L a1 a2 a3 = some o) : RR mX10_net d 0 [some (.ref 0), some (.int a1), some (.int a2), some (.int a3)] [] I L (retQ (some (.int o.1)) o.2.1 o.2.2) := by
  unfold f_X10_net_0 at h
  refine r_aload_n (i := 0) dX10_net_0 rfl rfl ?_
  refine r_getR f_X10_10 dX10_net_1 rfl rfl ?_
  refine r_iload_n (i := 1) dX10_net_4 rfl rfl ?_
  obtain ⟨r1, hr, h⟩ := bind_some h
  refine r_V (d' := 0) k_X10_128 dX10_net_5 (by omega) rfl rfl rfl (Nat.le_of_ble_eq_true rfl) (Nat.le_of_ble_eq_true rfl) (ok_X7_hasGood_1 (Nat.le_refl _) hr) (fun v I' L' hq => ?_)
  obtain ⟨rfl, rfl, rfl⟩ := hq
  simp only [Option.toList_some, Option.toList_none, List.drop_succ_cons, List.drop_zero, List.drop_nil, List.cons_append, List.nil_append]
  refine r_if_eq (tgt := 36) dX10_net_8 (by decide) (fun c => ?_) (fun c => ?_)
  · rw [if_pos c] at h
    refine r_ldc n_X10_232 dX10_net_36 ?_
    refine r_iret (by first | rfl | decide) dX10_net_38 ?_
    obtain rfl := Option.some.inj h
    exact ⟨rfl, rfl, rfl⟩
  · rw [if_neg c] at h
    refine r_aload_n (i := 0) dX10_net_11 rfl rfl ?_
    refine r_getR f_X10_10 dX10_net_12 rfl rfl ?_
    refine r_getR f_X10_76 dX10_net_15 rfl rfl ?_
    refine r_iload_n (i := 2) dX10_net_18 rfl rfl ?_
    obtain ⟨r2, hr, h⟩ := bind_some h
    refine r_V (d' := 0) k_X10_90 dX10_net_19 (by omega) rfl rfl rfl (Nat.le_of_ble_eq_true rfl) (Nat.le_of_ble_eq_true rfl) (ok_X3_hasParish_2 (Nat.le_refl _) hr) (fun v I' L' hq => ?_)
    obtain ⟨rfl, rfl, rfl⟩ := hq
    simp only [Option.toList_some, Option.toList_none, List.drop_succ_cons, List.drop_zero, List.drop_nil, List.cons_append, List.nil_append]
    refine r_if_eq (tgt := 36) dX10_net_22 (by decide) (fun c => ?_) (fun c => ?_)
    · rw [if_pos c] at h
      refine r_ldc n_X10_232 dX10_net_36 ?_
      refine r_iret (by first | rfl | decide) dX10_net_38 ?_
      obtain rfl := Option.some.inj h
      exact ⟨rfl, rfl, rfl⟩
    · rw [if_neg c] at h
      refine r_aload_n (i := 0) dX10_net_25 rfl rfl ?_
      refine r_getR f_X10_10 dX10_net_26 rfl rfl ?_
      refine r_iload_n (i := 3) dX10_net_29 rfl rfl ?_
      obtain ⟨r3, hr, h⟩ := bind_some h
      refine r_V (d' := 0) k_X10_210 dX10_net_30 (by omega) rfl rfl rfl (Nat.le_of_ble_eq_true rfl) (Nat.le_of_ble_eq_true rfl) (ok_X7_hasCart_1 (Nat.le_refl _) hr) (fun v I' L' hq => ?_)
      obtain ⟨rfl, rfl, rfl⟩ := hq
      simp only [Option.toList_some, Option.toList_none, List.drop_succ_cons, List.drop_zero, List.drop_nil, List.cons_append, List.nil_append]
      refine r_if_ne (tgt := 39) dX10_net_33 (by decide) (fun c => ?_) (fun c => ?_)
      · rw [if_neg c] at h
        refine r_aload_n (i := 0) dX10_net_39 rfl rfl ?_
        refine r_getR f_X10_38 dX10_net_40 rfl rfl ?_
        refine r_iload_n (i := 3) dX10_net_43 rfl rfl ?_
        obtain ⟨⟨Ir4, Lr4⟩, hr, h⟩ := bind_some h
        refine r_V (d' := 1) k_X10_213 dX10_net_44 (by omega) rfl rfl rfl (Nat.le_of_ble_eq_true rfl) (Nat.le_of_ble_eq_true rfl) (ok_X5_harness_48 (Nat.le_refl _) hr) (fun v I' L' hq => ?_)
        obtain ⟨rfl, rfl, rfl⟩ := hq
        simp only [Option.toList_some, Option.toList_none, List.drop_succ_cons, List.drop_zero, List.drop_nil, List.cons_append, List.nil_append]
        dsimp only at h
        refine r_aload_n (i := 0) dX10_net_47 rfl rfl ?_
        refine r_getR f_X10_38 dX10_net_48 rfl rfl ?_
        refine r_aload_n (i := 0) dX10_net_51 rfl rfl ?_
        refine r_getR f_X10_10 dX10_net_52 rfl rfl ?_
        refine r_getR f_X10_233 dX10_net_55 rfl rfl ?_
        refine r_iload_n (i := 1) dX10_net_58 rfl rfl ?_
        obtain ⟨hb, h⟩ := ck_some h
        refine r_iald rfl (inb_vp hb) dX10_net_59 ?_
        obtain ⟨⟨Ir6, Lr6⟩, hr, h⟩ := bind_some h
        refine r_V (d' := 3) k_X10_217 dX10_net_60 (by omega) rfl rfl rfl (Nat.le_of_ble_eq_true rfl) (Nat.le_of_ble_eq_true rfl) (ok_X5_weigh_48 (Nat.le_refl _) hr) (fun v I' L' hq => ?_)
        obtain ⟨rfl, rfl, rfl⟩ := hq
        simp only [Option.toList_some, Option.toList_none, List.drop_succ_cons, List.drop_zero, List.drop_nil, List.cons_append, List.nil_append]
        dsimp only at h
        refine r_aload_n (i := 0) dX10_net_63 rfl rfl ?_
        refine r_getR f_X10_38 dX10_net_64 rfl rfl ?_
        refine r_aload_n (i := 0) dX10_net_67 rfl rfl ?_
        refine r_getR f_X10_10 dX10_net_68 rfl rfl ?_
        refine r_getR f_X10_149 dX10_net_71 rfl rfl ?_
        refine r_iload_n (i := 1) dX10_net_74 rfl rfl ?_
        obtain ⟨hb, h⟩ := ck_some h
        refine r_iald rfl (inb_vp hb) dX10_net_75 ?_
        obtain ⟨⟨Ir8, Lr8⟩, hr, h⟩ := bind_some h
        refine r_V (d' := 2) k_X10_236 dX10_net_76 (by omega) rfl rfl rfl (Nat.le_of_ble_eq_true rfl) (Nat.le_of_ble_eq_true rfl) (ok_X5_spread_48 (Nat.le_refl _) hr) (fun v I' L' hq => ?_)
        obtain ⟨rfl, rfl, rfl⟩ := hq
        simp only [Option.toList_some, Option.toList_none, List.drop_succ_cons, List.drop_zero, List.drop_nil, List.cons_append, List.nil_append]
        dsimp only at h
        refine r_aload_n (i := 0) dX10_net_79 rfl rfl ?_
        refine r_getR f_X10_38 dX10_net_80 rfl rfl ?_
        refine r_getR f_X10_239 dX10_net_83 rfl rfl ?_
        refine r_iload_n (i := 2) dX10_net_86 rfl rfl ?_
        obtain ⟨hb, h⟩ := ck_some h
        refine r_iald rfl (inb_vp hb) dX10_net_87 ?_
        refine r_ldc n_X10_242 dX10_net_88 ?_
        refine r_icmp_lt (tgt := 96) dX10_net_90 (by decide) (fun c => ?_) (fun c => ?_)
        · rw [if_pos c] at h
          refine r_aload_n (i := 0) dX10_net_96 rfl rfl ?_
          refine r_getR f_X10_10 dX10_net_97 rfl rfl ?_
          refine r_getR f_X10_244 dX10_net_100 rfl rfl ?_
          refine r_iload_n (i := 1) dX10_net_103 rfl rfl ?_
          obtain ⟨hb, h⟩ := ck_some h
          refine r_iald rfl (inb_vp hb) dX10_net_104 ?_
          refine r_aload_n (i := 0) dX10_net_105 rfl rfl ?_
          refine r_getR f_X10_38 dX10_net_106 rfl rfl ?_
          refine r_getR f_X10_247 dX10_net_109 rfl rfl ?_
          refine r_iload_n (i := 2) dX10_net_112 rfl rfl ?_
          obtain ⟨hb, h⟩ := ck_some h
          refine r_iald rfl (inb_vp hb) dX10_net_113 ?_
          refine r_imul dX10_net_114 ?_
          refine r_aload_n (i := 0) dX10_net_115 rfl rfl ?_
          refine r_getR f_X10_38 dX10_net_116 rfl rfl ?_
          refine r_getR f_X10_239 dX10_net_119 rfl rfl ?_
          refine r_iload_n (i := 2) dX10_net_122 rfl rfl ?_
          obtain ⟨hb, h⟩ := ck_some h
          refine r_iald rfl (inb_vp hb) dX10_net_123 ?_
          refine r_isub dX10_net_124 ?_
          refine r_iret (by first | rfl | decide) dX10_net_125 ?_
          obtain rfl := Option.some.inj h
          exact ⟨rfl, rfl, rfl⟩
        · rw [if_neg c] at h
          refine r_ldc n_X10_243 dX10_net_93 ?_
          refine r_iret (by first | rfl | decide) dX10_net_95 ?_
          obtain rfl := Option.some.inj h
          exact ⟨rfl, rfl, rfl⟩
      · rw [if_pos c] at h
        refine r_ldc n_X10_232 dX10_net_36 ?_
        refine r_iret (by first | rfl | decide) dX10_net_38 ?_
        obtain rfl := Option.some.inj h
        exact ⟨rfl, rfl, rfl⟩
def f_X5_heaviestOpen_48_l4 (I : mI) (L : mL) : Nat → Int32 → Int32 → Option Int32
  | 0, _, _ => none
  | n + 1, x1, x2 => if (I 48 8) ≤ x2 then (some x1) else (ck (inb x2 8) (if (I 48 9) < (I 51 x2.toNatClampNeg) then (lt (x2 + Int32.ofInt 1) (fun v1 => f_X5_heaviestOpen_48_l4 I L n x1 v1)) else (ck (inb x2 8) (if (I 51 x2.toNatClampNeg) ≤ x1 then (lt (x2 + Int32.ofInt 1) (fun v2 => f_X5_heaviestOpen_48_l4 I L n x1 v2)) else (ck (inb x2 8) (lt (I 51 x2.toNatClampNeg) (fun v3 => lt (x2 + Int32.ofInt 1) (fun v4 => f_X5_heaviestOpen_48_l4 I L n v3 v4))))))))
theorem ok_X5_heaviestOpen_48_l4 {d : Nat} (hd : 0 ≤ d){I : mI} {L : mL} : ∀ (n : Nat) (x1 : Int32) (x2 : Int32) (o : Int32), f_X5_heaviestOpen_48_l4 I L n x1 x2 = some o → RR mX5_heaviestOpen d 4 [some (.ref 48), some (.int x1), some (.int x2)] [] I L (retQ (some (.int o)) I L) := by
  intro n
  induction n with
  | zero => intro x1 x2 o h; rw [f_X5_heaviestOpen_48_l4] at h; cases h
  | succ n ih =>
    intro x1 x2 o h
    rw [f_X5_heaviestOpen_48_l4] at h
    refine r_iload_n (i := 2) dX5_heaviestOpen_4 rfl rfl ?_
    refine r_aload_n (i := 0) dX5_heaviestOpen_5 rfl rfl ?_
    refine r_getI f_X5_46 dX5_heaviestOpen_6 rfl rfl ?_
    refine r_icmp_ge (tgt := 48) dX5_heaviestOpen_9 (by decide) (fun c => ?_) (fun c => ?_)
    · rw [if_pos c] at h
      refine r_iload_n (i := 1) dX5_heaviestOpen_48 rfl rfl ?_
      refine r_iret (by first | rfl | decide) dX5_heaviestOpen_49 ?_
      obtain rfl := Option.some.inj h
      exact ⟨rfl, rfl, rfl⟩
    · rw [if_neg c] at h
      refine r_aload_n (i := 0) dX5_heaviestOpen_12 rfl rfl ?_
      refine r_getR f_X5_18 dX5_heaviestOpen_13 rfl rfl ?_
      refine r_iload_n (i := 2) dX5_heaviestOpen_16 rfl rfl ?_
      obtain ⟨hb, h⟩ := ck_some h
      refine r_iald rfl (inb_vp hb) dX5_heaviestOpen_17 ?_
      refine r_aload_n (i := 0) dX5_heaviestOpen_18 rfl rfl ?_
      refine r_getI f_X5_50 dX5_heaviestOpen_19 rfl rfl ?_
      refine r_icmp_gt (tgt := 42) dX5_heaviestOpen_22 (by decide) (fun c => ?_) (fun c => ?_)
      · rw [if_pos c] at h
        refine r_iinc (v := _) dX5_heaviestOpen_42 rfl rfl (by decide) rfl ?_
        simp only [List.set_cons_zero, List.set_cons_succ]
        replace h := lt_some h
        refine r_goto (tgt := 4) dX5_heaviestOpen_45 (by decide) ?_
        exact RR.wk (ih _ _ _ h) (And.intro rfl (And.intro rfl (And.intro rfl (trivial))))
      · rw [if_neg c] at h
        refine r_aload_n (i := 0) dX5_heaviestOpen_25 rfl rfl ?_
        refine r_getR f_X5_18 dX5_heaviestOpen_26 rfl rfl ?_
        refine r_iload_n (i := 2) dX5_heaviestOpen_29 rfl rfl ?_
        obtain ⟨hb, h⟩ := ck_some h
        refine r_iald rfl (inb_vp hb) dX5_heaviestOpen_30 ?_
        refine r_iload_n (i := 1) dX5_heaviestOpen_31 rfl rfl ?_
        refine r_icmp_le (tgt := 42) dX5_heaviestOpen_32 (by decide) (fun c => ?_) (fun c => ?_)
        · rw [if_pos c] at h
          refine r_iinc (v := _) dX5_heaviestOpen_42 rfl rfl (by decide) rfl ?_
          simp only [List.set_cons_zero, List.set_cons_succ]
          replace h := lt_some h
          refine r_goto (tgt := 4) dX5_heaviestOpen_45 (by decide) ?_
          exact RR.wk (ih _ _ _ h) (And.intro rfl (And.intro rfl (And.intro rfl (trivial))))
        · rw [if_neg c] at h
          refine r_aload_n (i := 0) dX5_heaviestOpen_35 rfl rfl ?_
          refine r_getR f_X5_18 dX5_heaviestOpen_36 rfl rfl ?_
          refine r_iload_n (i := 2) dX5_heaviestOpen_39 rfl rfl ?_
          obtain ⟨hb, h⟩ := ck_some h
          refine r_iald rfl (inb_vp hb) dX5_heaviestOpen_40 ?_
          refine r_istore_n (i := 1) dX5_heaviestOpen_41 rfl (by decide) rfl ?_
          simp only [List.set_cons_zero, List.set_cons_succ]
          replace h := lt_some h
          refine r_iinc (v := _) dX5_heaviestOpen_42 rfl rfl (by decide) rfl ?_
          simp only [List.set_cons_zero, List.set_cons_succ]
          replace h := lt_some h
          refine r_goto (tgt := 4) dX5_heaviestOpen_45 (by decide) ?_
          exact RR.wk (ih _ _ _ h) (And.intro rfl (And.intro rfl (And.intro rfl (trivial))))
def f_X5_heaviestOpen_48 (I : mI) (L : mL) : Option Int32 := f_X5_heaviestOpen_48_l4 I L fuel 0 0
theorem ok_X5_heaviestOpen_48 {d : Nat} (hd : 0 ≤ d) {I : mI} {L : mL} {o : Int32} (h : f_X5_heaviestOpen_48 I L = some o) : RR mX5_heaviestOpen d 0 [some (.ref 48), none, none] [] I L (retQ (some (.int o)) I L) := by
  unfold f_X5_heaviestOpen_48 at h
  refine r_iconst (v := 0) dX5_heaviestOpen_0 (by decide) ?_
  refine r_istore_n (i := 1) dX5_heaviestOpen_1 rfl (by decide) rfl ?_
  simp only [List.set_cons_zero, List.set_cons_succ]
  refine r_iconst (v := 0) dX5_heaviestOpen_2 (by decide) ?_
  refine r_istore_n (i := 2) dX5_heaviestOpen_3 rfl (by decide) rfl ?_
  simp only [List.set_cons_zero, List.set_cons_succ]
  exact RR.wk (ok_X5_heaviestOpen_48_l4 hd _ _ _ _ h) (And.intro rfl (And.intro rfl (And.intro rfl (trivial))))
def f_X5_bestPlace_48_b117 (I : mI) (L : mL) (k18 : Int32 → Int32 → Int32 → Int32 → mI → mL → rI) (x2 : Int32) (x3 : Int32) (x4 : Int32) (x5 : Int32) (x6 : Int32) : rI := bndV (f_X5_leave_48 I L x6) (fun Ir8 Lr8 => lt (x5 + Int32.ofInt 1) (fun v10 => k18 x2 x3 x4 v10 Ir8 Lr8))
theorem ok_X5_bestPlace_48_b117 {d : Nat} (hd : 2 ≤ d){I : mI} {L : mL} {k18 : Int32 → Int32 → Int32 → Int32 → mI → mL → rI} (hk18 : ∀ (x2 : Int32) (x3 : Int32) (x4 : Int32) (x5 : Int32) (I : mI) (L : mL) (o : Int32 × mI × mL), k18 x2 x3 x4 x5 I L = some o → RR mX5_bestPlace d 18 [some (.ref 48), none, some (.int x2), some (.int x3), some (.int x4), some (.int x5), none, none] [] I L (retQ (some (.int o.1)) o.2.1 o.2.2)) (x2 : Int32) (x3 : Int32) (x4 : Int32) (x5 : Int32) (x6 : Int32) {o : Int32 × mI × mL} (h : f_X5_bestPlace_48_b117 I L k18 x2 x3 x4 x5 x6 = some o) : RR mX5_bestPlace d 117 [some (.ref 48), none, some (.int x2), some (.int x3), some (.int x4), some (.int x5), some (.int x6), none] [] I L (retQ (some (.int o.1)) o.2.1 o.2.2) := by
  unfold f_X5_bestPlace_48_b117 at h
  refine r_aload_n (i := 0) dX5_bestPlace_117 rfl rfl ?_
  refine r_iload dX5_bestPlace_118 rfl ?_
  obtain ⟨⟨Ir8, Lr8⟩, hr, h⟩ := bind_some h
  refine r_V (d' := 1) k_X5_88 dX5_bestPlace_120 (by omega) rfl rfl rfl (Nat.le_of_ble_eq_true rfl) (Nat.le_of_ble_eq_true rfl) (ok_X5_leave_48 (Nat.le_refl _) hr) (fun v I' L' hq => ?_)
  obtain ⟨rfl, rfl, rfl⟩ := hq
  simp only [Option.toList_some, Option.toList_none, List.drop_succ_cons, List.drop_zero, List.drop_nil, List.cons_append, List.nil_append]
  dsimp only at h
  refine r_iinc (v := _) dX5_bestPlace_123 rfl rfl (by decide) rfl ?_
  simp only [List.set_cons_zero, List.set_cons_succ]
  replace h := lt_some h
  refine r_goto (tgt := 18) dX5_bestPlace_126 (by decide) ?_
  exact RR.wk (hk18 _ _ _ _ _ _ _ h) (And.intro rfl (And.intro rfl (And.intro rfl (And.intro rfl (And.intro rfl (trivial))))))
def f_X5_bestPlace_48_b108 (I : mI) (L : mL) (k18 : Int32 → Int32 → Int32 → Int32 → mI → mL → rI) (x2 : Int32) (x4 : Int32) (x5 : Int32) (x6 : Int32) (x7 : Int32) : rI := lt (uI I 48 13 x7) (fun M7 => f_X5_bestPlace_48_b117 M7 L k18 x2 x6 x4 x5 x6)
theorem ok_X5_bestPlace_48_b108 {d : Nat} (hd : 2 ≤ d){I : mI} {L : mL} {k18 : Int32 → Int32 → Int32 → Int32 → mI → mL → rI} (hk18 : ∀ (x2 : Int32) (x3 : Int32) (x4 : Int32) (x5 : Int32) (I : mI) (L : mL) (o : Int32 × mI × mL), k18 x2 x3 x4 x5 I L = some o → RR mX5_bestPlace d 18 [some (.ref 48), none, some (.int x2), some (.int x3), some (.int x4), some (.int x5), none, none] [] I L (retQ (some (.int o.1)) o.2.1 o.2.2)) (x2 : Int32) (x4 : Int32) (x5 : Int32) (x6 : Int32) (x7 : Int32) {o : Int32 × mI × mL} (h : f_X5_bestPlace_48_b108 I L k18 x2 x4 x5 x6 x7 = some o) : RR mX5_bestPlace d 108 [some (.ref 48), none, some (.int x2), none, some (.int x4), some (.int x5), some (.int x6), some (.int x7)] [] I L (retQ (some (.int o.1)) o.2.1 o.2.2) := by
  unfold f_X5_bestPlace_48_b108 at h
  refine r_iload dX5_bestPlace_108 rfl ?_
  refine r_istore_n (i := 3) dX5_bestPlace_110 rfl (by decide) rfl ?_
  simp only [List.set_cons_zero, List.set_cons_succ]
  refine r_aload_n (i := 0) dX5_bestPlace_111 rfl rfl ?_
  refine r_iload dX5_bestPlace_112 rfl ?_
  refine r_putI f_X5_94 rfl rfl dX5_bestPlace_114 rfl rfl ?_
  replace h := lt_some h
  exact RR.wk (ok_X5_bestPlace_48_b117 hd hk18 _ _ _ _ _ h) (And.intro rfl (And.intro rfl (And.intro rfl (And.intro rfl (And.intro rfl (And.intro rfl (trivial)))))))
def f_X5_bestPlace_48_b61 (I : mI) (L : mL) (k18 : Int32 → Int32 → Int32 → Int32 → mI → mL → rI) (x2 : Int32) (x3 : Int32) (x4 : Int32) (x5 : Int32) (x6 : Int32) : rI := ck (inb x6 8) (ck (inb x6 8) (lt ((x2 * (I 51 x6.toNatClampNeg)) - (I 52 x6.toNatClampNeg)) (fun v6 => if x3 < 0 then (f_X5_bestPlace_48_b108 I L k18 x2 x4 x5 x6 v6) else (if (I 48 13) < v6 then (f_X5_bestPlace_48_b108 I L k18 x2 x4 x5 x6 v6) else (if v6 = (I 48 13) then (if x3 ≤ x6 then (f_X5_bestPlace_48_b117 I L k18 x2 x3 x4 x5 x6) else (f_X5_bestPlace_48_b108 I L k18 x2 x4 x5 x6 v6)) else (f_X5_bestPlace_48_b117 I L k18 x2 x3 x4 x5 x6))))))
theorem ok_X5_bestPlace_48_b61 {d : Nat} (hd : 2 ≤ d){I : mI} {L : mL} {k18 : Int32 → Int32 → Int32 → Int32 → mI → mL → rI} (hk18 : ∀ (x2 : Int32) (x3 : Int32) (x4 : Int32) (x5 : Int32) (I : mI) (L : mL) (o : Int32 × mI × mL), k18 x2 x3 x4 x5 I L = some o → RR mX5_bestPlace d 18 [some (.ref 48), none, some (.int x2), some (.int x3), some (.int x4), some (.int x5), none, none] [] I L (retQ (some (.int o.1)) o.2.1 o.2.2)) (x2 : Int32) (x3 : Int32) (x4 : Int32) (x5 : Int32) (x6 : Int32) {o : Int32 × mI × mL} (h : f_X5_bestPlace_48_b61 I L k18 x2 x3 x4 x5 x6 = some o) : RR mX5_bestPlace d 61 [some (.ref 48), none, some (.int x2), some (.int x3), some (.int x4), some (.int x5), some (.int x6), none] [] I L (retQ (some (.int o.1)) o.2.1 o.2.2) := by
  unfold f_X5_bestPlace_48_b61 at h
  refine r_iload_n (i := 2) dX5_bestPlace_61 rfl rfl ?_
  refine r_aload_n (i := 0) dX5_bestPlace_62 rfl rfl ?_
  refine r_getR f_X5_18 dX5_bestPlace_63 rfl rfl ?_
  refine r_iload dX5_bestPlace_66 rfl ?_
  obtain ⟨hb, h⟩ := ck_some h
  refine r_iald rfl (inb_vp hb) dX5_bestPlace_68 ?_
  refine r_imul dX5_bestPlace_69 ?_
  refine r_aload_n (i := 0) dX5_bestPlace_70 rfl rfl ?_
  refine r_getR f_X5_21 dX5_bestPlace_71 rfl rfl ?_
  refine r_iload dX5_bestPlace_74 rfl ?_
  obtain ⟨hb, h⟩ := ck_some h
  refine r_iald rfl (inb_vp hb) dX5_bestPlace_76 ?_
  refine r_isub dX5_bestPlace_77 ?_
  refine r_istore dX5_bestPlace_78 (by decide) rfl ?_
  simp only [List.set_cons_zero, List.set_cons_succ]
  replace h := lt_some h
  refine r_iload_n (i := 3) dX5_bestPlace_80 rfl rfl ?_
  refine r_if_lt (tgt := 108) dX5_bestPlace_81 (by decide) (fun c => ?_) (fun c => ?_)
  · rw [if_pos c] at h
    exact RR.wk (ok_X5_bestPlace_48_b108 hd hk18 _ _ _ _ _ h) (And.intro rfl (And.intro rfl (And.intro rfl (And.intro rfl (And.intro rfl (And.intro rfl (trivial)))))))
  · rw [if_neg c] at h
    refine r_iload dX5_bestPlace_84 rfl ?_
    refine r_aload_n (i := 0) dX5_bestPlace_86 rfl rfl ?_
    refine r_getI f_X5_94 dX5_bestPlace_87 rfl rfl ?_
    refine r_icmp_gt (tgt := 108) dX5_bestPlace_90 (by decide) (fun c => ?_) (fun c => ?_)
    · rw [if_pos c] at h
      exact RR.wk (ok_X5_bestPlace_48_b108 hd hk18 _ _ _ _ _ h) (And.intro rfl (And.intro rfl (And.intro rfl (And.intro rfl (And.intro rfl (And.intro rfl (trivial)))))))
    · rw [if_neg c] at h
      refine r_iload dX5_bestPlace_93 rfl ?_
      refine r_aload_n (i := 0) dX5_bestPlace_95 rfl rfl ?_
      refine r_getI f_X5_94 dX5_bestPlace_96 rfl rfl ?_
      refine r_icmp_ne (tgt := 117) dX5_bestPlace_99 (by decide) (fun c => ?_) (fun c => ?_)
      · rw [if_neg c] at h
        exact RR.wk (ok_X5_bestPlace_48_b117 hd hk18 _ _ _ _ _ h) (And.intro rfl (And.intro rfl (And.intro rfl (And.intro rfl (And.intro rfl (And.intro rfl (trivial)))))))
      · rw [if_pos c] at h
        refine r_iload dX5_bestPlace_102 rfl ?_
        refine r_iload_n (i := 3) dX5_bestPlace_104 rfl rfl ?_
        refine r_icmp_ge (tgt := 117) dX5_bestPlace_105 (by decide) (fun c => ?_) (fun c => ?_)
        · rw [if_pos c] at h
          exact RR.wk (ok_X5_bestPlace_48_b117 hd hk18 _ _ _ _ _ h) (And.intro rfl (And.intro rfl (And.intro rfl (And.intro rfl (And.intro rfl (And.intro rfl (trivial)))))))
        · rw [if_neg c] at h
          exact RR.wk (ok_X5_bestPlace_48_b108 hd hk18 _ _ _ _ _ h) (And.intro rfl (And.intro rfl (And.intro rfl (And.intro rfl (And.intro rfl (And.intro rfl (trivial)))))))
def f_X5_bestPlace_48_l18 : Nat → Int32 → Int32 → Int32 → Int32 → mI → mL → rI
  | 0, _, _, _, _, _, _ => none
  | n + 1, x2, x3, x4, x5, I, L => if (I 48 8) ≤ x5 then (some (x3, I, L)) else ((f_X5_nearest_48 I L).bind (fun r5 => if r5 < 0 then (some (x3, I, L)) else (if x3 < 0 then (f_X5_bestPlace_48_b61 I L (f_X5_bestPlace_48_l18 n) x2 x3 x4 x5 r5) else (ck (inb r5 8) (if (I 48 13) ≤ (x4 - (I 52 r5.toNatClampNeg)) then (f_X5_bestPlace_48_b61 I L (f_X5_bestPlace_48_l18 n) x2 x3 x4 x5 r5) else (some (x3, I, L)))))))
theorem ok_X5_bestPlace_48_l18 {d : Nat} (hd : 2 ≤ d) : ∀ (n : Nat) (x2 : Int32) (x3 : Int32) (x4 : Int32) (x5 : Int32) (I : mI) (L : mL) (o : Int32 × mI × mL), f_X5_bestPlace_48_l18 n x2 x3 x4 x5 I L = some o → RR mX5_bestPlace d 18 [some (.ref 48), none, some (.int x2), some (.int x3), some (.int x4), some (.int x5), none, none] [] I L (retQ (some (.int o.1)) o.2.1 o.2.2) := by
  intro n
  induction n with
  | zero => intro x2 x3 x4 x5 I L o h; rw [f_X5_bestPlace_48_l18] at h; cases h
  | succ n ih =>
    intro x2 x3 x4 x5 I L o h
    rw [f_X5_bestPlace_48_l18] at h
    refine r_iload dX5_bestPlace_18 rfl ?_
    refine r_aload_n (i := 0) dX5_bestPlace_20 rfl rfl ?_
    refine r_getI f_X5_46 dX5_bestPlace_21 rfl rfl ?_
    refine r_icmp_ge (tgt := 129) dX5_bestPlace_24 (by decide) (fun c => ?_) (fun c => ?_)
    · rw [if_pos c] at h
      refine r_iload_n (i := 3) dX5_bestPlace_129 rfl rfl ?_
      refine r_iret (by first | rfl | decide) dX5_bestPlace_130 ?_
      obtain rfl := Option.some.inj h
      exact ⟨rfl, rfl, rfl⟩
    · rw [if_neg c] at h
      refine r_aload_n (i := 0) dX5_bestPlace_27 rfl rfl ?_
      obtain ⟨r5, hr, h⟩ := bind_some h
      refine r_V (d' := 0) k_X5_84 dX5_bestPlace_28 (by omega) rfl rfl rfl (Nat.le_of_ble_eq_true rfl) (Nat.le_of_ble_eq_true rfl) (ok_X5_nearest_48 (Nat.le_refl _) hr) (fun v I' L' hq => ?_)
      obtain ⟨rfl, rfl, rfl⟩ := hq
      simp only [Option.toList_some, Option.toList_none, List.drop_succ_cons, List.drop_zero, List.drop_nil, List.cons_append, List.nil_append]
      refine r_istore dX5_bestPlace_31 (by decide) rfl ?_
      simp only [List.set_cons_zero, List.set_cons_succ]
      refine r_iload dX5_bestPlace_33 rfl ?_
      refine r_if_lt (tgt := 59) dX5_bestPlace_35 (by decide) (fun c => ?_) (fun c => ?_)
      · rw [if_pos c] at h
        refine r_iload_n (i := 3) dX5_bestPlace_59 rfl rfl ?_
        refine r_iret (by first | rfl | decide) dX5_bestPlace_60 ?_
        obtain rfl := Option.some.inj h
        exact ⟨rfl, rfl, rfl⟩
      · rw [if_neg c] at h
        refine r_iload_n (i := 3) dX5_bestPlace_38 rfl rfl ?_
        refine r_if_lt (tgt := 61) dX5_bestPlace_39 (by decide) (fun c => ?_) (fun c => ?_)
        · rw [if_pos c] at h
          exact RR.wk (ok_X5_bestPlace_48_b61 hd ih _ _ _ _ _ h) (And.intro rfl (And.intro rfl (And.intro rfl (And.intro rfl (And.intro rfl (And.intro rfl (trivial)))))))
        · rw [if_neg c] at h
          refine r_iload dX5_bestPlace_42 rfl ?_
          refine r_aload_n (i := 0) dX5_bestPlace_44 rfl rfl ?_
          refine r_getR f_X5_21 dX5_bestPlace_45 rfl rfl ?_
          refine r_iload dX5_bestPlace_48 rfl ?_
          obtain ⟨hb, h⟩ := ck_some h
          refine r_iald rfl (inb_vp hb) dX5_bestPlace_50 ?_
          refine r_isub dX5_bestPlace_51 ?_
          refine r_aload_n (i := 0) dX5_bestPlace_52 rfl rfl ?_
          refine r_getI f_X5_94 dX5_bestPlace_53 rfl rfl ?_
          refine r_icmp_ge (tgt := 61) dX5_bestPlace_56 (by decide) (fun c => ?_) (fun c => ?_)
          · rw [if_pos c] at h
            exact RR.wk (ok_X5_bestPlace_48_b61 hd ih _ _ _ _ _ h) (And.intro rfl (And.intro rfl (And.intro rfl (And.intro rfl (And.intro rfl (And.intro rfl (trivial)))))))
          · rw [if_neg c] at h
            refine r_iload_n (i := 3) dX5_bestPlace_59 rfl rfl ?_
            refine r_iret (by first | rfl | decide) dX5_bestPlace_60 ?_
            obtain rfl := Option.some.inj h
            exact ⟨rfl, rfl, rfl⟩
def f_X5_bestPlace_48 (I : mI) (L : mL) (a1 : Int32) (a2 : Int32) : rI := bndV (f_X5_start_48 I L a1) (fun Ir1 Lr1 => (f_X5_heaviestOpen_48 Ir1 Lr1).bind (fun r3 => lt (a2 * r3) (fun v4 => f_X5_bestPlace_48_l18 fuel a2 (-1) v4 0 Ir1 Lr1)))
theorem ok_X5_bestPlace_48 {d : Nat} (hd : 2 ≤ d) {I : mI} {L : mL} {a1 : Int32} {a2 : Int32} {o : Int32 × mI × mL} (h : f_X5_bestPlace_48 I L a1 a2 = some o) : RR mX5_bestPlace d 0 [some (.ref 48), some (.int a1), some (.int a2), none, none, none, none, none] [] I L (retQ (some (.int o.1)) o.2.1 o.2.2) := by
  unfold f_X5_bestPlace_48 at h
  refine r_aload_n (i := 0) dX5_bestPlace_0 rfl rfl ?_
  refine r_iload_n (i := 1) dX5_bestPlace_1 rfl rfl ?_
  obtain ⟨⟨Ir1, Lr1⟩, hr, h⟩ := bind_some h
  refine r_V (d' := 1) k_X5_80 dX5_bestPlace_2 (by omega) rfl rfl rfl (Nat.le_of_ble_eq_true rfl) (Nat.le_of_ble_eq_true rfl) (ok_X5_start_48 (Nat.le_refl _) hr) (fun v I' L' hq => ?_)
  obtain ⟨rfl, rfl, rfl⟩ := hq
  simp only [Option.toList_some, Option.toList_none, List.drop_succ_cons, List.drop_zero, List.drop_nil, List.cons_append, List.nil_append]
  dsimp only at h
  refine r_iconst (v := (-1)) dX5_bestPlace_5 (by decide) ?_
  refine r_istore_n (i := 3) dX5_bestPlace_6 rfl (by decide) rfl ?_
  simp only [List.set_cons_zero, List.set_cons_succ]
  refine r_iload_n (i := 2) dX5_bestPlace_7 rfl rfl ?_
  refine r_aload_n (i := 0) dX5_bestPlace_8 rfl rfl ?_
  obtain ⟨r3, hr, h⟩ := bind_some h
  refine r_V (d' := 0) k_X5_91 dX5_bestPlace_9 (by omega) rfl rfl rfl (Nat.le_of_ble_eq_true rfl) (Nat.le_of_ble_eq_true rfl) (ok_X5_heaviestOpen_48 (Nat.le_refl _) hr) (fun v I' L' hq => ?_)
  obtain ⟨rfl, rfl, rfl⟩ := hq
  simp only [Option.toList_some, Option.toList_none, List.drop_succ_cons, List.drop_zero, List.drop_nil, List.cons_append, List.nil_append]
  refine r_imul dX5_bestPlace_12 ?_
  refine r_istore dX5_bestPlace_13 (by decide) rfl ?_
  simp only [List.set_cons_zero, List.set_cons_succ]
  replace h := lt_some h
  refine r_iconst (v := 0) dX5_bestPlace_15 (by decide) ?_
  refine r_istore dX5_bestPlace_16 (by decide) rfl ?_
  simp only [List.set_cons_zero, List.set_cons_succ]
  exact RR.wk (ok_X5_bestPlace_48_l18 hd _ _ _ _ _ _ _ _ h) (And.intro rfl (And.intro rfl (And.intro rfl (And.intro rfl (And.intro rfl (trivial))))))
def f_X5_marketOf_48 (I : mI) (L : mL) (a1 : Int32) : rI := ck (inb a1 6) (bndV (f_X5_weigh_48 I L (I 10 a1.toNatClampNeg)) (fun Ir1 Lr1 => ck (inb a1 6) (ck (inb a1 6) (bndI (f_X5_bestPlace_48 Ir1 Lr1 (Ir1 12 a1.toNatClampNeg) (Ir1 11 a1.toNatClampNeg)) (fun r3 Ir3 Lr3 => some (r3, Ir3, Lr3))))))
theorem ok_X5_marketOf_48 {d : Nat} (hd : 4 ≤ d) {I : mI} {L : mL} {a1 : Int32} {o : Int32 × mI × mL} (h : f_X5_marketOf_48 I L a1 = some o) : RR mX5_marketOf d 0 [some (.ref 48), some (.int a1)] [] I L (retQ (some (.int o.1)) o.2.1 o.2.2) := by
  unfold f_X5_marketOf_48 at h
  refine r_aload_n (i := 0) dX5_marketOf_0 rfl rfl ?_
  refine r_aload_n (i := 0) dX5_marketOf_1 rfl rfl ?_
  refine r_getR f_X5_30 dX5_marketOf_2 rfl rfl ?_
  refine r_getR f_X5_97 dX5_marketOf_5 rfl rfl ?_
  refine r_iload_n (i := 1) dX5_marketOf_8 rfl rfl ?_
  obtain ⟨hb, h⟩ := ck_some h
  refine r_iald rfl (inb_vp hb) dX5_marketOf_9 ?_
  obtain ⟨⟨Ir1, Lr1⟩, hr, h⟩ := bind_some h
  refine r_V (d' := 3) k_X5_100 dX5_marketOf_10 (by omega) rfl rfl rfl (Nat.le_of_ble_eq_true rfl) (Nat.le_of_ble_eq_true rfl) (ok_X5_weigh_48 (Nat.le_refl _) hr) (fun v I' L' hq => ?_)
  obtain ⟨rfl, rfl, rfl⟩ := hq
  simp only [Option.toList_some, Option.toList_none, List.drop_succ_cons, List.drop_zero, List.drop_nil, List.cons_append, List.nil_append]
  dsimp only at h
  refine r_aload_n (i := 0) dX5_marketOf_13 rfl rfl ?_
  refine r_aload_n (i := 0) dX5_marketOf_14 rfl rfl ?_
  refine r_getR f_X5_30 dX5_marketOf_15 rfl rfl ?_
  refine r_getR f_X5_103 dX5_marketOf_18 rfl rfl ?_
  refine r_iload_n (i := 1) dX5_marketOf_21 rfl rfl ?_
  obtain ⟨hb, h⟩ := ck_some h
  refine r_iald rfl (inb_vp hb) dX5_marketOf_22 ?_
  refine r_aload_n (i := 0) dX5_marketOf_23 rfl rfl ?_
  refine r_getR f_X5_30 dX5_marketOf_24 rfl rfl ?_
  refine r_getR f_X5_106 dX5_marketOf_27 rfl rfl ?_
  refine r_iload_n (i := 1) dX5_marketOf_30 rfl rfl ?_
  obtain ⟨hb, h⟩ := ck_some h
  refine r_iald rfl (inb_vp hb) dX5_marketOf_31 ?_
  obtain ⟨⟨r3, Ir3, Lr3⟩, hr, h⟩ := bind_some h
  refine r_V (d' := 2) k_X5_109 dX5_marketOf_32 (by omega) rfl rfl rfl (Nat.le_of_ble_eq_true rfl) (Nat.le_of_ble_eq_true rfl) (ok_X5_bestPlace_48 (Nat.le_refl _) hr) (fun v I' L' hq => ?_)
  obtain ⟨rfl, rfl, rfl⟩ := hq
  simp only [Option.toList_some, Option.toList_none, List.drop_succ_cons, List.drop_zero, List.drop_nil, List.cons_append, List.nil_append]
  dsimp only at h
  refine r_iret (by first | rfl | decide) dX5_marketOf_35 ?_
  obtain rfl := Option.some.inj h
  exact ⟨rfl, rfl, rfl⟩
def f_X10_market_0 (I : mI) (L : mL) (a1 : Int32) (a2 : Int32) : rI := (f_X7_hasGood_1 I L a1).bind (fun r1 => if r1 = 0 then (some ((-1), I, L)) else ((f_X7_hasCart_1 I L a2).bind (fun r2 => if r2 = 0 then (some ((-1), I, L)) else (bndV (f_X5_harness_48 I L a2) (fun Ir3 Lr3 => bndI (f_X5_marketOf_48 Ir3 Lr3 a1) (fun r5 Ir5 Lr5 => if 0 ≤ r5 then (some (r5, Ir5, Lr5)) else (some ((-4), Ir5, Lr5))))))))
theorem ok_X10_market_0 {d : Nat} (hd : 5 ≤ d) {I : mI} {L : mL} {a1 : Int32} {a2 : Int32} {o : Int32 × mI × mL} (h : f_X10_market_0 I L a1 a2 = some o) : RR mX10_market d 0 [some (.ref 0), some (.int a1), some (.int a2), none] [] I L (retQ (some (.int o.1)) o.2.1 o.2.2) := by
  unfold f_X10_market_0 at h
  refine r_aload_n (i := 0) dX10_market_0 rfl rfl ?_
  refine r_getR f_X10_10 dX10_market_1 rfl rfl ?_
  refine r_iload_n (i := 1) dX10_market_4 rfl rfl ?_
  obtain ⟨r1, hr, h⟩ := bind_some h
  refine r_V (d' := 0) k_X10_128 dX10_market_5 (by omega) rfl rfl rfl (Nat.le_of_ble_eq_true rfl) (Nat.le_of_ble_eq_true rfl) (ok_X7_hasGood_1 (Nat.le_refl _) hr) (fun v I' L' hq => ?_)
  obtain ⟨rfl, rfl, rfl⟩ := hq
  simp only [Option.toList_some, Option.toList_none, List.drop_succ_cons, List.drop_zero, List.drop_nil, List.cons_append, List.nil_append]
  refine r_if_eq (tgt := 22) dX10_market_8 (by decide) (fun c => ?_) (fun c => ?_)
  · rw [if_pos c] at h
    refine r_iconst (v := (-1)) dX10_market_22 (by decide) ?_
    refine r_iret (by first | rfl | decide) dX10_market_23 ?_
    obtain rfl := Option.some.inj h
    exact ⟨rfl, rfl, rfl⟩
  · rw [if_neg c] at h
    refine r_aload_n (i := 0) dX10_market_11 rfl rfl ?_
    refine r_getR f_X10_10 dX10_market_12 rfl rfl ?_
    refine r_iload_n (i := 2) dX10_market_15 rfl rfl ?_
    obtain ⟨r2, hr, h⟩ := bind_some h
    refine r_V (d' := 0) k_X10_210 dX10_market_16 (by omega) rfl rfl rfl (Nat.le_of_ble_eq_true rfl) (Nat.le_of_ble_eq_true rfl) (ok_X7_hasCart_1 (Nat.le_refl _) hr) (fun v I' L' hq => ?_)
    obtain ⟨rfl, rfl, rfl⟩ := hq
    simp only [Option.toList_some, Option.toList_none, List.drop_succ_cons, List.drop_zero, List.drop_nil, List.cons_append, List.nil_append]
    refine r_if_ne (tgt := 24) dX10_market_19 (by decide) (fun c => ?_) (fun c => ?_)
    · rw [if_neg c] at h
      refine r_aload_n (i := 0) dX10_market_24 rfl rfl ?_
      refine r_getR f_X10_38 dX10_market_25 rfl rfl ?_
      refine r_iload_n (i := 2) dX10_market_28 rfl rfl ?_
      obtain ⟨⟨Ir3, Lr3⟩, hr, h⟩ := bind_some h
      refine r_V (d' := 1) k_X10_213 dX10_market_29 (by omega) rfl rfl rfl (Nat.le_of_ble_eq_true rfl) (Nat.le_of_ble_eq_true rfl) (ok_X5_harness_48 (Nat.le_refl _) hr) (fun v I' L' hq => ?_)
      obtain ⟨rfl, rfl, rfl⟩ := hq
      simp only [Option.toList_some, Option.toList_none, List.drop_succ_cons, List.drop_zero, List.drop_nil, List.cons_append, List.nil_append]
      dsimp only at h
      refine r_aload_n (i := 0) dX10_market_32 rfl rfl ?_
      refine r_getR f_X10_38 dX10_market_33 rfl rfl ?_
      refine r_iload_n (i := 1) dX10_market_36 rfl rfl ?_
      obtain ⟨⟨r5, Ir5, Lr5⟩, hr, h⟩ := bind_some h
      refine r_V (d' := 4) k_X10_250 dX10_market_37 (by omega) rfl rfl rfl (Nat.le_of_ble_eq_true rfl) (Nat.le_of_ble_eq_true rfl) (ok_X5_marketOf_48 (Nat.le_refl _) hr) (fun v I' L' hq => ?_)
      obtain ⟨rfl, rfl, rfl⟩ := hq
      simp only [Option.toList_some, Option.toList_none, List.drop_succ_cons, List.drop_zero, List.drop_nil, List.cons_append, List.nil_append]
      dsimp only at h
      refine r_istore_n (i := 3) dX10_market_40 rfl (by decide) rfl ?_
      simp only [List.set_cons_zero, List.set_cons_succ]
      refine r_iload_n (i := 3) dX10_market_41 rfl rfl ?_
      refine r_if_ge (tgt := 50) dX10_market_42 (by decide) (fun c => ?_) (fun c => ?_)
      · rw [if_pos c] at h
        refine r_iload_n (i := 3) dX10_market_50 rfl rfl ?_
        refine r_iret (by first | rfl | decide) dX10_market_51 ?_
        obtain rfl := Option.some.inj h
        exact ⟨rfl, rfl, rfl⟩
      · rw [if_neg c] at h
        refine r_bipush (v := (-4)) dX10_market_45 (by decide) ?_
        refine r_goto (tgt := 51) dX10_market_47 (by decide) ?_
        refine r_iret (by first | rfl | decide) dX10_market_51 ?_
        obtain rfl := Option.some.inj h
        exact ⟨rfl, rfl, rfl⟩
    · rw [if_pos c] at h
      refine r_iconst (v := (-1)) dX10_market_22 (by decide) ?_
      refine r_iret (by first | rfl | decide) dX10_market_23 ?_
      obtain rfl := Option.some.inj h
      exact ⟨rfl, rfl, rfl⟩
def f_X9_findValues_55_l33 : Nat → Int32 → Int32 → mI → mL → rV
  | 0, _, _, _, _ => none
  | n + 1, x1, x3, I, L => if (I 48 8) ≤ x3 then (some (I, L)) else (ck (inb x1 6) (ck (inb x3 8) (ck (inb x3 8) (lt (uI I 56 x3.toNatClampNeg ((I 11 x1.toNatClampNeg) * (I 51 x3.toNatClampNeg))) (fun M7 => lt (x3 + Int32.ofInt 1) (fun v8 => f_X9_findValues_55_l33 n x1 v8 M7 L))))))
theorem ok_X9_findValues_55_l33 {d : Nat} (hd : 4 ≤ d) : ∀ (n : Nat) (x1 : Int32) (x3 : Int32) (I : mI) (L : mL) (o : mI × mL), f_X9_findValues_55_l33 n x1 x3 I L = some o → RR mX9_findValues d 33 [some (.ref 55), some (.int x1), none, some (.int x3)] [] I L (retQ none o.1 o.2) := by
  intro n
  induction n with
  | zero => intro x1 x3 I L o h; rw [f_X9_findValues_55_l33] at h; cases h
  | succ n ih =>
    intro x1 x3 I L o h
    rw [f_X9_findValues_55_l33] at h
    refine r_iload_n (i := 3) dX9_findValues_33 rfl rfl ?_
    refine r_aload_n (i := 0) dX9_findValues_34 rfl rfl ?_
    refine r_getR f_X9_30 dX9_findValues_35 rfl rfl ?_
    refine r_getI f_X9_38 dX9_findValues_38 rfl rfl ?_
    refine r_icmp_ge (tgt := 75) dX9_findValues_41 (by decide) (fun c => ?_) (fun c => ?_)
    · rw [if_pos c] at h
      refine r_vret dX9_findValues_75 ?_
      obtain rfl := Option.some.inj h
      exact ⟨rfl, rfl, rfl⟩
    · rw [if_neg c] at h
      refine r_aload_n (i := 0) dX9_findValues_44 rfl rfl ?_
      refine r_getR f_X9_11 dX9_findValues_45 rfl rfl ?_
      refine r_iload_n (i := 3) dX9_findValues_48 rfl rfl ?_
      refine r_aload_n (i := 0) dX9_findValues_49 rfl rfl ?_
      refine r_getR f_X9_26 dX9_findValues_50 rfl rfl ?_
      refine r_getR f_X9_52 dX9_findValues_53 rfl rfl ?_
      refine r_iload_n (i := 1) dX9_findValues_56 rfl rfl ?_
      obtain ⟨hb, h⟩ := ck_some h
      refine r_iald rfl (inb_vp hb) dX9_findValues_57 ?_
      refine r_aload_n (i := 0) dX9_findValues_58 rfl rfl ?_
      refine r_getR f_X9_30 dX9_findValues_59 rfl rfl ?_
      refine r_getR f_X9_83 dX9_findValues_62 rfl rfl ?_
      refine r_iload_n (i := 3) dX9_findValues_65 rfl rfl ?_
      obtain ⟨hb, h⟩ := ck_some h
      refine r_iald rfl (inb_vp hb) dX9_findValues_66 ?_
      refine r_imul dX9_findValues_67 ?_
      obtain ⟨hb, h⟩ := ck_some h
      refine r_iast rfl (inb_vp hb) dX9_findValues_68 ?_
      replace h := lt_some h
      refine r_iinc (v := _) dX9_findValues_69 rfl rfl (by decide) rfl ?_
      simp only [List.set_cons_zero, List.set_cons_succ]
      replace h := lt_some h
      refine r_goto (tgt := 33) dX9_findValues_72 (by decide) ?_
      exact RR.wk (ih _ _ _ _ _ h) (And.intro rfl (And.intro rfl (And.intro rfl (trivial))))
def f_X9_findValues_55 (I : mI) (L : mL) (a1 : Int32) (a2 : Int32) : rV := bndV (f_X5_harness_48 I L a2) (fun Ir1 Lr1 => ck (inb a1 6) (bndV (f_X5_weigh_48 Ir1 Lr1 (Ir1 10 a1.toNatClampNeg)) (fun Ir3 Lr3 => bndV (f_X5_spreadAll_48 Ir3 Lr3) (fun Ir5 Lr5 => f_X9_findValues_55_l33 fuel a1 0 Ir5 Lr5))))
theorem ok_X9_findValues_55 {d : Nat} (hd : 4 ≤ d) {I : mI} {L : mL} {a1 : Int32} {a2 : Int32} {o : mI × mL} (h : f_X9_findValues_55 I L a1 a2 = some o) : RR mX9_findValues d 0 [some (.ref 55), some (.int a1), some (.int a2), none] [] I L (retQ none o.1 o.2) := by
  unfold f_X9_findValues_55 at h
  refine r_aload_n (i := 0) dX9_findValues_0 rfl rfl ?_
  refine r_getR f_X9_30 dX9_findValues_1 rfl rfl ?_
  refine r_iload_n (i := 2) dX9_findValues_4 rfl rfl ?_
  obtain ⟨⟨Ir1, Lr1⟩, hr, h⟩ := bind_some h
  refine r_V (d' := 1) k_X9_74 dX9_findValues_5 (by omega) rfl rfl rfl (Nat.le_of_ble_eq_true rfl) (Nat.le_of_ble_eq_true rfl) (ok_X5_harness_48 (Nat.le_refl _) hr) (fun v I' L' hq => ?_)
  obtain ⟨rfl, rfl, rfl⟩ := hq
  simp only [Option.toList_some, Option.toList_none, List.drop_succ_cons, List.drop_zero, List.drop_nil, List.cons_append, List.nil_append]
  dsimp only at h
  refine r_aload_n (i := 0) dX9_findValues_8 rfl rfl ?_
  refine r_getR f_X9_30 dX9_findValues_9 rfl rfl ?_
  refine r_aload_n (i := 0) dX9_findValues_12 rfl rfl ?_
  refine r_getR f_X9_26 dX9_findValues_13 rfl rfl ?_
  refine r_getR f_X9_57 dX9_findValues_16 rfl rfl ?_
  refine r_iload_n (i := 1) dX9_findValues_19 rfl rfl ?_
  obtain ⟨hb, h⟩ := ck_some h
  refine r_iald rfl (inb_vp hb) dX9_findValues_20 ?_
  obtain ⟨⟨Ir3, Lr3⟩, hr, h⟩ := bind_some h
  refine r_V (d' := 3) k_X9_77 dX9_findValues_21 (by omega) rfl rfl rfl (Nat.le_of_ble_eq_true rfl) (Nat.le_of_ble_eq_true rfl) (ok_X5_weigh_48 (Nat.le_refl _) hr) (fun v I' L' hq => ?_)
  obtain ⟨rfl, rfl, rfl⟩ := hq
  simp only [Option.toList_some, Option.toList_none, List.drop_succ_cons, List.drop_zero, List.drop_nil, List.cons_append, List.nil_append]
  dsimp only at h
  refine r_aload_n (i := 0) dX9_findValues_24 rfl rfl ?_
  refine r_getR f_X9_30 dX9_findValues_25 rfl rfl ?_
  obtain ⟨⟨Ir5, Lr5⟩, hr, h⟩ := bind_some h
  refine r_V (d' := 3) k_X9_80 dX9_findValues_28 (by omega) rfl rfl rfl (Nat.le_of_ble_eq_true rfl) (Nat.le_of_ble_eq_true rfl) (ok_X5_spreadAll_48 (Nat.le_refl _) hr) (fun v I' L' hq => ?_)
  obtain ⟨rfl, rfl, rfl⟩ := hq
  simp only [Option.toList_some, Option.toList_none, List.drop_succ_cons, List.drop_zero, List.drop_nil, List.cons_append, List.nil_append]
  dsimp only at h
  refine r_iconst (v := 0) dX9_findValues_31 (by decide) ?_
  refine r_istore_n (i := 3) dX9_findValues_32 rfl (by decide) rfl ?_
  simp only [List.set_cons_zero, List.set_cons_succ]
  exact RR.wk (ok_X9_findValues_55_l33 hd _ _ _ _ _ _ h) (And.intro rfl (And.intro rfl (And.intro rfl (trivial))))
def f_X5_leads_48 (I : mI) (L : mL) (a1 : Int32) (a2 : Int32) : Option Int32 := if a1 = a2 then (some 0) else (ck (inb ((a1 * 8) + a2) 64) (if 536870912 ≤ (I 50 ((a1 * 8) + a2).toNatClampNeg) then (some 0) else (some 1)))
theorem ok_X5_leads_48 {d : Nat} (hd : 0 ≤ d) {I : mI} {L : mL} {a1 : Int32} {a2 : Int32} {o : Int32} (h : f_X5_leads_48 I L a1 a2 = some o) : RR mX5_leads d 0 [some (.ref 48), some (.int a1), some (.int a2)] [] I L (retQ (some (.int o)) I L) := by
  unfold f_X5_leads_48 at h
  refine r_iload_n (i := 1) dX5_leads_0 rfl rfl ?_
  refine r_iload_n (i := 2) dX5_leads_1 rfl rfl ?_
  refine r_icmp_eq (tgt := 25) dX5_leads_2 (by decide) (fun c => ?_) (fun c => ?_)
  · rw [if_pos c] at h
    refine r_iconst (v := 0) dX5_leads_25 (by decide) ?_
    refine r_iret (by first | rfl | decide) dX5_leads_26 ?_
    obtain rfl := Option.some.inj h
    exact ⟨rfl, rfl, rfl⟩
  · rw [if_neg c] at h
    refine r_aload_n (i := 0) dX5_leads_5 rfl rfl ?_
    refine r_getR f_X5_15 dX5_leads_6 rfl rfl ?_
    refine r_iload_n (i := 1) dX5_leads_9 rfl rfl ?_
    refine r_bipush (v := 8) dX5_leads_10 (by decide) ?_
    refine r_imul dX5_leads_12 ?_
    refine r_iload_n (i := 2) dX5_leads_13 rfl rfl ?_
    refine r_iadd dX5_leads_14 ?_
    obtain ⟨hb, h⟩ := ck_some h
    refine r_iald rfl (inb_vp hb) dX5_leads_15 ?_
    refine r_ldc n_X5_112 dX5_leads_16 ?_
    refine r_icmp_ge (tgt := 25) dX5_leads_18 (by decide) (fun c => ?_) (fun c => ?_)
    · rw [if_pos c] at h
      refine r_iconst (v := 0) dX5_leads_25 (by decide) ?_
      refine r_iret (by first | rfl | decide) dX5_leads_26 ?_
      obtain rfl := Option.some.inj h
      exact ⟨rfl, rfl, rfl⟩
    · rw [if_neg c] at h
      refine r_iconst (v := 1) dX5_leads_21 (by decide) ?_
      refine r_goto (tgt := 26) dX5_leads_22 (by decide) ?_
      refine r_iret (by first | rfl | decide) dX5_leads_26 ?_
      obtain rfl := Option.some.inj h
      exact ⟨rfl, rfl, rfl⟩
def f_X9_best_55_b99 (I : mI) (L : mL) (k11 : Int32 → Int32 → mI → mL → rI) (k26 : Int32 → Int32 → Int32 → mI → mL → rI) (x4 : Int32) (x5 : Int32) (x6 : Int32) : rI := lt ((10 * x4) + x5) (fun v7 => lt (uI I 55 6 x6) (fun M8 => lt (x5 + Int32.ofInt 1) (fun v9 => k26 v7 x4 v9 M8 L)))
theorem ok_X9_best_55_b99 {d : Nat} (hd : 5 ≤ d){I : mI} {L : mL} {k11 : Int32 → Int32 → mI → mL → rI} {k26 : Int32 → Int32 → Int32 → mI → mL → rI} (hk11 : ∀ (x3 : Int32) (x4 : Int32) (I : mI) (L : mL) (o : Int32 × mI × mL), k11 x3 x4 I L = some o → RR mX9_best d 11 [some (.ref 55), none, none, some (.int x3), some (.int x4), none, none] [] I L (retQ (some (.int o.1)) o.2.1 o.2.2)) (hk26 : ∀ (x3 : Int32) (x4 : Int32) (x5 : Int32) (I : mI) (L : mL) (o : Int32 × mI × mL), k26 x3 x4 x5 I L = some o → RR mX9_best d 26 [some (.ref 55), none, none, some (.int x3), some (.int x4), some (.int x5), none] [] I L (retQ (some (.int o.1)) o.2.1 o.2.2)) (x4 : Int32) (x5 : Int32) (x6 : Int32) {o : Int32 × mI × mL} (h : f_X9_best_55_b99 I L k11 k26 x4 x5 x6 = some o) : RR mX9_best d 99 [some (.ref 55), none, none, none, some (.int x4), some (.int x5), some (.int x6)] [] I L (retQ (some (.int o.1)) o.2.1 o.2.2) := by
  unfold f_X9_best_55_b99 at h
  refine r_bipush (v := 10) dX9_best_99 (by decide) ?_
  refine r_iload dX9_best_101 rfl ?_
  refine r_imul dX9_best_103 ?_
  refine r_iload dX9_best_104 rfl ?_
  refine r_iadd dX9_best_106 ?_
  refine r_istore_n (i := 3) dX9_best_107 rfl (by decide) rfl ?_
  simp only [List.set_cons_zero, List.set_cons_succ]
  replace h := lt_some h
  refine r_aload_n (i := 0) dX9_best_108 rfl rfl ?_
  refine r_iload dX9_best_109 rfl ?_
  refine r_putI f_X9_49 rfl rfl dX9_best_111 rfl rfl ?_
  replace h := lt_some h
  refine r_iinc (v := _) dX9_best_114 rfl rfl (by decide) rfl ?_
  simp only [List.set_cons_zero, List.set_cons_succ]
  replace h := lt_some h
  refine r_goto (tgt := 26) dX9_best_117 (by decide) ?_
  exact RR.wk (hk26 _ _ _ _ _ _ h) (And.intro rfl (And.intro rfl (And.intro rfl (And.intro rfl (trivial)))))
def f_X9_best_55_l26 (k11 : Int32 → Int32 → mI → mL → rI) : Nat → Int32 → Int32 → Int32 → mI → mL → rI
  | 0, _, _, _, _, _ => none
  | n + 1, x3, x4, x5, I, L => if (I 48 8) ≤ x5 then (lt (x4 + Int32.ofInt 1) (fun v3 => k11 x3 v3 I L)) else ((f_X5_leads_48 I L x4 x5).bind (fun r4 => if r4 = 0 then (lt (x5 + Int32.ofInt 1) (fun v5 => f_X9_best_55_l26 k11 n x3 x4 v5 I L)) else (ck (inb x5 8) (ck (inb x4 8) (ck (inb ((x4 * 8) + x5) 64) (lt (((I 56 x5.toNatClampNeg) - (I 56 x4.toNatClampNeg)) - (I 50 ((x4 * 8) + x5).toNatClampNeg)) (fun v6 => if x3 < 0 then (f_X9_best_55_b99 I L k11 (f_X9_best_55_l26 k11 n) x4 x5 v6) else (if v6 ≤ (I 55 6) then (lt (x5 + Int32.ofInt 1) (fun v10 => f_X9_best_55_l26 k11 n x3 x4 v10 I L)) else (f_X9_best_55_b99 I L k11 (f_X9_best_55_l26 k11 n) x4 x5 v6)))))))))
theorem ok_X9_best_55_l26 {d : Nat} (hd : 5 ≤ d) {k11 : Int32 → Int32 → mI → mL → rI} (hk11 : ∀ (x3 : Int32) (x4 : Int32) (I : mI) (L : mL) (o : Int32 × mI × mL), k11 x3 x4 I L = some o → RR mX9_best d 11 [some (.ref 55), none, none, some (.int x3), some (.int x4), none, none] [] I L (retQ (some (.int o.1)) o.2.1 o.2.2)) : ∀ (n : Nat) (x3 : Int32) (x4 : Int32) (x5 : Int32) (I : mI) (L : mL) (o : Int32 × mI × mL), f_X9_best_55_l26 k11 n x3 x4 x5 I L = some o → RR mX9_best d 26 [some (.ref 55), none, none, some (.int x3), some (.int x4), some (.int x5), none] [] I L (retQ (some (.int o.1)) o.2.1 o.2.2) := by
  intro n
  induction n with
  | zero => intro x3 x4 x5 I L o h; rw [f_X9_best_55_l26] at h; cases h
  | succ n ih =>
    intro x3 x4 x5 I L o h
    rw [f_X9_best_55_l26] at h
    refine r_iload dX9_best_26 rfl ?_
    refine r_aload_n (i := 0) dX9_best_28 rfl rfl ?_
    refine r_getR f_X9_30 dX9_best_29 rfl rfl ?_
    refine r_getI f_X9_38 dX9_best_32 rfl rfl ?_
    refine r_icmp_ge (tgt := 120) dX9_best_35 (by decide) (fun c => ?_) (fun c => ?_)
    · rw [if_pos c] at h
      refine r_iinc (v := _) dX9_best_120 rfl rfl (by decide) rfl ?_
      simp only [List.set_cons_zero, List.set_cons_succ]
      replace h := lt_some h
      refine r_goto (tgt := 11) dX9_best_123 (by decide) ?_
      exact RR.wk (hk11 _ _ _ _ _ h) (And.intro rfl (And.intro rfl (And.intro rfl (trivial))))
    · rw [if_neg c] at h
      refine r_aload_n (i := 0) dX9_best_38 rfl rfl ?_
      refine r_getR f_X9_30 dX9_best_39 rfl rfl ?_
      refine r_iload dX9_best_42 rfl ?_
      refine r_iload dX9_best_44 rfl ?_
      obtain ⟨r4, hr, h⟩ := bind_some h
      refine r_V (d' := 0) k_X9_42 dX9_best_46 (by omega) rfl rfl rfl (Nat.le_of_ble_eq_true rfl) (Nat.le_of_ble_eq_true rfl) (ok_X5_leads_48 (Nat.le_refl _) hr) (fun v I' L' hq => ?_)
      obtain ⟨rfl, rfl, rfl⟩ := hq
      simp only [Option.toList_some, Option.toList_none, List.drop_succ_cons, List.drop_zero, List.drop_nil, List.cons_append, List.nil_append]
      refine r_if_eq (tgt := 114) dX9_best_49 (by decide) (fun c => ?_) (fun c => ?_)
      · rw [if_pos c] at h
        refine r_iinc (v := _) dX9_best_114 rfl rfl (by decide) rfl ?_
        simp only [List.set_cons_zero, List.set_cons_succ]
        replace h := lt_some h
        refine r_goto (tgt := 26) dX9_best_117 (by decide) ?_
        exact RR.wk (ih _ _ _ _ _ _ h) (And.intro rfl (And.intro rfl (And.intro rfl (And.intro rfl (trivial)))))
      · rw [if_neg c] at h
        refine r_aload_n (i := 0) dX9_best_52 rfl rfl ?_
        refine r_getR f_X9_11 dX9_best_53 rfl rfl ?_
        refine r_iload dX9_best_56 rfl ?_
        obtain ⟨hb, h⟩ := ck_some h
        refine r_iald rfl (inb_vp hb) dX9_best_58 ?_
        refine r_aload_n (i := 0) dX9_best_59 rfl rfl ?_
        refine r_getR f_X9_11 dX9_best_60 rfl rfl ?_
        refine r_iload dX9_best_63 rfl ?_
        obtain ⟨hb, h⟩ := ck_some h
        refine r_iald rfl (inb_vp hb) dX9_best_65 ?_
        refine r_isub dX9_best_66 ?_
        refine r_aload_n (i := 0) dX9_best_67 rfl rfl ?_
        refine r_getR f_X9_30 dX9_best_68 rfl rfl ?_
        refine r_getR f_X9_46 dX9_best_71 rfl rfl ?_
        refine r_iload dX9_best_74 rfl ?_
        refine r_bipush (v := 8) dX9_best_76 (by decide) ?_
        refine r_imul dX9_best_78 ?_
        refine r_iload dX9_best_79 rfl ?_
        refine r_iadd dX9_best_81 ?_
        obtain ⟨hb, h⟩ := ck_some h
        refine r_iald rfl (inb_vp hb) dX9_best_82 ?_
        refine r_isub dX9_best_83 ?_
        refine r_istore dX9_best_84 (by decide) rfl ?_
        simp only [List.set_cons_zero, List.set_cons_succ]
        replace h := lt_some h
        refine r_iload_n (i := 3) dX9_best_86 rfl rfl ?_
        refine r_if_lt (tgt := 99) dX9_best_87 (by decide) (fun c => ?_) (fun c => ?_)
        · rw [if_pos c] at h
          exact RR.wk (ok_X9_best_55_b99 hd hk11 ih _ _ _ h) (And.intro rfl (And.intro rfl (And.intro rfl (And.intro rfl (trivial)))))
        · rw [if_neg c] at h
          refine r_iload dX9_best_90 rfl ?_
          refine r_aload_n (i := 0) dX9_best_92 rfl rfl ?_
          refine r_getI f_X9_49 dX9_best_93 rfl rfl ?_
          refine r_icmp_le (tgt := 114) dX9_best_96 (by decide) (fun c => ?_) (fun c => ?_)
          · rw [if_pos c] at h
            refine r_iinc (v := _) dX9_best_114 rfl rfl (by decide) rfl ?_
            simp only [List.set_cons_zero, List.set_cons_succ]
            replace h := lt_some h
            refine r_goto (tgt := 26) dX9_best_117 (by decide) ?_
            exact RR.wk (ih _ _ _ _ _ _ h) (And.intro rfl (And.intro rfl (And.intro rfl (And.intro rfl (trivial)))))
          · rw [if_neg c] at h
            exact RR.wk (ok_X9_best_55_b99 hd hk11 ih _ _ _ h) (And.intro rfl (And.intro rfl (And.intro rfl (And.intro rfl (trivial)))))
def f_X9_best_55_l11 : Nat → Int32 → Int32 → mI → mL → rI
  | 0, _, _, _, _ => none
  | n + 1, x3, x4, I, L => if (I 48 8) ≤ x4 then (some (x3, I, L)) else (f_X9_best_55_l26 (f_X9_best_55_l11 n) fuel x3 x4 0 I L)
theorem ok_X9_best_55_l11 {d : Nat} (hd : 5 ≤ d) : ∀ (n : Nat) (x3 : Int32) (x4 : Int32) (I : mI) (L : mL) (o : Int32 × mI × mL), f_X9_best_55_l11 n x3 x4 I L = some o → RR mX9_best d 11 [some (.ref 55), none, none, some (.int x3), some (.int x4), none, none] [] I L (retQ (some (.int o.1)) o.2.1 o.2.2) := by
  intro n
  induction n with
  | zero => intro x3 x4 I L o h; rw [f_X9_best_55_l11] at h; cases h
  | succ n ih =>
    intro x3 x4 I L o h
    rw [f_X9_best_55_l11] at h
    refine r_iload dX9_best_11 rfl ?_
    refine r_aload_n (i := 0) dX9_best_13 rfl rfl ?_
    refine r_getR f_X9_30 dX9_best_14 rfl rfl ?_
    refine r_getI f_X9_38 dX9_best_17 rfl rfl ?_
    refine r_icmp_ge (tgt := 126) dX9_best_20 (by decide) (fun c => ?_) (fun c => ?_)
    · rw [if_pos c] at h
      refine r_iload_n (i := 3) dX9_best_126 rfl rfl ?_
      refine r_iret (by first | rfl | decide) dX9_best_127 ?_
      obtain rfl := Option.some.inj h
      exact ⟨rfl, rfl, rfl⟩
    · rw [if_neg c] at h
      refine r_iconst (v := 0) dX9_best_23 (by decide) ?_
      refine r_istore dX9_best_24 (by decide) rfl ?_
      simp only [List.set_cons_zero, List.set_cons_succ]
      exact RR.wk (ok_X9_best_55_l26 hd ih _ _ _ _ _ _ _ h) (And.intro rfl (And.intro rfl (And.intro rfl (And.intro rfl (trivial)))))
def f_X9_best_55 (I : mI) (L : mL) (a1 : Int32) (a2 : Int32) : rI := bndV (f_X9_findValues_55 I L a1 a2) (fun Ir1 Lr1 => f_X9_best_55_l11 fuel (-1) 0 Ir1 Lr1)
theorem ok_X9_best_55 {d : Nat} (hd : 5 ≤ d) {I : mI} {L : mL} {a1 : Int32} {a2 : Int32} {o : Int32 × mI × mL} (h : f_X9_best_55 I L a1 a2 = some o) : RR mX9_best d 0 [some (.ref 55), some (.int a1), some (.int a2), none, none, none, none] [] I L (retQ (some (.int o.1)) o.2.1 o.2.2) := by
  unfold f_X9_best_55 at h
  refine r_aload_n (i := 0) dX9_best_0 rfl rfl ?_
  refine r_iload_n (i := 1) dX9_best_1 rfl rfl ?_
  refine r_iload_n (i := 2) dX9_best_2 rfl rfl ?_
  obtain ⟨⟨Ir1, Lr1⟩, hr, h⟩ := bind_some h
  refine r_V (d' := 4) k_X9_34 dX9_best_3 (by omega) rfl rfl rfl (Nat.le_of_ble_eq_true rfl) (Nat.le_of_ble_eq_true rfl) (ok_X9_findValues_55 (Nat.le_refl _) hr) (fun v I' L' hq => ?_)
  obtain ⟨rfl, rfl, rfl⟩ := hq
  simp only [Option.toList_some, Option.toList_none, List.drop_succ_cons, List.drop_zero, List.drop_nil, List.cons_append, List.nil_append]
  dsimp only at h
  refine r_iconst (v := (-1)) dX9_best_6 (by decide) ?_
  refine r_istore_n (i := 3) dX9_best_7 rfl (by decide) rfl ?_
  simp only [List.set_cons_zero, List.set_cons_succ]
  refine r_iconst (v := 0) dX9_best_8 (by decide) ?_
  refine r_istore dX9_best_9 (by decide) rfl ?_
  simp only [List.set_cons_zero, List.set_cons_succ]
  exact RR.wk (ok_X9_best_55_l11 hd _ _ _ _ _ _ h) (And.intro rfl (And.intro rfl (And.intro rfl (trivial))))
def f_X10_trade_0 (I : mI) (L : mL) (a1 : Int32) (a2 : Int32) (a3 : Int32) : rI := (f_X7_hasGood_1 I L a1).bind (fun r1 => if r1 = 0 then (some ((-1000001), I, L)) else ((f_X7_hasCart_1 I L a2).bind (fun r2 => if r2 = 0 then (some ((-1000001), I, L)) else ((f_X10_within I L a3 0 1).bind (fun r3 => if r3 = 0 then (some ((-1000001), I, L)) else (bndI (f_X9_best_55 I L a1 a2) (fun r4 Ir4 Lr4 => if 0 ≤ r4 then (if a3 = 0 then (some (Ir4 55 6, Ir4, Lr4)) else (some (r4, Ir4, Lr4))) else (some ((-1000004), Ir4, Lr4)))))))))
theorem ok_X10_trade_0 {d : Nat} (hd : 6 ≤ d) {I : mI} {L : mL} {a1 : Int32} {a2 : Int32} {a3 : Int32} {o : Int32 × mI × mL} (h : f_X10_trade_0 I L a1 a2 a3 = some o) : RR mX10_trade d 0 [some (.ref 0), some (.int a1), some (.int a2), some (.int a3), none] [] I L (retQ (some (.int o.1)) o.2.1 o.2.2) := by
  unfold f_X10_trade_0 at h
  refine r_aload_n (i := 0) dX10_trade_0 rfl rfl ?_
  refine r_getR f_X10_10 dX10_trade_1 rfl rfl ?_
  refine r_iload_n (i := 1) dX10_trade_4 rfl rfl ?_
  obtain ⟨r1, hr, h⟩ := bind_some h
  refine r_V (d' := 0) k_X10_128 dX10_trade_5 (by omega) rfl rfl rfl (Nat.le_of_ble_eq_true rfl) (Nat.le_of_ble_eq_true rfl) (ok_X7_hasGood_1 (Nat.le_refl _) hr) (fun v I' L' hq => ?_)
  obtain ⟨rfl, rfl, rfl⟩ := hq
  simp only [Option.toList_some, Option.toList_none, List.drop_succ_cons, List.drop_zero, List.drop_nil, List.cons_append, List.nil_append]
  refine r_if_eq (tgt := 31) dX10_trade_8 (by decide) (fun c => ?_) (fun c => ?_)
  · rw [if_pos c] at h
    refine r_ldc n_X10_232 dX10_trade_31 ?_
    refine r_iret (by first | rfl | decide) dX10_trade_33 ?_
    obtain rfl := Option.some.inj h
    exact ⟨rfl, rfl, rfl⟩
  · rw [if_neg c] at h
    refine r_aload_n (i := 0) dX10_trade_11 rfl rfl ?_
    refine r_getR f_X10_10 dX10_trade_12 rfl rfl ?_
    refine r_iload_n (i := 2) dX10_trade_15 rfl rfl ?_
    obtain ⟨r2, hr, h⟩ := bind_some h
    refine r_V (d' := 0) k_X10_210 dX10_trade_16 (by omega) rfl rfl rfl (Nat.le_of_ble_eq_true rfl) (Nat.le_of_ble_eq_true rfl) (ok_X7_hasCart_1 (Nat.le_refl _) hr) (fun v I' L' hq => ?_)
    obtain ⟨rfl, rfl, rfl⟩ := hq
    simp only [Option.toList_some, Option.toList_none, List.drop_succ_cons, List.drop_zero, List.drop_nil, List.cons_append, List.nil_append]
    refine r_if_eq (tgt := 31) dX10_trade_19 (by decide) (fun c => ?_) (fun c => ?_)
    · rw [if_pos c] at h
      refine r_ldc n_X10_232 dX10_trade_31 ?_
      refine r_iret (by first | rfl | decide) dX10_trade_33 ?_
      obtain rfl := Option.some.inj h
      exact ⟨rfl, rfl, rfl⟩
    · rw [if_neg c] at h
      refine r_iload_n (i := 3) dX10_trade_22 rfl rfl ?_
      refine r_iconst (v := 0) dX10_trade_23 (by decide) ?_
      refine r_iconst (v := 1) dX10_trade_24 (by decide) ?_
      obtain ⟨r3, hr, h⟩ := bind_some h
      refine r_S (d' := 0) k_X10_72 dX10_trade_25 (by omega) rfl (Nat.le_of_ble_eq_true rfl) (Nat.le_of_ble_eq_true rfl) (ok_X10_within (Nat.le_refl _) hr) (fun v I' L' hq => ?_)
      obtain ⟨rfl, rfl, rfl⟩ := hq
      simp only [Option.toList_some, Option.toList_none, List.drop_succ_cons, List.drop_zero, List.drop_nil, List.cons_append, List.nil_append]
      refine r_if_ne (tgt := 34) dX10_trade_28 (by decide) (fun c => ?_) (fun c => ?_)
      · rw [if_neg c] at h
        refine r_aload_n (i := 0) dX10_trade_34 rfl rfl ?_
        refine r_getR f_X10_47 dX10_trade_35 rfl rfl ?_
        refine r_iload_n (i := 1) dX10_trade_38 rfl rfl ?_
        refine r_iload_n (i := 2) dX10_trade_39 rfl rfl ?_
        obtain ⟨⟨r4, Ir4, Lr4⟩, hr, h⟩ := bind_some h
        refine r_V (d' := 5) k_X10_253 dX10_trade_40 (by omega) rfl rfl rfl (Nat.le_of_ble_eq_true rfl) (Nat.le_of_ble_eq_true rfl) (ok_X9_best_55 (Nat.le_refl _) hr) (fun v I' L' hq => ?_)
        obtain ⟨rfl, rfl, rfl⟩ := hq
        simp only [Option.toList_some, Option.toList_none, List.drop_succ_cons, List.drop_zero, List.drop_nil, List.cons_append, List.nil_append]
        dsimp only at h
        refine r_istore dX10_trade_43 (by decide) rfl ?_
        simp only [List.set_cons_zero, List.set_cons_succ]
        refine r_iload dX10_trade_45 rfl ?_
        refine r_if_ge (tgt := 53) dX10_trade_47 (by decide) (fun c => ?_) (fun c => ?_)
        · rw [if_pos c] at h
          refine r_iload_n (i := 3) dX10_trade_53 rfl rfl ?_
          refine r_if_ne (tgt := 67) dX10_trade_54 (by decide) (fun c => ?_) (fun c => ?_)
          · rw [if_neg c] at h
            refine r_iload dX10_trade_67 rfl ?_
            refine r_iret (by first | rfl | decide) dX10_trade_69 ?_
            obtain rfl := Option.some.inj h
            exact ⟨rfl, rfl, rfl⟩
          · rw [if_pos c] at h
            refine r_aload_n (i := 0) dX10_trade_57 rfl rfl ?_
            refine r_getR f_X10_47 dX10_trade_58 rfl rfl ?_
            refine r_getI f_X10_256 dX10_trade_61 rfl rfl ?_
            refine r_goto (tgt := 69) dX10_trade_64 (by decide) ?_
            refine r_iret (by first | rfl | decide) dX10_trade_69 ?_
            obtain rfl := Option.some.inj h
            exact ⟨rfl, rfl, rfl⟩
        · rw [if_neg c] at h
          refine r_ldc n_X10_243 dX10_trade_50 ?_
          refine r_iret (by first | rfl | decide) dX10_trade_52 ?_
          obtain rfl := Option.some.inj h
          exact ⟨rfl, rfl, rfl⟩
      · rw [if_pos c] at h
        refine r_ldc n_X10_232 dX10_trade_31 ?_
        refine r_iret (by first | rfl | decide) dX10_trade_33 ?_
        obtain rfl := Option.some.inj h
        exact ⟨rfl, rfl, rfl⟩
def f_X9_findGains_55_b136 (I : mI) (L : mL) (k2 : Int32 → Int32 → mI → mL → rV) (k36 : Int32 → Int32 → Int32 → mI → mL → rV) (x1 : Int32) (x2 : Int32) (x3 : Int32) (x4 : Int32) (s0 : Int32) (s1 : Int32) (s2 : Int32) : rV := ck (inb s2 8) (lt (uI I 58 s2.toNatClampNeg (s1 ||| s0)) (fun M9 => ck (inb x2 8) (ck (inb x3 8) (if ((M9 56 x3.toNatClampNeg) - x1) ≤ x4 then (ck (inb x2 8) (lt (uI M9 59 x2.toNatClampNeg ((M9 59 x2.toNatClampNeg) ||| 0)) (fun M10 => lt (x3 + Int32.ofInt 1) (fun v11 => k36 x1 x2 v11 M10 L)))) else (ck (inb x2 8) (lt (uI M9 59 x2.toNatClampNeg ((M9 59 x2.toNatClampNeg) ||| ((1 : Int32) <<< (x3 &&& 31)))) (fun M12 => lt (x3 + Int32.ofInt 1) (fun v13 => k36 x1 x2 v13 M12 L))))))))
theorem ok_X9_findGains_55_b136 {d : Nat} (hd : 1 ≤ d){I : mI} {L : mL} {k2 : Int32 → Int32 → mI → mL → rV} {k36 : Int32 → Int32 → Int32 → mI → mL → rV} (hk2 : ∀ (x1 : Int32) (x2 : Int32) (I : mI) (L : mL) (o : mI × mL), k2 x1 x2 I L = some o → RR mX9_findGains d 2 [some (.ref 55), some (.int x1), some (.int x2), none, none] [] I L (retQ none o.1 o.2)) (hk36 : ∀ (x1 : Int32) (x2 : Int32) (x3 : Int32) (I : mI) (L : mL) (o : mI × mL), k36 x1 x2 x3 I L = some o → RR mX9_findGains d 36 [some (.ref 55), some (.int x1), some (.int x2), some (.int x3), none] [] I L (retQ none o.1 o.2)) (x1 : Int32) (x2 : Int32) (x3 : Int32) (x4 : Int32) (s0 : Int32) (s1 : Int32) (s2 : Int32) {o : mI × mL} (h : f_X9_findGains_55_b136 I L k2 k36 x1 x2 x3 x4 s0 s1 s2 = some o) : RR mX9_findGains d 136 [some (.ref 55), some (.int x1), some (.int x2), some (.int x3), some (.int x4)] [.int s0, .int s1, .int s2, .ref 58] I L (retQ none o.1 o.2) := by
  unfold f_X9_findGains_55_b136 at h
  refine r_ior dX9_findGains_136 ?_
  obtain ⟨hb, h⟩ := ck_some h
  refine r_iast rfl (inb_vp hb) dX9_findGains_137 ?_
  replace h := lt_some h
  refine r_aload_n (i := 0) dX9_findGains_138 rfl rfl ?_
  refine r_getR f_X9_23 dX9_findGains_139 rfl rfl ?_
  refine r_iload_n (i := 2) dX9_findGains_142 rfl rfl ?_
  refine r_dup2 dX9_findGains_143 rfl rfl ?_
  obtain ⟨hb, h⟩ := ck_some h
  refine r_iald rfl (inb_vp hb) dX9_findGains_144 ?_
  refine r_aload_n (i := 0) dX9_findGains_145 rfl rfl ?_
  refine r_getR f_X9_11 dX9_findGains_146 rfl rfl ?_
  refine r_iload_n (i := 3) dX9_findGains_149 rfl rfl ?_
  obtain ⟨hb, h⟩ := ck_some h
  refine r_iald rfl (inb_vp hb) dX9_findGains_150 ?_
  refine r_iload_n (i := 1) dX9_findGains_151 rfl rfl ?_
  refine r_isub dX9_findGains_152 ?_
  refine r_iload dX9_findGains_153 rfl ?_
  refine r_icmp_le (tgt := 164) dX9_findGains_155 (by decide) (fun c => ?_) (fun c => ?_)
  · rw [if_pos c] at h
    refine r_iconst (v := 0) dX9_findGains_164 (by decide) ?_
    refine r_ior dX9_findGains_165 ?_
    obtain ⟨hb, h⟩ := ck_some h
    refine r_iast rfl (inb_vp hb) dX9_findGains_166 ?_
    replace h := lt_some h
    refine r_iinc (v := _) dX9_findGains_167 rfl rfl (by decide) rfl ?_
    simp only [List.set_cons_zero, List.set_cons_succ]
    replace h := lt_some h
    refine r_goto (tgt := 36) dX9_findGains_170 (by decide) ?_
    exact RR.wk (hk36 _ _ _ _ _ _ h) (And.intro rfl (And.intro rfl (And.intro rfl (And.intro rfl (trivial)))))
  · rw [if_neg c] at h
    refine r_iconst (v := 1) dX9_findGains_158 (by decide) ?_
    refine r_iload_n (i := 3) dX9_findGains_159 rfl rfl ?_
    refine r_ishl dX9_findGains_160 ?_
    refine r_goto (tgt := 165) dX9_findGains_161 (by decide) ?_
    refine r_ior dX9_findGains_165 ?_
    obtain ⟨hb, h⟩ := ck_some h
    refine r_iast rfl (inb_vp hb) dX9_findGains_166 ?_
    replace h := lt_some h
    refine r_iinc (v := _) dX9_findGains_167 rfl rfl (by decide) rfl ?_
    simp only [List.set_cons_zero, List.set_cons_succ]
    replace h := lt_some h
    refine r_goto (tgt := 36) dX9_findGains_170 (by decide) ?_
    exact RR.wk (hk36 _ _ _ _ _ _ h) (And.intro rfl (And.intro rfl (And.intro rfl (And.intro rfl (trivial)))))
def f_X9_findGains_55_b107 (I : mI) (L : mL) (k2 : Int32 → Int32 → mI → mL → rV) (k36 : Int32 → Int32 → Int32 → mI → mL → rV) (x1 : Int32) (x2 : Int32) (x3 : Int32) (x4 : Int32) (s0 : Int32) (s1 : Int32) (s2 : Int32) : rV := ck (inb s2 8) (lt (uI I 57 s2.toNatClampNeg (s1 ||| s0)) (fun M8 => ck (inb x2 8) (ck (inb x2 8) (if (x1 - (M8 56 x2.toNatClampNeg)) ≤ x4 then (f_X9_findGains_55_b136 M8 L k2 k36 x1 x2 x3 x4 0 (M8 58 x2.toNatClampNeg) x2) else (f_X9_findGains_55_b136 M8 L k2 k36 x1 x2 x3 x4 ((1 : Int32) <<< (x3 &&& 31)) (M8 58 x2.toNatClampNeg) x2)))))
theorem ok_X9_findGains_55_b107 {d : Nat} (hd : 1 ≤ d){I : mI} {L : mL} {k2 : Int32 → Int32 → mI → mL → rV} {k36 : Int32 → Int32 → Int32 → mI → mL → rV} (hk2 : ∀ (x1 : Int32) (x2 : Int32) (I : mI) (L : mL) (o : mI × mL), k2 x1 x2 I L = some o → RR mX9_findGains d 2 [some (.ref 55), some (.int x1), some (.int x2), none, none] [] I L (retQ none o.1 o.2)) (hk36 : ∀ (x1 : Int32) (x2 : Int32) (x3 : Int32) (I : mI) (L : mL) (o : mI × mL), k36 x1 x2 x3 I L = some o → RR mX9_findGains d 36 [some (.ref 55), some (.int x1), some (.int x2), some (.int x3), none] [] I L (retQ none o.1 o.2)) (x1 : Int32) (x2 : Int32) (x3 : Int32) (x4 : Int32) (s0 : Int32) (s1 : Int32) (s2 : Int32) {o : mI × mL} (h : f_X9_findGains_55_b107 I L k2 k36 x1 x2 x3 x4 s0 s1 s2 = some o) : RR mX9_findGains d 107 [some (.ref 55), some (.int x1), some (.int x2), some (.int x3), some (.int x4)] [.int s0, .int s1, .int s2, .ref 57] I L (retQ none o.1 o.2) := by
  unfold f_X9_findGains_55_b107 at h
  refine r_ior dX9_findGains_107 ?_
  obtain ⟨hb, h⟩ := ck_some h
  refine r_iast rfl (inb_vp hb) dX9_findGains_108 ?_
  replace h := lt_some h
  refine r_aload_n (i := 0) dX9_findGains_109 rfl rfl ?_
  refine r_getR f_X9_20 dX9_findGains_110 rfl rfl ?_
  refine r_iload_n (i := 2) dX9_findGains_113 rfl rfl ?_
  refine r_dup2 dX9_findGains_114 rfl rfl ?_
  obtain ⟨hb, h⟩ := ck_some h
  refine r_iald rfl (inb_vp hb) dX9_findGains_115 ?_
  refine r_iload_n (i := 1) dX9_findGains_116 rfl rfl ?_
  refine r_aload_n (i := 0) dX9_findGains_117 rfl rfl ?_
  refine r_getR f_X9_11 dX9_findGains_118 rfl rfl ?_
  refine r_iload_n (i := 2) dX9_findGains_121 rfl rfl ?_
  obtain ⟨hb, h⟩ := ck_some h
  refine r_iald rfl (inb_vp hb) dX9_findGains_122 ?_
  refine r_isub dX9_findGains_123 ?_
  refine r_iload dX9_findGains_124 rfl ?_
  refine r_icmp_le (tgt := 135) dX9_findGains_126 (by decide) (fun c => ?_) (fun c => ?_)
  · rw [if_pos c] at h
    refine r_iconst (v := 0) dX9_findGains_135 (by decide) ?_
    exact RR.wk (ok_X9_findGains_55_b136 hd hk2 hk36 _ _ _ _ _ _ _ h) (And.intro rfl (And.intro rfl (And.intro rfl (And.intro rfl (And.intro rfl (trivial))))))
  · rw [if_neg c] at h
    refine r_iconst (v := 1) dX9_findGains_129 (by decide) ?_
    refine r_iload_n (i := 3) dX9_findGains_130 rfl rfl ?_
    refine r_ishl dX9_findGains_131 ?_
    refine r_goto (tgt := 136) dX9_findGains_132 (by decide) ?_
    exact RR.wk (ok_X9_findGains_55_b136 hd hk2 hk36 _ _ _ _ _ _ _ h) (And.intro rfl (And.intro rfl (And.intro rfl (And.intro rfl (And.intro rfl (trivial))))))
def f_X9_findGains_55_l36 (k2 : Int32 → Int32 → mI → mL → rV) : Nat → Int32 → Int32 → Int32 → mI → mL → rV
  | 0, _, _, _, _, _ => none
  | n + 1, x1, x2, x3, I, L => if (I 48 8) ≤ x3 then (lt (x2 + Int32.ofInt 1) (fun v4 => k2 x1 v4 I L)) else ((f_X5_leads_48 I L x2 x3).bind (fun r5 => if r5 = 0 then (lt (x3 + Int32.ofInt 1) (fun v6 => f_X9_findGains_55_l36 k2 n x1 x2 v6 I L)) else (ck (inb ((x2 * 8) + x3) 64) (lt (I 50 ((x2 * 8) + x3).toNatClampNeg) (fun v7 => ck (inb x2 8) (ck (inb x3 8) (ck (inb x2 8) (if ((I 56 x3.toNatClampNeg) - (I 56 x2.toNatClampNeg)) ≤ v7 then (f_X9_findGains_55_b107 I L k2 (f_X9_findGains_55_l36 k2 n) x1 x2 x3 v7 0 (I 57 x2.toNatClampNeg) x2) else (f_X9_findGains_55_b107 I L k2 (f_X9_findGains_55_l36 k2 n) x1 x2 x3 v7 ((1 : Int32) <<< (x3 &&& 31)) (I 57 x2.toNatClampNeg) x2)))))))))
theorem ok_X9_findGains_55_l36 {d : Nat} (hd : 1 ≤ d) {k2 : Int32 → Int32 → mI → mL → rV} (hk2 : ∀ (x1 : Int32) (x2 : Int32) (I : mI) (L : mL) (o : mI × mL), k2 x1 x2 I L = some o → RR mX9_findGains d 2 [some (.ref 55), some (.int x1), some (.int x2), none, none] [] I L (retQ none o.1 o.2)) : ∀ (n : Nat) (x1 : Int32) (x2 : Int32) (x3 : Int32) (I : mI) (L : mL) (o : mI × mL), f_X9_findGains_55_l36 k2 n x1 x2 x3 I L = some o → RR mX9_findGains d 36 [some (.ref 55), some (.int x1), some (.int x2), some (.int x3), none] [] I L (retQ none o.1 o.2) := by
  intro n
  induction n with
  | zero => intro x1 x2 x3 I L o h; rw [f_X9_findGains_55_l36] at h; cases h
  | succ n ih =>
    intro x1 x2 x3 I L o h
    rw [f_X9_findGains_55_l36] at h
    refine r_iload_n (i := 3) dX9_findGains_36 rfl rfl ?_
    refine r_aload_n (i := 0) dX9_findGains_37 rfl rfl ?_
    refine r_getR f_X9_30 dX9_findGains_38 rfl rfl ?_
    refine r_getI f_X9_38 dX9_findGains_41 rfl rfl ?_
    refine r_icmp_ge (tgt := 173) dX9_findGains_44 (by decide) (fun c => ?_) (fun c => ?_)
    · rw [if_pos c] at h
      refine r_iinc (v := _) dX9_findGains_173 rfl rfl (by decide) rfl ?_
      simp only [List.set_cons_zero, List.set_cons_succ]
      replace h := lt_some h
      refine r_goto (tgt := 2) dX9_findGains_176 (by decide) ?_
      exact RR.wk (hk2 _ _ _ _ _ h) (And.intro rfl (And.intro rfl (And.intro rfl (trivial))))
    · rw [if_neg c] at h
      refine r_aload_n (i := 0) dX9_findGains_47 rfl rfl ?_
      refine r_getR f_X9_30 dX9_findGains_48 rfl rfl ?_
      refine r_iload_n (i := 2) dX9_findGains_51 rfl rfl ?_
      refine r_iload_n (i := 3) dX9_findGains_52 rfl rfl ?_
      obtain ⟨r5, hr, h⟩ := bind_some h
      refine r_V (d' := 0) k_X9_42 dX9_findGains_53 (by omega) rfl rfl rfl (Nat.le_of_ble_eq_true rfl) (Nat.le_of_ble_eq_true rfl) (ok_X5_leads_48 (Nat.le_refl _) hr) (fun v I' L' hq => ?_)
      obtain ⟨rfl, rfl, rfl⟩ := hq
      simp only [Option.toList_some, Option.toList_none, List.drop_succ_cons, List.drop_zero, List.drop_nil, List.cons_append, List.nil_append]
      refine r_if_eq (tgt := 167) dX9_findGains_56 (by decide) (fun c => ?_) (fun c => ?_)
      · rw [if_pos c] at h
        refine r_iinc (v := _) dX9_findGains_167 rfl rfl (by decide) rfl ?_
        simp only [List.set_cons_zero, List.set_cons_succ]
        replace h := lt_some h
        refine r_goto (tgt := 36) dX9_findGains_170 (by decide) ?_
        exact RR.wk (ih _ _ _ _ _ _ h) (And.intro rfl (And.intro rfl (And.intro rfl (And.intro rfl (trivial)))))
      · rw [if_neg c] at h
        refine r_aload_n (i := 0) dX9_findGains_59 rfl rfl ?_
        refine r_getR f_X9_30 dX9_findGains_60 rfl rfl ?_
        refine r_getR f_X9_46 dX9_findGains_63 rfl rfl ?_
        refine r_iload_n (i := 2) dX9_findGains_66 rfl rfl ?_
        refine r_bipush (v := 8) dX9_findGains_67 (by decide) ?_
        refine r_imul dX9_findGains_69 ?_
        refine r_iload_n (i := 3) dX9_findGains_70 rfl rfl ?_
        refine r_iadd dX9_findGains_71 ?_
        obtain ⟨hb, h⟩ := ck_some h
        refine r_iald rfl (inb_vp hb) dX9_findGains_72 ?_
        refine r_istore dX9_findGains_73 (by decide) rfl ?_
        simp only [List.set_cons_zero, List.set_cons_succ]
        replace h := lt_some h
        refine r_aload_n (i := 0) dX9_findGains_75 rfl rfl ?_
        refine r_getR f_X9_17 dX9_findGains_76 rfl rfl ?_
        refine r_iload_n (i := 2) dX9_findGains_79 rfl rfl ?_
        refine r_dup2 dX9_findGains_80 rfl rfl ?_
        obtain ⟨hb, h⟩ := ck_some h
        refine r_iald rfl (inb_vp hb) dX9_findGains_81 ?_
        refine r_aload_n (i := 0) dX9_findGains_82 rfl rfl ?_
        refine r_getR f_X9_11 dX9_findGains_83 rfl rfl ?_
        refine r_iload_n (i := 3) dX9_findGains_86 rfl rfl ?_
        obtain ⟨hb, h⟩ := ck_some h
        refine r_iald rfl (inb_vp hb) dX9_findGains_87 ?_
        refine r_aload_n (i := 0) dX9_findGains_88 rfl rfl ?_
        refine r_getR f_X9_11 dX9_findGains_89 rfl rfl ?_
        refine r_iload_n (i := 2) dX9_findGains_92 rfl rfl ?_
        obtain ⟨hb, h⟩ := ck_some h
        refine r_iald rfl (inb_vp hb) dX9_findGains_93 ?_
        refine r_isub dX9_findGains_94 ?_
        refine r_iload dX9_findGains_95 rfl ?_
        refine r_icmp_le (tgt := 106) dX9_findGains_97 (by decide) (fun c => ?_) (fun c => ?_)
        · rw [if_pos c] at h
          refine r_iconst (v := 0) dX9_findGains_106 (by decide) ?_
          exact RR.wk (ok_X9_findGains_55_b107 hd hk2 ih _ _ _ _ _ _ _ h) (And.intro rfl (And.intro rfl (And.intro rfl (And.intro rfl (And.intro rfl (trivial))))))
        · rw [if_neg c] at h
          refine r_iconst (v := 1) dX9_findGains_100 (by decide) ?_
          refine r_iload_n (i := 3) dX9_findGains_101 rfl rfl ?_
          refine r_ishl dX9_findGains_102 ?_
          refine r_goto (tgt := 107) dX9_findGains_103 (by decide) ?_
          exact RR.wk (ok_X9_findGains_55_b107 hd hk2 ih _ _ _ _ _ _ _ h) (And.intro rfl (And.intro rfl (And.intro rfl (And.intro rfl (And.intro rfl (trivial))))))
def f_X9_findGains_55_l2 : Nat → Int32 → Int32 → mI → mL → rV
  | 0, _, _, _, _ => none
  | n + 1, x1, x2, I, L => if (I 48 8) ≤ x2 then (some (I, L)) else (ck (inb x2 8) (lt (uI I 57 x2.toNatClampNeg 0) (fun M1 => ck (inb x2 8) (lt (uI M1 58 x2.toNatClampNeg 0) (fun M2 => ck (inb x2 8) (lt (uI M2 59 x2.toNatClampNeg 0) (fun M3 => f_X9_findGains_55_l36 (f_X9_findGains_55_l2 n) fuel x1 x2 0 M3 L)))))))
theorem ok_X9_findGains_55_l2 {d : Nat} (hd : 1 ≤ d) : ∀ (n : Nat) (x1 : Int32) (x2 : Int32) (I : mI) (L : mL) (o : mI × mL), f_X9_findGains_55_l2 n x1 x2 I L = some o → RR mX9_findGains d 2 [some (.ref 55), some (.int x1), some (.int x2), none, none] [] I L (retQ none o.1 o.2) := by
  intro n
  induction n with
  | zero => intro x1 x2 I L o h; rw [f_X9_findGains_55_l2] at h; cases h
  | succ n ih =>
    intro x1 x2 I L o h
    rw [f_X9_findGains_55_l2] at h
    refine r_iload_n (i := 2) dX9_findGains_2 rfl rfl ?_
    refine r_aload_n (i := 0) dX9_findGains_3 rfl rfl ?_
    refine r_getR f_X9_30 dX9_findGains_4 rfl rfl ?_
    refine r_getI f_X9_38 dX9_findGains_7 rfl rfl ?_
    refine r_icmp_ge (tgt := 179) dX9_findGains_10 (by decide) (fun c => ?_) (fun c => ?_)
    · rw [if_pos c] at h
      refine r_vret dX9_findGains_179 ?_
      obtain rfl := Option.some.inj h
      exact ⟨rfl, rfl, rfl⟩
    · rw [if_neg c] at h
      refine r_aload_n (i := 0) dX9_findGains_13 rfl rfl ?_
      refine r_getR f_X9_17 dX9_findGains_14 rfl rfl ?_
      refine r_iload_n (i := 2) dX9_findGains_17 rfl rfl ?_
      refine r_iconst (v := 0) dX9_findGains_18 (by decide) ?_
      obtain ⟨hb, h⟩ := ck_some h
      refine r_iast rfl (inb_vp hb) dX9_findGains_19 ?_
      replace h := lt_some h
      refine r_aload_n (i := 0) dX9_findGains_20 rfl rfl ?_
      refine r_getR f_X9_20 dX9_findGains_21 rfl rfl ?_
      refine r_iload_n (i := 2) dX9_findGains_24 rfl rfl ?_
      refine r_iconst (v := 0) dX9_findGains_25 (by decide) ?_
      obtain ⟨hb, h⟩ := ck_some h
      refine r_iast rfl (inb_vp hb) dX9_findGains_26 ?_
      replace h := lt_some h
      refine r_aload_n (i := 0) dX9_findGains_27 rfl rfl ?_
      refine r_getR f_X9_23 dX9_findGains_28 rfl rfl ?_
      refine r_iload_n (i := 2) dX9_findGains_31 rfl rfl ?_
      refine r_iconst (v := 0) dX9_findGains_32 (by decide) ?_
      obtain ⟨hb, h⟩ := ck_some h
      refine r_iast rfl (inb_vp hb) dX9_findGains_33 ?_
      replace h := lt_some h
      refine r_iconst (v := 0) dX9_findGains_34 (by decide) ?_
      refine r_istore_n (i := 3) dX9_findGains_35 rfl (by decide) rfl ?_
      simp only [List.set_cons_zero, List.set_cons_succ]
      exact RR.wk (ok_X9_findGains_55_l36 hd ih _ _ _ _ _ _ _ h) (And.intro rfl (And.intro rfl (And.intro rfl (And.intro rfl (trivial)))))
def f_X9_findGains_55 (I : mI) (L : mL) (a1 : Int32) : rV := f_X9_findGains_55_l2 fuel a1 0 I L
theorem ok_X9_findGains_55 {d : Nat} (hd : 1 ≤ d) {I : mI} {L : mL} {a1 : Int32} {o : mI × mL} (h : f_X9_findGains_55 I L a1 = some o) : RR mX9_findGains d 0 [some (.ref 55), some (.int a1), none, none, none] [] I L (retQ none o.1 o.2) := by
  unfold f_X9_findGains_55 at h
  refine r_iconst (v := 0) dX9_findGains_0 (by decide) ?_
  refine r_istore_n (i := 2) dX9_findGains_1 rfl (by decide) rfl ?_
  simp only [List.set_cons_zero, List.set_cons_succ]
  exact RR.wk (ok_X9_findGains_55_l2 hd _ _ _ _ _ _ h) (And.intro rfl (And.intro rfl (And.intro rfl (trivial))))
def f_J6_bitCount_0f7a4 (I : mI) (L : mL) (a0 : Int32) : Option Int32 := lt (a0 - (((a0.toUInt32 >>> ((1 : Int32).toUInt32 &&& Int32.toUInt32 31)).toInt32) &&& 1431655765)) (fun v1 => lt ((v1 &&& 858993459) + (((v1.toUInt32 >>> ((2 : Int32).toUInt32 &&& Int32.toUInt32 31)).toInt32) &&& 858993459)) (fun v2 => lt ((v2 + ((v2.toUInt32 >>> ((4 : Int32).toUInt32 &&& Int32.toUInt32 31)).toInt32)) &&& 252645135) (fun v3 => lt (v3 + ((v3.toUInt32 >>> ((8 : Int32).toUInt32 &&& Int32.toUInt32 31)).toInt32)) (fun v4 => lt (v4 + ((v4.toUInt32 >>> ((16 : Int32).toUInt32 &&& Int32.toUInt32 31)).toInt32)) (fun v5 => some (v5 &&& 63))))))
theorem ok_J6_bitCount_0f7a4 {d : Nat} (hd : 0 ≤ d) {I : mI} {L : mL} {a0 : Int32} {o : Int32} (h : f_J6_bitCount_0f7a4 I L a0 = some o) : RR mJ6_bitCount_0f7a4 d 0 [some (.int a0)] [] I L (retQ (some (.int o)) I L) := by
  unfold f_J6_bitCount_0f7a4 at h
  refine r_iload_n (i := 0) dJ6_bitCount_0f7a4_0 rfl rfl ?_
  refine r_iload_n (i := 0) dJ6_bitCount_0f7a4_1 rfl rfl ?_
  refine r_iconst (v := 1) dJ6_bitCount_0f7a4_2 (by decide) ?_
  refine r_iushr dJ6_bitCount_0f7a4_3 ?_
  refine r_ldcw n_J6_265 dJ6_bitCount_0f7a4_4 ?_
  refine r_iand dJ6_bitCount_0f7a4_7 ?_
  refine r_isub dJ6_bitCount_0f7a4_8 ?_
  refine r_istore_n (i := 0) dJ6_bitCount_0f7a4_9 rfl (by decide) rfl ?_
  simp only [List.set_cons_zero, List.set_cons_succ]
  replace h := lt_some h
  refine r_iload_n (i := 0) dJ6_bitCount_0f7a4_10 rfl rfl ?_
  refine r_ldcw n_J6_266 dJ6_bitCount_0f7a4_11 ?_
  refine r_iand dJ6_bitCount_0f7a4_14 ?_
  refine r_iload_n (i := 0) dJ6_bitCount_0f7a4_15 rfl rfl ?_
  refine r_iconst (v := 2) dJ6_bitCount_0f7a4_16 (by decide) ?_
  refine r_iushr dJ6_bitCount_0f7a4_17 ?_
  refine r_ldcw n_J6_266 dJ6_bitCount_0f7a4_18 ?_
  refine r_iand dJ6_bitCount_0f7a4_21 ?_
  refine r_iadd dJ6_bitCount_0f7a4_22 ?_
  refine r_istore_n (i := 0) dJ6_bitCount_0f7a4_23 rfl (by decide) rfl ?_
  simp only [List.set_cons_zero, List.set_cons_succ]
  replace h := lt_some h
  refine r_iload_n (i := 0) dJ6_bitCount_0f7a4_24 rfl rfl ?_
  refine r_iload_n (i := 0) dJ6_bitCount_0f7a4_25 rfl rfl ?_
  refine r_iconst (v := 4) dJ6_bitCount_0f7a4_26 (by decide) ?_
  refine r_iushr dJ6_bitCount_0f7a4_27 ?_
  refine r_iadd dJ6_bitCount_0f7a4_28 ?_
  refine r_ldcw n_J6_267 dJ6_bitCount_0f7a4_29 ?_
  refine r_iand dJ6_bitCount_0f7a4_32 ?_
  refine r_istore_n (i := 0) dJ6_bitCount_0f7a4_33 rfl (by decide) rfl ?_
  simp only [List.set_cons_zero, List.set_cons_succ]
  replace h := lt_some h
  refine r_iload_n (i := 0) dJ6_bitCount_0f7a4_34 rfl rfl ?_
  refine r_iload_n (i := 0) dJ6_bitCount_0f7a4_35 rfl rfl ?_
  refine r_bipush (v := 8) dJ6_bitCount_0f7a4_36 (by decide) ?_
  refine r_iushr dJ6_bitCount_0f7a4_38 ?_
  refine r_iadd dJ6_bitCount_0f7a4_39 ?_
  refine r_istore_n (i := 0) dJ6_bitCount_0f7a4_40 rfl (by decide) rfl ?_
  simp only [List.set_cons_zero, List.set_cons_succ]
  replace h := lt_some h
  refine r_iload_n (i := 0) dJ6_bitCount_0f7a4_41 rfl rfl ?_
  refine r_iload_n (i := 0) dJ6_bitCount_0f7a4_42 rfl rfl ?_
  refine r_bipush (v := 16) dJ6_bitCount_0f7a4_43 (by decide) ?_
  refine r_iushr dJ6_bitCount_0f7a4_45 ?_
  refine r_iadd dJ6_bitCount_0f7a4_46 ?_
  refine r_istore_n (i := 0) dJ6_bitCount_0f7a4_47 rfl (by decide) rfl ?_
  simp only [List.set_cons_zero, List.set_cons_succ]
  replace h := lt_some h
  refine r_iload_n (i := 0) dJ6_bitCount_0f7a4_48 rfl rfl ?_
  refine r_bipush (v := 63) dJ6_bitCount_0f7a4_49 (by decide) ?_
  refine r_iand dJ6_bitCount_0f7a4_51 ?_
  refine r_iret (by first | rfl | decide) dJ6_bitCount_0f7a4_52 ?_
  obtain rfl := Option.some.inj h
  exact ⟨rfl, rfl, rfl⟩
def f_X9_endsGains_55_b53 (I : mI) (L : mL) (k2 : Int32 → Int32 → Option Int32) (x1 : Int32) (x2 : Int32) (s0 : Int32) : Option Int32 := if s0 = 0 then (lt (x2 + Int32.ofInt 1) (fun v1 => k2 x1 v1)) else (some 0)
theorem ok_X9_endsGains_55_b53 {d : Nat} (hd : 0 ≤ d){I : mI} {L : mL} {k2 : Int32 → Int32 → Option Int32} (hk2 : ∀ (x1 : Int32) (x2 : Int32) (o : Int32), k2 x1 x2 = some o → RR mX9_endsGains d 2 [some (.ref 55), some (.int x1), some (.int x2), none] [] I L (retQ (some (.int o)) I L)) (x1 : Int32) (x2 : Int32) (s0 : Int32) {o : Int32} (h : f_X9_endsGains_55_b53 I L k2 x1 x2 s0 = some o) : RR mX9_endsGains d 53 [some (.ref 55), some (.int x1), some (.int x2), none] [.int s0] I L (retQ (some (.int o)) I L) := by
  unfold f_X9_endsGains_55_b53 at h
  refine r_istore_n (i := 3) dX9_endsGains_53 rfl (by decide) rfl ?_
  simp only [List.set_cons_zero, List.set_cons_succ]
  refine r_iload_n (i := 3) dX9_endsGains_54 rfl rfl ?_
  refine r_if_eq (tgt := 60) dX9_endsGains_55 (by decide) (fun c => ?_) (fun c => ?_)
  · rw [if_pos c] at h
    refine r_iinc (v := _) dX9_endsGains_60 rfl rfl (by decide) rfl ?_
    simp only [List.set_cons_zero, List.set_cons_succ]
    replace h := lt_some h
    refine r_goto (tgt := 2) dX9_endsGains_63 (by decide) ?_
    exact RR.wk (hk2 _ _ _ h) (And.intro rfl (And.intro rfl (And.intro rfl (trivial))))
  · rw [if_neg c] at h
    refine r_iconst (v := 0) dX9_endsGains_58 (by decide) ?_
    refine r_iret (by first | rfl | decide) dX9_endsGains_59 ?_
    obtain rfl := Option.some.inj h
    exact ⟨rfl, rfl, rfl⟩
def f_X9_endsGains_55_l2 (I : mI) (L : mL) : Nat → Int32 → Int32 → Option Int32
  | 0, _, _ => none
  | n + 1, x1, x2 => if (I 48 8) ≤ x2 then (some 1) else (if ((x1 >>> (x2 &&& 31)) &&& 1) = 0 then (ck (inb x2 8) (ck (inb x2 8) (f_X9_endsGains_55_b53 I L (f_X9_endsGains_55_l2 I L n) x1 x2 (((I 57 x2.toNatClampNeg) &&& (x1 ^^^ (-1))) ||| ((I 58 x2.toNatClampNeg) &&& x1))))) else (ck (inb x2 8) (f_X9_endsGains_55_b53 I L (f_X9_endsGains_55_l2 I L n) x1 x2 ((I 59 x2.toNatClampNeg) &&& (x1 ^^^ (-1))))))
theorem ok_X9_endsGains_55_l2 {d : Nat} (hd : 0 ≤ d){I : mI} {L : mL} : ∀ (n : Nat) (x1 : Int32) (x2 : Int32) (o : Int32), f_X9_endsGains_55_l2 I L n x1 x2 = some o → RR mX9_endsGains d 2 [some (.ref 55), some (.int x1), some (.int x2), none] [] I L (retQ (some (.int o)) I L) := by
  intro n
  induction n with
  | zero => intro x1 x2 o h; rw [f_X9_endsGains_55_l2] at h; cases h
  | succ n ih =>
    intro x1 x2 o h
    rw [f_X9_endsGains_55_l2] at h
    refine r_iload_n (i := 2) dX9_endsGains_2 rfl rfl ?_
    refine r_aload_n (i := 0) dX9_endsGains_3 rfl rfl ?_
    refine r_getR f_X9_30 dX9_endsGains_4 rfl rfl ?_
    refine r_getI f_X9_38 dX9_endsGains_7 rfl rfl ?_
    refine r_icmp_ge (tgt := 66) dX9_endsGains_10 (by decide) (fun c => ?_) (fun c => ?_)
    · rw [if_pos c] at h
      refine r_iconst (v := 1) dX9_endsGains_66 (by decide) ?_
      refine r_iret (by first | rfl | decide) dX9_endsGains_67 ?_
      obtain rfl := Option.some.inj h
      exact ⟨rfl, rfl, rfl⟩
    · rw [if_neg c] at h
      refine r_iload_n (i := 1) dX9_endsGains_13 rfl rfl ?_
      refine r_iload_n (i := 2) dX9_endsGains_14 rfl rfl ?_
      refine r_ishr dX9_endsGains_15 ?_
      refine r_iconst (v := 1) dX9_endsGains_16 (by decide) ?_
      refine r_iand dX9_endsGains_17 ?_
      refine r_if_eq (tgt := 34) dX9_endsGains_18 (by decide) (fun c => ?_) (fun c => ?_)
      · rw [if_pos c] at h
        refine r_aload_n (i := 0) dX9_endsGains_34 rfl rfl ?_
        refine r_getR f_X9_17 dX9_endsGains_35 rfl rfl ?_
        refine r_iload_n (i := 2) dX9_endsGains_38 rfl rfl ?_
        obtain ⟨hb, h⟩ := ck_some h
        refine r_iald rfl (inb_vp hb) dX9_endsGains_39 ?_
        refine r_iload_n (i := 1) dX9_endsGains_40 rfl rfl ?_
        refine r_iconst (v := (-1)) dX9_endsGains_41 (by decide) ?_
        refine r_ixor dX9_endsGains_42 ?_
        refine r_iand dX9_endsGains_43 ?_
        refine r_aload_n (i := 0) dX9_endsGains_44 rfl rfl ?_
        refine r_getR f_X9_20 dX9_endsGains_45 rfl rfl ?_
        refine r_iload_n (i := 2) dX9_endsGains_48 rfl rfl ?_
        obtain ⟨hb, h⟩ := ck_some h
        refine r_iald rfl (inb_vp hb) dX9_endsGains_49 ?_
        refine r_iload_n (i := 1) dX9_endsGains_50 rfl rfl ?_
        refine r_iand dX9_endsGains_51 ?_
        refine r_ior dX9_endsGains_52 ?_
        exact RR.wk (ok_X9_endsGains_55_b53 hd ih _ _ _ h) (And.intro rfl (And.intro rfl (And.intro rfl (trivial))))
      · rw [if_neg c] at h
        refine r_aload_n (i := 0) dX9_endsGains_21 rfl rfl ?_
        refine r_getR f_X9_23 dX9_endsGains_22 rfl rfl ?_
        refine r_iload_n (i := 2) dX9_endsGains_25 rfl rfl ?_
        obtain ⟨hb, h⟩ := ck_some h
        refine r_iald rfl (inb_vp hb) dX9_endsGains_26 ?_
        refine r_iload_n (i := 1) dX9_endsGains_27 rfl rfl ?_
        refine r_iconst (v := (-1)) dX9_endsGains_28 (by decide) ?_
        refine r_ixor dX9_endsGains_29 ?_
        refine r_iand dX9_endsGains_30 ?_
        refine r_goto (tgt := 53) dX9_endsGains_31 (by decide) ?_
        exact RR.wk (ok_X9_endsGains_55_b53 hd ih _ _ _ h) (And.intro rfl (And.intro rfl (And.intro rfl (trivial))))
def f_X9_endsGains_55 (I : mI) (L : mL) (a1 : Int32) : Option Int32 := f_X9_endsGains_55_l2 I L fuel a1 0
theorem ok_X9_endsGains_55 {d : Nat} (hd : 0 ≤ d) {I : mI} {L : mL} {a1 : Int32} {o : Int32} (h : f_X9_endsGains_55 I L a1 = some o) : RR mX9_endsGains d 0 [some (.ref 55), some (.int a1), none, none] [] I L (retQ (some (.int o)) I L) := by
  unfold f_X9_endsGains_55 at h
  refine r_iconst (v := 0) dX9_endsGains_0 (by decide) ?_
  refine r_istore_n (i := 2) dX9_endsGains_1 rfl (by decide) rfl ?_
  simp only [List.set_cons_zero, List.set_cons_succ]
  exact RR.wk (ok_X9_endsGains_55_l2 hd _ _ _ _ h) (And.intro rfl (And.intro rfl (And.intro rfl (trivial))))
