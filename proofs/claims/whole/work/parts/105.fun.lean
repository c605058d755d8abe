def f_X4_findPart_63_b131 (I : mI) (L : mL) (x4 : Int32) (x8 : Int64) (s0 : Int64) : rV := lt (uL L 63 3 s0) (fun M6 => if (lg_cmp x8 0) ≤ 0 then (lt (uL M6 63 4 1) (fun M7 => some (I, M7))) else (ck (inb x4 9) (ck (nzL x8) (lt (uL M6 63 4 ((ordL x4) / x8)) (fun M8 => some (I, M8))))))
theorem ok_X4_findPart_63_b131 {d : Nat} (hd : 5 ≤ d){I : mI} {L : mL} (x4 : Int32) (x8 : Int64) (s0 : Int64) {o : mI × mL} (h : f_X4_findPart_63_b131 I L x4 x8 s0 = some o) : RR mX4_findPart d 131 [some (.ref 63), none, none, none, some (.int x4), none, none, none, some (.long x8), none] [.long s0, .ref 63] I L (retQ none o.1 o.2) := by
  unfold f_X4_findPart_63_b131 at h
  refine r_putL f_X4_62 rfl rfl dX4_findPart_131 rfl rfl ?_
  replace h := lt_some h
  refine r_aload_n (i := 0) dX4_findPart_134 rfl rfl ?_
  refine r_lload dX4_findPart_135 rfl ?_
  refine r_lconst (v := 0) dX4_findPart_137 (by decide) ?_
  refine r_lcmp dX4_findPart_138 ?_
  refine r_if_le (tgt := 154) dX4_findPart_139 (by decide) (fun c => ?_) (fun c => ?_)
  · rw [if_pos c] at h
    refine r_lconst (v := 1) dX4_findPart_154 (by decide) ?_
    refine r_putL f_X4_66 rfl rfl dX4_findPart_155 rfl rfl ?_
    replace h := lt_some h
    refine r_vret dX4_findPart_158 ?_
    obtain rfl := Option.some.inj h
    exact ⟨rfl, rfl, rfl⟩
  · rw [if_neg c] at h
    refine r_ords f_X4_54 dX4_findPart_142 ?_
    refine r_iload dX4_findPart_145 rfl ?_
    obtain ⟨hb, h⟩ := ck_some h
    refine r_ordsA (inb_vp hb) dX4_findPart_147 ?_
    refine r_lload dX4_findPart_148 rfl ?_
    obtain ⟨hb, h⟩ := ck_some h
    refine r_ldiv dX4_findPart_150 (nzL_ne hb) ?_
    refine r_goto (tgt := 155) dX4_findPart_151 (by decide) ?_
    refine r_putL f_X4_66 rfl rfl dX4_findPart_155 rfl rfl ?_
    replace h := lt_some h
    refine r_vret dX4_findPart_158 ?_
    obtain rfl := Option.some.inj h
    exact ⟨rfl, rfl, rfl⟩
def f_X4_findPart_63_l27 : Nat → Int32 → Int32 → Int32 → Int64 → Int32 → mI → mL → rV
  | 0, _, _, _, _, _, _, _ => none
  | n + 1, x1, x4, x5, x6, x8, I, L => if x5 < x8 then (ck (inb x4 9) ((f_X4_commonDivisor I L x6 (ordL x4)).bind (fun r5 => if (lg_cmp r5 0) ≤ 0 then (f_X4_findPart_63_b131 I L x4 r5 0) else (ck (nzL r5) (f_X4_findPart_63_b131 I L x4 r5 (x6 / r5)))))) else (if (x8 &&& (x5 ^^^ (-1))) = 0 then ((f_J6_bitCount_0f7a4 I L x8).bind (fun r10 => ck (inb r10 9) (ck (inb ((x4 - 1) - r10) 9) (ck (inb (x8 ||| ((1 : Int32) <<< (x1 &&& 31))) 256) (ck (inb x8 256) (lt (x6 + (((ordL r10) * (ordL ((x4 - 1) - r10))) * (((I 64 (x8 ||| ((1 : Int32) <<< (x1 &&& 31))).toNatClampNeg) - (I 64 x8.toNatClampNeg)).toInt64))) (fun v11 => lt (x8 + Int32.ofInt 1) (fun v12 => f_X4_findPart_63_l27 n x1 x4 x5 v11 v12 I L)))))))) else (lt (x8 + Int32.ofInt 1) (fun v9 => f_X4_findPart_63_l27 n x1 x4 x5 x6 v9 I L)))
theorem ok_X4_findPart_63_l27 {d : Nat} (hd : 5 ≤ d) : ∀ (n : Nat) (x1 : Int32) (x4 : Int32) (x5 : Int32) (x6 : Int64) (x8 : Int32) (I : mI) (L : mL) (o : mI × mL), f_X4_findPart_63_l27 n x1 x4 x5 x6 x8 I L = some o → RR mX4_findPart d 27 [some (.ref 63), some (.int x1), none, none, some (.int x4), some (.int x5), some (.long x6), none, some (.int x8), none] [] I L (retQ none o.1 o.2) := by
  intro n
  induction n with
  | zero => intro x1 x4 x5 x6 x8 I L o h; rw [f_X4_findPart_63_l27] at h; cases h
  | succ n ih =>
    intro x1 x4 x5 x6 x8 I L o h
    rw [f_X4_findPart_63_l27] at h
    refine r_iload dX4_findPart_27 rfl ?_
    refine r_iload dX4_findPart_29 rfl ?_
    refine r_icmp_gt (tgt := 101) dX4_findPart_31 (by decide) (fun c => ?_) (fun c => ?_)
    · rw [if_pos c] at h
      refine r_lload dX4_findPart_101 rfl ?_
      refine r_ords f_X4_54 dX4_findPart_103 ?_
      refine r_iload dX4_findPart_106 rfl ?_
      obtain ⟨hb, h⟩ := ck_some h
      refine r_ordsA (inb_vp hb) dX4_findPart_108 ?_
      obtain ⟨r5, hr, h⟩ := bind_some h
      refine r_S (d' := 0) k_X4_58 dX4_findPart_109 (by omega) rfl (Nat.le_of_ble_eq_true rfl) (Nat.le_of_ble_eq_true rfl) (ok_X4_commonDivisor (Nat.le_refl _) hr) (fun v I' L' hq => ?_)
      obtain ⟨rfl, rfl, rfl⟩ := hq
      simp only [Option.toList_some, Option.toList_none, List.drop_succ_cons, List.drop_zero, List.drop_nil, List.cons_append, List.nil_append]
      refine r_lstore dX4_findPart_112 (by decide) rfl ?_
      simp only [List.set_cons_zero, List.set_cons_succ]
      refine r_aload_n (i := 0) dX4_findPart_114 rfl rfl ?_
      refine r_lload dX4_findPart_115 rfl ?_
      refine r_lconst (v := 0) dX4_findPart_117 (by decide) ?_
      refine r_lcmp dX4_findPart_118 ?_
      refine r_if_le (tgt := 130) dX4_findPart_119 (by decide) (fun c => ?_) (fun c => ?_)
      · rw [if_pos c] at h
        refine r_lconst (v := 0) dX4_findPart_130 (by decide) ?_
        exact RR.wk (ok_X4_findPart_63_b131 hd _ _ _ h) (And.intro rfl (And.intro rfl (And.intro rfl (trivial))))
      · rw [if_neg c] at h
        refine r_lload dX4_findPart_122 rfl ?_
        refine r_lload dX4_findPart_124 rfl ?_
        obtain ⟨hb, h⟩ := ck_some h
        refine r_ldiv dX4_findPart_126 (nzL_ne hb) ?_
        refine r_goto (tgt := 131) dX4_findPart_127 (by decide) ?_
        exact RR.wk (ok_X4_findPart_63_b131 hd _ _ _ h) (And.intro rfl (And.intro rfl (And.intro rfl (trivial))))
    · rw [if_neg c] at h
      refine r_iload dX4_findPart_34 rfl ?_
      refine r_iload dX4_findPart_36 rfl ?_
      refine r_iconst (v := (-1)) dX4_findPart_38 (by decide) ?_
      refine r_ixor dX4_findPart_39 ?_
      refine r_iand dX4_findPart_40 ?_
      refine r_if_ne (tgt := 95) dX4_findPart_41 (by decide) (fun c => ?_) (fun c => ?_)
      · rw [if_neg c] at h
        refine r_iinc (v := _) dX4_findPart_95 rfl rfl (by decide) rfl ?_
        simp only [List.set_cons_zero, List.set_cons_succ]
        replace h := lt_some h
        refine r_goto (tgt := 27) dX4_findPart_98 (by decide) ?_
        exact RR.wk (ih _ _ _ _ _ _ _ _ h) (And.intro rfl (And.intro rfl (And.intro rfl (And.intro rfl (And.intro rfl (And.intro rfl (trivial)))))))
      · rw [if_pos c] at h
        refine r_iload dX4_findPart_44 rfl ?_
        obtain ⟨r10, hr, h⟩ := bind_some h
        refine r_S (d' := 0) k_X4_48 dX4_findPart_46 (by omega) rfl (Nat.le_of_ble_eq_true rfl) (Nat.le_of_ble_eq_true rfl) (ok_J6_bitCount_0f7a4 (Nat.le_refl _) hr) (fun v I' L' hq => ?_)
        obtain ⟨rfl, rfl, rfl⟩ := hq
        simp only [Option.toList_some, Option.toList_none, List.drop_succ_cons, List.drop_zero, List.drop_nil, List.cons_append, List.nil_append]
        refine r_istore dX4_findPart_49 (by decide) rfl ?_
        simp only [List.set_cons_zero, List.set_cons_succ]
        refine r_lload dX4_findPart_51 rfl ?_
        refine r_ords f_X4_54 dX4_findPart_53 ?_
        refine r_iload dX4_findPart_56 rfl ?_
        obtain ⟨hb, h⟩ := ck_some h
        refine r_ordsA (inb_vp hb) dX4_findPart_58 ?_
        refine r_ords f_X4_54 dX4_findPart_59 ?_
        refine r_iload dX4_findPart_62 rfl ?_
        refine r_iconst (v := 1) dX4_findPart_64 (by decide) ?_
        refine r_isub dX4_findPart_65 ?_
        refine r_iload dX4_findPart_66 rfl ?_
        refine r_isub dX4_findPart_68 ?_
        obtain ⟨hb, h⟩ := ck_some h
        refine r_ordsA (inb_vp hb) dX4_findPart_69 ?_
        refine r_lmul dX4_findPart_70 ?_
        refine r_aload_n (i := 0) dX4_findPart_71 rfl rfl ?_
        refine r_getR f_X4_9 dX4_findPart_72 rfl rfl ?_
        refine r_iload dX4_findPart_75 rfl ?_
        refine r_iconst (v := 1) dX4_findPart_77 (by decide) ?_
        refine r_iload_n (i := 1) dX4_findPart_78 rfl rfl ?_
        refine r_ishl dX4_findPart_79 ?_
        refine r_ior dX4_findPart_80 ?_
        obtain ⟨hb, h⟩ := ck_some h
        refine r_iald rfl (inb_vp hb) dX4_findPart_81 ?_
        refine r_aload_n (i := 0) dX4_findPart_82 rfl rfl ?_
        refine r_getR f_X4_9 dX4_findPart_83 rfl rfl ?_
        refine r_iload dX4_findPart_86 rfl ?_
        obtain ⟨hb, h⟩ := ck_some h
        refine r_iald rfl (inb_vp hb) dX4_findPart_88 ?_
        refine r_isub dX4_findPart_89 ?_
        refine r_i2l dX4_findPart_90 ?_
        refine r_lmul dX4_findPart_91 ?_
        refine r_ladd dX4_findPart_92 ?_
        refine r_lstore dX4_findPart_93 (by decide) rfl ?_
        simp only [List.set_cons_zero, List.set_cons_succ]
        replace h := lt_some h
        refine r_iinc (v := _) dX4_findPart_95 rfl rfl (by decide) rfl ?_
        simp only [List.set_cons_zero, List.set_cons_succ]
        replace h := lt_some h
        refine r_goto (tgt := 27) dX4_findPart_98 (by decide) ?_
        exact RR.wk (ih _ _ _ _ _ _ _ _ h) (And.intro rfl (And.intro rfl (And.intro rfl (And.intro rfl (And.intro rfl (And.intro rfl (trivial)))))))
def f_X4_findPart_63 (I : mI) (L : mL) (a1 : Int32) (a2 : Int32) (a3 : Int32) : rV := bndV (f_X4_findTotals_63 I L a2 a3) (fun Ir1 Lr1 => (f_J6_bitCount_0f7a4 Ir1 Lr1 a2).bind (fun r3 => lt (a2 &&& (((1 : Int32) <<< (a1 &&& 31)) ^^^ (-1))) (fun v4 => f_X4_findPart_63_l27 fuel a1 r3 v4 0 0 Ir1 Lr1)))
theorem ok_X4_findPart_63 {d : Nat} (hd : 5 ≤ d) {I : mI} {L : mL} {a1 : Int32} {a2 : Int32} {a3 : Int32} {o : mI × mL} (h : f_X4_findPart_63 I L a1 a2 a3 = some o) : RR mX4_findPart d 0 [some (.ref 63), some (.int a1), some (.int a2), some (.int a3), none, none, none, none, none, none] [] I L (retQ none o.1 o.2) := by
  unfold f_X4_findPart_63 at h
  refine r_aload_n (i := 0) dX4_findPart_0 rfl rfl ?_
  refine r_iload_n (i := 2) dX4_findPart_1 rfl rfl ?_
  refine r_iload_n (i := 3) dX4_findPart_2 rfl rfl ?_
  obtain ⟨⟨Ir1, Lr1⟩, hr, h⟩ := bind_some h
  refine r_V (d' := 4) k_X4_45 dX4_findPart_3 (by omega) rfl rfl rfl (Nat.le_of_ble_eq_true rfl) (Nat.le_of_ble_eq_true rfl) (ok_X4_findTotals_63 (Nat.le_refl _) hr) (fun v I' L' hq => ?_)
  obtain ⟨rfl, rfl, rfl⟩ := hq
  simp only [Option.toList_some, Option.toList_none, List.drop_succ_cons, List.drop_zero, List.drop_nil, List.cons_append, List.nil_append]
  dsimp only at h
  refine r_iload_n (i := 2) dX4_findPart_6 rfl rfl ?_
  obtain ⟨r3, hr, h⟩ := bind_some h
  refine r_S (d' := 0) k_X4_48 dX4_findPart_7 (by omega) rfl (Nat.le_of_ble_eq_true rfl) (Nat.le_of_ble_eq_true rfl) (ok_J6_bitCount_0f7a4 (Nat.le_refl _) hr) (fun v I' L' hq => ?_)
  obtain ⟨rfl, rfl, rfl⟩ := hq
  simp only [Option.toList_some, Option.toList_none, List.drop_succ_cons, List.drop_zero, List.drop_nil, List.cons_append, List.nil_append]
  refine r_istore dX4_findPart_10 (by decide) rfl ?_
  simp only [List.set_cons_zero, List.set_cons_succ]
  refine r_iload_n (i := 2) dX4_findPart_12 rfl rfl ?_
  refine r_iconst (v := 1) dX4_findPart_13 (by decide) ?_
  refine r_iload_n (i := 1) dX4_findPart_14 rfl rfl ?_
  refine r_ishl dX4_findPart_15 ?_
  refine r_iconst (v := (-1)) dX4_findPart_16 (by decide) ?_
  refine r_ixor dX4_findPart_17 ?_
  refine r_iand dX4_findPart_18 ?_
  refine r_istore dX4_findPart_19 (by decide) rfl ?_
  simp only [List.set_cons_zero, List.set_cons_succ]
  replace h := lt_some h
  refine r_lconst (v := 0) dX4_findPart_21 (by decide) ?_
  refine r_lstore dX4_findPart_22 (by decide) rfl ?_
  simp only [List.set_cons_zero, List.set_cons_succ]
  refine r_iconst (v := 0) dX4_findPart_24 (by decide) ?_
  refine r_istore dX4_findPart_25 (by decide) rfl ?_
  simp only [List.set_cons_zero, List.set_cons_succ]
  exact RR.wk (ok_X4_findPart_63_l27 hd _ _ _ _ _ _ _ _ _ h) (And.intro rfl (And.intro rfl (And.intro rfl (And.intro rfl (And.intro rfl (And.intro rfl (trivial)))))))
def f_X10_upper_0 (I : mI) (L : mL) (a1 : Int32) (a2 : Int32) (a3 : Int32) : rL := (f_X10_isMember_0 I L a1 a2).bind (fun r1 => if r1 = 0 then (some ((-1000001), I, L)) else ((f_X7_hasCart_1 I L a3).bind (fun r2 => if r2 = 0 then (some ((-1000001), I, L)) else (bndV (f_X4_findPart_63 I L a1 a2 a3) (fun Ir3 Lr3 => some (Lr3 63 3, Ir3, Lr3))))))
theorem ok_X10_upper_0 {d : Nat} (hd : 6 ≤ d) {I : mI} {L : mL} {a1 : Int32} {a2 : Int32} {a3 : Int32} {o : Int64 × mI × mL} (h : f_X10_upper_0 I L a1 a2 a3 = some o) : RR mX10_upper d 0 [some (.ref 0), some (.int a1), some (.int a2), some (.int a3)] [] I L (retQ (some (.long o.1)) o.2.1 o.2.2) := by
  unfold f_X10_upper_0 at h
  refine r_aload_n (i := 0) dX10_upper_0 rfl rfl ?_
  refine r_iload_n (i := 1) dX10_upper_1 rfl rfl ?_
  refine r_iload_n (i := 2) dX10_upper_2 rfl rfl ?_
  obtain ⟨r1, hr, h⟩ := bind_some h
  refine r_V (d' := 1) k_X10_281 dX10_upper_3 (by omega) rfl rfl rfl (Nat.le_of_ble_eq_true rfl) (Nat.le_of_ble_eq_true rfl) (ok_X10_isMember_0 (Nat.le_refl _) hr) (fun v I' L' hq => ?_)
  obtain ⟨rfl, rfl, rfl⟩ := hq
  simp only [Option.toList_some, Option.toList_none, List.drop_succ_cons, List.drop_zero, List.drop_nil, List.cons_append, List.nil_append]
  refine r_if_eq (tgt := 20) dX10_upper_6 (by decide) (fun c => ?_) (fun c => ?_)
  · rw [if_pos c] at h
    refine r_ldc2 n_X10_284 dX10_upper_20 ?_
    refine r_lret dX10_upper_23 ?_
    obtain rfl := Option.some.inj h
    exact ⟨rfl, rfl, rfl⟩
  · rw [if_neg c] at h
    refine r_aload_n (i := 0) dX10_upper_9 rfl rfl ?_
    refine r_getR f_X10_10 dX10_upper_10 rfl rfl ?_
    refine r_iload_n (i := 3) dX10_upper_13 rfl rfl ?_
    obtain ⟨r2, hr, h⟩ := bind_some h
    refine r_V (d' := 0) k_X10_210 dX10_upper_14 (by omega) rfl rfl rfl (Nat.le_of_ble_eq_true rfl) (Nat.le_of_ble_eq_true rfl) (ok_X7_hasCart_1 (Nat.le_refl _) hr) (fun v I' L' hq => ?_)
    obtain ⟨rfl, rfl, rfl⟩ := hq
    simp only [Option.toList_some, Option.toList_none, List.drop_succ_cons, List.drop_zero, List.drop_nil, List.cons_append, List.nil_append]
    refine r_if_ne (tgt := 24) dX10_upper_17 (by decide) (fun c => ?_) (fun c => ?_)
    · rw [if_neg c] at h
      refine r_aload_n (i := 0) dX10_upper_24 rfl rfl ?_
      refine r_getR f_X10_61 dX10_upper_25 rfl rfl ?_
      refine r_iload_n (i := 1) dX10_upper_28 rfl rfl ?_
      refine r_iload_n (i := 2) dX10_upper_29 rfl rfl ?_
      refine r_iload_n (i := 3) dX10_upper_30 rfl rfl ?_
      obtain ⟨⟨Ir3, Lr3⟩, hr, h⟩ := bind_some h
      refine r_V (d' := 5) k_X10_286 dX10_upper_31 (by omega) rfl rfl rfl (Nat.le_of_ble_eq_true rfl) (Nat.le_of_ble_eq_true rfl) (ok_X4_findPart_63 (Nat.le_refl _) hr) (fun v I' L' hq => ?_)
      obtain ⟨rfl, rfl, rfl⟩ := hq
      simp only [Option.toList_some, Option.toList_none, List.drop_succ_cons, List.drop_zero, List.drop_nil, List.cons_append, List.nil_append]
      dsimp only at h
      refine r_aload_n (i := 0) dX10_upper_34 rfl rfl ?_
      refine r_getR f_X10_61 dX10_upper_35 rfl rfl ?_
      refine r_getL f_X10_289 dX10_upper_38 rfl rfl ?_
      refine r_lret dX10_upper_41 ?_
      obtain rfl := Option.some.inj h
      exact ⟨rfl, rfl, rfl⟩
    · rw [if_pos c] at h
      refine r_ldc2 n_X10_284 dX10_upper_20 ?_
      refine r_lret dX10_upper_23 ?_
      obtain rfl := Option.some.inj h
      exact ⟨rfl, rfl, rfl⟩
def f_X10_lower_0 (I : mI) (L : mL) (a1 : Int32) (a2 : Int32) (a3 : Int32) : rL := (f_X10_isMember_0 I L a1 a2).bind (fun r1 => if r1 = 0 then (some ((-1), I, L)) else ((f_X7_hasCart_1 I L a3).bind (fun r2 => if r2 = 0 then (some ((-1), I, L)) else (bndV (f_X4_findPart_63 I L a1 a2 a3) (fun Ir3 Lr3 => some (Lr3 63 4, Ir3, Lr3))))))
theorem ok_X10_lower_0 {d : Nat} (hd : 6 ≤ d) {I : mI} {L : mL} {a1 : Int32} {a2 : Int32} {a3 : Int32} {o : Int64 × mI × mL} (h : f_X10_lower_0 I L a1 a2 a3 = some o) : RR mX10_lower d 0 [some (.ref 0), some (.int a1), some (.int a2), some (.int a3)] [] I L (retQ (some (.long o.1)) o.2.1 o.2.2) := by
  unfold f_X10_lower_0 at h
  refine r_aload_n (i := 0) dX10_lower_0 rfl rfl ?_
  refine r_iload_n (i := 1) dX10_lower_1 rfl rfl ?_
  refine r_iload_n (i := 2) dX10_lower_2 rfl rfl ?_
  obtain ⟨r1, hr, h⟩ := bind_some h
  refine r_V (d' := 1) k_X10_281 dX10_lower_3 (by omega) rfl rfl rfl (Nat.le_of_ble_eq_true rfl) (Nat.le_of_ble_eq_true rfl) (ok_X10_isMember_0 (Nat.le_refl _) hr) (fun v I' L' hq => ?_)
  obtain ⟨rfl, rfl, rfl⟩ := hq
  simp only [Option.toList_some, Option.toList_none, List.drop_succ_cons, List.drop_zero, List.drop_nil, List.cons_append, List.nil_append]
  refine r_if_eq (tgt := 20) dX10_lower_6 (by decide) (fun c => ?_) (fun c => ?_)
  · rw [if_pos c] at h
    refine r_ldc2 n_X10_293 dX10_lower_20 ?_
    refine r_lret dX10_lower_23 ?_
    obtain rfl := Option.some.inj h
    exact ⟨rfl, rfl, rfl⟩
  · rw [if_neg c] at h
    refine r_aload_n (i := 0) dX10_lower_9 rfl rfl ?_
    refine r_getR f_X10_10 dX10_lower_10 rfl rfl ?_
    refine r_iload_n (i := 3) dX10_lower_13 rfl rfl ?_
    obtain ⟨r2, hr, h⟩ := bind_some h
    refine r_V (d' := 0) k_X10_210 dX10_lower_14 (by omega) rfl rfl rfl (Nat.le_of_ble_eq_true rfl) (Nat.le_of_ble_eq_true rfl) (ok_X7_hasCart_1 (Nat.le_refl _) hr) (fun v I' L' hq => ?_)
    obtain ⟨rfl, rfl, rfl⟩ := hq
    simp only [Option.toList_some, Option.toList_none, List.drop_succ_cons, List.drop_zero, List.drop_nil, List.cons_append, List.nil_append]
    refine r_if_ne (tgt := 24) dX10_lower_17 (by decide) (fun c => ?_) (fun c => ?_)
    · rw [if_neg c] at h
      refine r_aload_n (i := 0) dX10_lower_24 rfl rfl ?_
      refine r_getR f_X10_61 dX10_lower_25 rfl rfl ?_
      refine r_iload_n (i := 1) dX10_lower_28 rfl rfl ?_
      refine r_iload_n (i := 2) dX10_lower_29 rfl rfl ?_
      refine r_iload_n (i := 3) dX10_lower_30 rfl rfl ?_
      obtain ⟨⟨Ir3, Lr3⟩, hr, h⟩ := bind_some h
      refine r_V (d' := 5) k_X10_286 dX10_lower_31 (by omega) rfl rfl rfl (Nat.le_of_ble_eq_true rfl) (Nat.le_of_ble_eq_true rfl) (ok_X4_findPart_63 (Nat.le_refl _) hr) (fun v I' L' hq => ?_)
      obtain ⟨rfl, rfl, rfl⟩ := hq
      simp only [Option.toList_some, Option.toList_none, List.drop_succ_cons, List.drop_zero, List.drop_nil, List.cons_append, List.nil_append]
      dsimp only at h
      refine r_aload_n (i := 0) dX10_lower_34 rfl rfl ?_
      refine r_getR f_X10_61 dX10_lower_35 rfl rfl ?_
      refine r_getL f_X10_295 dX10_lower_38 rfl rfl ?_
      refine r_lret dX10_lower_41 ?_
      obtain rfl := Option.some.inj h
      exact ⟨rfl, rfl, rfl⟩
    · rw [if_pos c] at h
      refine r_ldc2 n_X10_293 dX10_lower_20 ?_
      refine r_lret dX10_lower_23 ?_
      obtain rfl := Option.some.inj h
      exact ⟨rfl, rfl, rfl⟩
def f_X7_wouldBeLighter_1_l5 (I : mI) (L : mL) : Nat → Int32 → Int32 → Int32 → Int32 → Option Int32
  | 0, _, _, _, _ => none
  | n + 1, x1, x2, x3, x4 => if (I 1 11) ≤ x4 then (some x3) else (ck (inb x4 6) (lt (I 14 x4.toNatClampNeg) (fun v1 => ck (inb x4 6) (if (I 15 x4.toNatClampNeg) = x1 then (ck (inb x1 8) ((f_X3_weight I L (I 3 x1.toNatClampNeg) x2 v1).bind (fun r3 => (f_X7_weightAt_1 I L x1 v1).bind (fun r4 => if r4 ≤ r3 then (lt (x4 + Int32.ofInt 1) (fun v5 => f_X7_wouldBeLighter_1_l5 I L n x1 x2 x3 v5)) else (lt (x3 ||| ((1 : Int32) <<< (x4 &&& 31))) (fun v6 => lt (x4 + Int32.ofInt 1) (fun v7 => f_X7_wouldBeLighter_1_l5 I L n x1 x2 v6 v7))))))) else (lt (x4 + Int32.ofInt 1) (fun v2 => f_X7_wouldBeLighter_1_l5 I L n x1 x2 x3 v2))))))
theorem ok_X7_wouldBeLighter_1_l5 {d : Nat} (hd : 3 ≤ d){I : mI} {L : mL} : ∀ (n : Nat) (x1 : Int32) (x2 : Int32) (x3 : Int32) (x4 : Int32) (o : Int32), f_X7_wouldBeLighter_1_l5 I L n x1 x2 x3 x4 = some o → RR mX7_wouldBeLighter d 5 [some (.ref 1), some (.int x1), some (.int x2), some (.int x3), some (.int x4), none] [] I L (retQ (some (.int o)) I L) := by
  intro n
  induction n with
  | zero => intro x1 x2 x3 x4 o h; rw [f_X7_wouldBeLighter_1_l5] at h; cases h
  | succ n ih =>
    intro x1 x2 x3 x4 o h
    rw [f_X7_wouldBeLighter_1_l5] at h
    refine r_iload dX7_wouldBeLighter_5 rfl ?_
    refine r_aload_n (i := 0) dX7_wouldBeLighter_7 rfl rfl ?_
    refine r_getI f_X7_75 dX7_wouldBeLighter_8 rfl rfl ?_
    refine r_icmp_ge (tgt := 72) dX7_wouldBeLighter_11 (by decide) (fun c => ?_) (fun c => ?_)
    · rw [if_pos c] at h
      refine r_iload_n (i := 3) dX7_wouldBeLighter_72 rfl rfl ?_
      refine r_iret (by first | rfl | decide) dX7_wouldBeLighter_73 ?_
      obtain rfl := Option.some.inj h
      exact ⟨rfl, rfl, rfl⟩
    · rw [if_neg c] at h
      refine r_aload_n (i := 0) dX7_wouldBeLighter_14 rfl rfl ?_
      refine r_getR f_X7_37 dX7_wouldBeLighter_15 rfl rfl ?_
      refine r_iload dX7_wouldBeLighter_18 rfl ?_
      obtain ⟨hb, h⟩ := ck_some h
      refine r_iald rfl (inb_vp hb) dX7_wouldBeLighter_20 ?_
      refine r_istore dX7_wouldBeLighter_21 (by decide) rfl ?_
      simp only [List.set_cons_zero, List.set_cons_succ]
      replace h := lt_some h
      refine r_aload_n (i := 0) dX7_wouldBeLighter_23 rfl rfl ?_
      refine r_getR f_X7_40 dX7_wouldBeLighter_24 rfl rfl ?_
      refine r_iload dX7_wouldBeLighter_27 rfl ?_
      obtain ⟨hb, h⟩ := ck_some h
      refine r_iald rfl (inb_vp hb) dX7_wouldBeLighter_29 ?_
      refine r_iload_n (i := 1) dX7_wouldBeLighter_30 rfl rfl ?_
      refine r_icmp_ne (tgt := 66) dX7_wouldBeLighter_31 (by decide) (fun c => ?_) (fun c => ?_)
      · rw [if_neg c] at h
        refine r_iinc (v := _) dX7_wouldBeLighter_66 rfl rfl (by decide) rfl ?_
        simp only [List.set_cons_zero, List.set_cons_succ]
        replace h := lt_some h
        refine r_goto (tgt := 5) dX7_wouldBeLighter_69 (by decide) ?_
        exact RR.wk (ih _ _ _ _ _ h) (And.intro rfl (And.intro rfl (And.intro rfl (And.intro rfl (And.intro rfl (trivial))))))
      · rw [if_pos c] at h
        refine r_aload_n (i := 0) dX7_wouldBeLighter_34 rfl rfl ?_
        refine r_getR f_X7_12 dX7_wouldBeLighter_35 rfl rfl ?_
        refine r_getR f_X7_51 dX7_wouldBeLighter_38 rfl rfl ?_
        refine r_iload_n (i := 1) dX7_wouldBeLighter_41 rfl rfl ?_
        obtain ⟨hb, h⟩ := ck_some h
        refine r_iald rfl (inb_vp hb) dX7_wouldBeLighter_42 ?_
        refine r_iload_n (i := 2) dX7_wouldBeLighter_43 rfl rfl ?_
        refine r_iload dX7_wouldBeLighter_44 rfl ?_
        obtain ⟨r3, hr, h⟩ := bind_some h
        refine r_S (d' := 0) k_X7_61 dX7_wouldBeLighter_46 (by omega) rfl (Nat.le_of_ble_eq_true rfl) (Nat.le_of_ble_eq_true rfl) (ok_X3_weight (Nat.le_refl _) hr) (fun v I' L' hq => ?_)
        obtain ⟨rfl, rfl, rfl⟩ := hq
        simp only [Option.toList_some, Option.toList_none, List.drop_succ_cons, List.drop_zero, List.drop_nil, List.cons_append, List.nil_append]
        refine r_aload_n (i := 0) dX7_wouldBeLighter_49 rfl rfl ?_
        refine r_iload_n (i := 1) dX7_wouldBeLighter_50 rfl rfl ?_
        refine r_iload dX7_wouldBeLighter_51 rfl ?_
        obtain ⟨r4, hr, h⟩ := bind_some h
        refine r_V (d' := 2) k_X7_65 dX7_wouldBeLighter_53 (by omega) rfl rfl rfl (Nat.le_of_ble_eq_true rfl) (Nat.le_of_ble_eq_true rfl) (ok_X7_weightAt_1 (Nat.le_refl _) hr) (fun v I' L' hq => ?_)
        obtain ⟨rfl, rfl, rfl⟩ := hq
        simp only [Option.toList_some, Option.toList_none, List.drop_succ_cons, List.drop_zero, List.drop_nil, List.cons_append, List.nil_append]
        refine r_icmp_ge (tgt := 66) dX7_wouldBeLighter_56 (by decide) (fun c => ?_) (fun c => ?_)
        · rw [if_pos c] at h
          refine r_iinc (v := _) dX7_wouldBeLighter_66 rfl rfl (by decide) rfl ?_
          simp only [List.set_cons_zero, List.set_cons_succ]
          replace h := lt_some h
          refine r_goto (tgt := 5) dX7_wouldBeLighter_69 (by decide) ?_
          exact RR.wk (ih _ _ _ _ _ h) (And.intro rfl (And.intro rfl (And.intro rfl (And.intro rfl (And.intro rfl (trivial))))))
        · rw [if_neg c] at h
          refine r_iload_n (i := 3) dX7_wouldBeLighter_59 rfl rfl ?_
          refine r_iconst (v := 1) dX7_wouldBeLighter_60 (by decide) ?_
          refine r_iload dX7_wouldBeLighter_61 rfl ?_
          refine r_ishl dX7_wouldBeLighter_63 ?_
          refine r_ior dX7_wouldBeLighter_64 ?_
          refine r_istore_n (i := 3) dX7_wouldBeLighter_65 rfl (by decide) rfl ?_
          simp only [List.set_cons_zero, List.set_cons_succ]
          replace h := lt_some h
          refine r_iinc (v := _) dX7_wouldBeLighter_66 rfl rfl (by decide) rfl ?_
          simp only [List.set_cons_zero, List.set_cons_succ]
          replace h := lt_some h
          refine r_goto (tgt := 5) dX7_wouldBeLighter_69 (by decide) ?_
          exact RR.wk (ih _ _ _ _ _ h) (And.intro rfl (And.intro rfl (And.intro rfl (And.intro rfl (And.intro rfl (trivial))))))
def f_X7_wouldBeLighter_1 (I : mI) (L : mL) (a1 : Int32) (a2 : Int32) : Option Int32 := f_X7_wouldBeLighter_1_l5 I L fuel a1 a2 0 0
theorem ok_X7_wouldBeLighter_1 {d : Nat} (hd : 3 ≤ d) {I : mI} {L : mL} {a1 : Int32} {a2 : Int32} {o : Int32} (h : f_X7_wouldBeLighter_1 I L a1 a2 = some o) : RR mX7_wouldBeLighter d 0 [some (.ref 1), some (.int a1), some (.int a2), none, none, none] [] I L (retQ (some (.int o)) I L) := by
  unfold f_X7_wouldBeLighter_1 at h
  refine r_iconst (v := 0) dX7_wouldBeLighter_0 (by decide) ?_
  refine r_istore_n (i := 3) dX7_wouldBeLighter_1 rfl (by decide) rfl ?_
  simp only [List.set_cons_zero, List.set_cons_succ]
  refine r_iconst (v := 0) dX7_wouldBeLighter_2 (by decide) ?_
  refine r_istore dX7_wouldBeLighter_3 (by decide) rfl ?_
  simp only [List.set_cons_zero, List.set_cons_succ]
  exact RR.wk (ok_X7_wouldBeLighter_1_l5 hd _ _ _ _ _ _ h) (And.intro rfl (And.intro rfl (And.intro rfl (And.intro rfl (And.intro rfl (trivial))))))
def f_X7_wouldFall_1_l5 (I : mI) (L : mL) : Nat → Int32 → Int32 → Int32 → Int32 → Option Int32
  | 0, _, _, _, _ => none
  | n + 1, x1, x2, x3, x4 => if (I 1 10) ≤ x4 then (some x3) else (ck (inb x4 6) (if (I 12 x4.toNatClampNeg) = x1 then (ck (inb x4 6) (if (I 13 x4.toNatClampNeg) ≤ 0 then (lt (x4 + Int32.ofInt 1) (fun v2 => f_X7_wouldFall_1_l5 I L n x1 x2 x3 v2)) else (ck (inb x1 8) (ck (inb x4 6) ((f_X3_weight I L (I 3 x1.toNatClampNeg) x2 (I 10 x4.toNatClampNeg)).bind (fun r3 => ck (inb x4 6) (if r3 ≤ (I 13 x4.toNatClampNeg) then (lt (x4 + Int32.ofInt 1) (fun v4 => f_X7_wouldFall_1_l5 I L n x1 x2 x3 v4)) else (lt (x3 ||| ((1 : Int32) <<< (x4 &&& 31))) (fun v5 => lt (x4 + Int32.ofInt 1) (fun v6 => f_X7_wouldFall_1_l5 I L n x1 x2 v5 v6)))))))))) else (lt (x4 + Int32.ofInt 1) (fun v1 => f_X7_wouldFall_1_l5 I L n x1 x2 x3 v1))))
theorem ok_X7_wouldFall_1_l5 {d : Nat} (hd : 1 ≤ d){I : mI} {L : mL} : ∀ (n : Nat) (x1 : Int32) (x2 : Int32) (x3 : Int32) (x4 : Int32) (o : Int32), f_X7_wouldFall_1_l5 I L n x1 x2 x3 x4 = some o → RR mX7_wouldFall d 5 [some (.ref 1), some (.int x1), some (.int x2), some (.int x3), some (.int x4)] [] I L (retQ (some (.int o)) I L) := by
  intro n
  induction n with
  | zero => intro x1 x2 x3 x4 o h; rw [f_X7_wouldFall_1_l5] at h; cases h
  | succ n ih =>
    intro x1 x2 x3 x4 o h
    rw [f_X7_wouldFall_1_l5] at h
    refine r_iload dX7_wouldFall_5 rfl ?_
    refine r_aload_n (i := 0) dX7_wouldFall_7 rfl rfl ?_
    refine r_getI f_X7_72 dX7_wouldFall_8 rfl rfl ?_
    refine r_icmp_ge (tgt := 78) dX7_wouldFall_11 (by decide) (fun c => ?_) (fun c => ?_)
    · rw [if_pos c] at h
      refine r_iload_n (i := 3) dX7_wouldFall_78 rfl rfl ?_
      refine r_iret (by first | rfl | decide) dX7_wouldFall_79 ?_
      obtain rfl := Option.some.inj h
      exact ⟨rfl, rfl, rfl⟩
    · rw [if_neg c] at h
      refine r_aload_n (i := 0) dX7_wouldFall_14 rfl rfl ?_
      refine r_getR f_X7_31 dX7_wouldFall_15 rfl rfl ?_
      refine r_iload dX7_wouldFall_18 rfl ?_
      obtain ⟨hb, h⟩ := ck_some h
      refine r_iald rfl (inb_vp hb) dX7_wouldFall_20 ?_
      refine r_iload_n (i := 1) dX7_wouldFall_21 rfl rfl ?_
      refine r_icmp_ne (tgt := 72) dX7_wouldFall_22 (by decide) (fun c => ?_) (fun c => ?_)
      · rw [if_neg c] at h
        refine r_iinc (v := _) dX7_wouldFall_72 rfl rfl (by decide) rfl ?_
        simp only [List.set_cons_zero, List.set_cons_succ]
        replace h := lt_some h
        refine r_goto (tgt := 5) dX7_wouldFall_75 (by decide) ?_
        exact RR.wk (ih _ _ _ _ _ h) (And.intro rfl (And.intro rfl (And.intro rfl (And.intro rfl (And.intro rfl (trivial))))))
      · rw [if_pos c] at h
        refine r_aload_n (i := 0) dX7_wouldFall_25 rfl rfl ?_
        refine r_getR f_X7_34 dX7_wouldFall_26 rfl rfl ?_
        refine r_iload dX7_wouldFall_29 rfl ?_
        obtain ⟨hb, h⟩ := ck_some h
        refine r_iald rfl (inb_vp hb) dX7_wouldFall_31 ?_
        refine r_if_le (tgt := 72) dX7_wouldFall_32 (by decide) (fun c => ?_) (fun c => ?_)
        · rw [if_pos c] at h
          refine r_iinc (v := _) dX7_wouldFall_72 rfl rfl (by decide) rfl ?_
          simp only [List.set_cons_zero, List.set_cons_succ]
          replace h := lt_some h
          refine r_goto (tgt := 5) dX7_wouldFall_75 (by decide) ?_
          exact RR.wk (ih _ _ _ _ _ h) (And.intro rfl (And.intro rfl (And.intro rfl (And.intro rfl (And.intro rfl (trivial))))))
        · rw [if_neg c] at h
          refine r_aload_n (i := 0) dX7_wouldFall_35 rfl rfl ?_
          refine r_getR f_X7_12 dX7_wouldFall_36 rfl rfl ?_
          refine r_getR f_X7_51 dX7_wouldFall_39 rfl rfl ?_
          refine r_iload_n (i := 1) dX7_wouldFall_42 rfl rfl ?_
          obtain ⟨hb, h⟩ := ck_some h
          refine r_iald rfl (inb_vp hb) dX7_wouldFall_43 ?_
          refine r_iload_n (i := 2) dX7_wouldFall_44 rfl rfl ?_
          refine r_aload_n (i := 0) dX7_wouldFall_45 rfl rfl ?_
          refine r_getR f_X7_25 dX7_wouldFall_46 rfl rfl ?_
          refine r_iload dX7_wouldFall_49 rfl ?_
          obtain ⟨hb, h⟩ := ck_some h
          refine r_iald rfl (inb_vp hb) dX7_wouldFall_51 ?_
          obtain ⟨r3, hr, h⟩ := bind_some h
          refine r_S (d' := 0) k_X7_61 dX7_wouldFall_52 (by omega) rfl (Nat.le_of_ble_eq_true rfl) (Nat.le_of_ble_eq_true rfl) (ok_X3_weight (Nat.le_refl _) hr) (fun v I' L' hq => ?_)
          obtain ⟨rfl, rfl, rfl⟩ := hq
          simp only [Option.toList_some, Option.toList_none, List.drop_succ_cons, List.drop_zero, List.drop_nil, List.cons_append, List.nil_append]
          refine r_aload_n (i := 0) dX7_wouldFall_55 rfl rfl ?_
          refine r_getR f_X7_34 dX7_wouldFall_56 rfl rfl ?_
          refine r_iload dX7_wouldFall_59 rfl ?_
          obtain ⟨hb, h⟩ := ck_some h
          refine r_iald rfl (inb_vp hb) dX7_wouldFall_61 ?_
          refine r_icmp_le (tgt := 72) dX7_wouldFall_62 (by decide) (fun c => ?_) (fun c => ?_)
          · rw [if_pos c] at h
            refine r_iinc (v := _) dX7_wouldFall_72 rfl rfl (by decide) rfl ?_
            simp only [List.set_cons_zero, List.set_cons_succ]
            replace h := lt_some h
            refine r_goto (tgt := 5) dX7_wouldFall_75 (by decide) ?_
            exact RR.wk (ih _ _ _ _ _ h) (And.intro rfl (And.intro rfl (And.intro rfl (And.intro rfl (And.intro rfl (trivial))))))
          · rw [if_neg c] at h
            refine r_iload_n (i := 3) dX7_wouldFall_65 rfl rfl ?_
            refine r_iconst (v := 1) dX7_wouldFall_66 (by decide) ?_
            refine r_iload dX7_wouldFall_67 rfl ?_
            refine r_ishl dX7_wouldFall_69 ?_
            refine r_ior dX7_wouldFall_70 ?_
            refine r_istore_n (i := 3) dX7_wouldFall_71 rfl (by decide) rfl ?_
            simp only [List.set_cons_zero, List.set_cons_succ]
            replace h := lt_some h
            refine r_iinc (v := _) dX7_wouldFall_72 rfl rfl (by decide) rfl ?_
            simp only [List.set_cons_zero, List.set_cons_succ]
            replace h := lt_some h
            refine r_goto (tgt := 5) dX7_wouldFall_75 (by decide) ?_
            exact RR.wk (ih _ _ _ _ _ h) (And.intro rfl (And.intro rfl (And.intro rfl (And.intro rfl (And.intro rfl (trivial))))))
def f_X7_wouldFall_1 (I : mI) (L : mL) (a1 : Int32) (a2 : Int32) : Option Int32 := f_X7_wouldFall_1_l5 I L fuel a1 a2 0 0
theorem ok_X7_wouldFall_1 {d : Nat} (hd : 1 ≤ d) {I : mI} {L : mL} {a1 : Int32} {a2 : Int32} {o : Int32} (h : f_X7_wouldFall_1 I L a1 a2 = some o) : RR mX7_wouldFall d 0 [some (.ref 1), some (.int a1), some (.int a2), none, none] [] I L (retQ (some (.int o)) I L) := by
  unfold f_X7_wouldFall_1 at h
  refine r_iconst (v := 0) dX7_wouldFall_0 (by decide) ?_
  refine r_istore_n (i := 3) dX7_wouldFall_1 rfl (by decide) rfl ?_
  simp only [List.set_cons_zero, List.set_cons_succ]
  refine r_iconst (v := 0) dX7_wouldFall_2 (by decide) ?_
  refine r_istore dX7_wouldFall_3 (by decide) rfl ?_
  simp only [List.set_cons_zero, List.set_cons_succ]
  exact RR.wk (ok_X7_wouldFall_1_l5 hd _ _ _ _ _ _ h) (And.intro rfl (And.intro rfl (And.intro rfl (And.intro rfl (And.intro rfl (trivial))))))
def f_X10_change_0 (I : mI) (L : mL) (a1 : Int32) (a2 : Int32) (a3 : Int32) : Option Int32 := (f_X3_hasParish_2 I L a1).bind (fun r1 => if r1 = 0 then (some (-1)) else ((f_X10_within I L a2 1 9).bind (fun r2 => if r2 = 0 then (some (-1)) else ((f_X10_within I L a3 0 1).bind (fun r3 => if r3 = 0 then (some (-1)) else (if a3 = 0 then ((f_X7_wouldFall_1 I L a1 a2).bind (fun r5 => some r5)) else ((f_X7_wouldBeLighter_1 I L a1 a2).bind (fun r4 => some r4))))))))
theorem ok_X10_change_0 {d : Nat} (hd : 4 ≤ d) {I : mI} {L : mL} {a1 : Int32} {a2 : Int32} {a3 : Int32} {o : Int32} (h : f_X10_change_0 I L a1 a2 a3 = some o) : RR mX10_change d 0 [some (.ref 0), some (.int a1), some (.int a2), some (.int a3)] [] I L (retQ (some (.int o)) I L) := by
  unfold f_X10_change_0 at h
  refine r_aload_n (i := 0) dX10_change_0 rfl rfl ?_
  refine r_getR f_X10_10 dX10_change_1 rfl rfl ?_
  refine r_getR f_X10_76 dX10_change_4 rfl rfl ?_
  refine r_iload_n (i := 1) dX10_change_7 rfl rfl ?_
  obtain ⟨r1, hr, h⟩ := bind_some h
  refine r_V (d' := 0) k_X10_90 dX10_change_8 (by omega) rfl rfl rfl (Nat.le_of_ble_eq_true rfl) (Nat.le_of_ble_eq_true rfl) (ok_X3_hasParish_2 (Nat.le_refl _) hr) (fun v I' L' hq => ?_)
  obtain ⟨rfl, rfl, rfl⟩ := hq
  simp only [Option.toList_some, Option.toList_none, List.drop_succ_cons, List.drop_zero, List.drop_nil, List.cons_append, List.nil_append]
  refine r_if_eq (tgt := 33) dX10_change_11 (by decide) (fun c => ?_) (fun c => ?_)
  · rw [if_pos c] at h
    refine r_iconst (v := (-1)) dX10_change_33 (by decide) ?_
    refine r_iret (by first | rfl | decide) dX10_change_34 ?_
    obtain rfl := Option.some.inj h
    exact ⟨rfl, rfl, rfl⟩
  · rw [if_neg c] at h
    refine r_iload_n (i := 2) dX10_change_14 rfl rfl ?_
    refine r_iconst (v := 1) dX10_change_15 (by decide) ?_
    refine r_bipush (v := 9) dX10_change_16 (by decide) ?_
    obtain ⟨r2, hr, h⟩ := bind_some h
    refine r_S (d' := 0) k_X10_72 dX10_change_18 (by omega) rfl (Nat.le_of_ble_eq_true rfl) (Nat.le_of_ble_eq_true rfl) (ok_X10_within (Nat.le_refl _) hr) (fun v I' L' hq => ?_)
    obtain ⟨rfl, rfl, rfl⟩ := hq
    simp only [Option.toList_some, Option.toList_none, List.drop_succ_cons, List.drop_zero, List.drop_nil, List.cons_append, List.nil_append]
    refine r_if_eq (tgt := 33) dX10_change_21 (by decide) (fun c => ?_) (fun c => ?_)
    · rw [if_pos c] at h
      refine r_iconst (v := (-1)) dX10_change_33 (by decide) ?_
      refine r_iret (by first | rfl | decide) dX10_change_34 ?_
      obtain rfl := Option.some.inj h
      exact ⟨rfl, rfl, rfl⟩
    · rw [if_neg c] at h
      refine r_iload_n (i := 3) dX10_change_24 rfl rfl ?_
      refine r_iconst (v := 0) dX10_change_25 (by decide) ?_
      refine r_iconst (v := 1) dX10_change_26 (by decide) ?_
      obtain ⟨r3, hr, h⟩ := bind_some h
      refine r_S (d' := 0) k_X10_72 dX10_change_27 (by omega) rfl (Nat.le_of_ble_eq_true rfl) (Nat.le_of_ble_eq_true rfl) (ok_X10_within (Nat.le_refl _) hr) (fun v I' L' hq => ?_)
      obtain ⟨rfl, rfl, rfl⟩ := hq
      simp only [Option.toList_some, Option.toList_none, List.drop_succ_cons, List.drop_zero, List.drop_nil, List.cons_append, List.nil_append]
      refine r_if_ne (tgt := 35) dX10_change_30 (by decide) (fun c => ?_) (fun c => ?_)
      · rw [if_neg c] at h
        refine r_iload_n (i := 3) dX10_change_35 rfl rfl ?_
        refine r_if_ne (tgt := 51) dX10_change_36 (by decide) (fun c => ?_) (fun c => ?_)
        · rw [if_neg c] at h
          refine r_aload_n (i := 0) dX10_change_51 rfl rfl ?_
          refine r_getR f_X10_10 dX10_change_52 rfl rfl ?_
          refine r_iload_n (i := 1) dX10_change_55 rfl rfl ?_
          refine r_iload_n (i := 2) dX10_change_56 rfl rfl ?_
          obtain ⟨r4, hr, h⟩ := bind_some h
          refine r_V (d' := 3) k_X10_301 dX10_change_57 (by omega) rfl rfl rfl (Nat.le_of_ble_eq_true rfl) (Nat.le_of_ble_eq_true rfl) (ok_X7_wouldBeLighter_1 (Nat.le_refl _) hr) (fun v I' L' hq => ?_)
          obtain ⟨rfl, rfl, rfl⟩ := hq
          simp only [Option.toList_some, Option.toList_none, List.drop_succ_cons, List.drop_zero, List.drop_nil, List.cons_append, List.nil_append]
          refine r_iret (by first | rfl | decide) dX10_change_60 ?_
          obtain rfl := Option.some.inj h
          exact ⟨rfl, rfl, rfl⟩
        · rw [if_pos c] at h
          refine r_aload_n (i := 0) dX10_change_39 rfl rfl ?_
          refine r_getR f_X10_10 dX10_change_40 rfl rfl ?_
          refine r_iload_n (i := 1) dX10_change_43 rfl rfl ?_
          refine r_iload_n (i := 2) dX10_change_44 rfl rfl ?_
          obtain ⟨r5, hr, h⟩ := bind_some h
          refine r_V (d' := 1) k_X10_298 dX10_change_45 (by omega) rfl rfl rfl (Nat.le_of_ble_eq_true rfl) (Nat.le_of_ble_eq_true rfl) (ok_X7_wouldFall_1 (Nat.le_refl _) hr) (fun v I' L' hq => ?_)
          obtain ⟨rfl, rfl, rfl⟩ := hq
          simp only [Option.toList_some, Option.toList_none, List.drop_succ_cons, List.drop_zero, List.drop_nil, List.cons_append, List.nil_append]
          refine r_goto (tgt := 60) dX10_change_48 (by decide) ?_
          refine r_iret (by first | rfl | decide) dX10_change_60 ?_
          obtain rfl := Option.some.inj h
          exact ⟨rfl, rfl, rfl⟩
      · rw [if_pos c] at h
        refine r_iconst (v := (-1)) dX10_change_33 (by decide) ?_
        refine r_iret (by first | rfl | decide) dX10_change_34 ?_
        obtain rfl := Option.some.inj h
        exact ⟨rfl, rfl, rfl⟩
def f_X10_well_0 (I : mI) (L : mL) (a1 : Int32) (a2 : Int32) : Option Int32 := (f_X3_hasParish_2 I L a1).bind (fun r1 => if r1 = 0 then (some (-1)) else ((f_X10_within I L a2 1 999).bind (fun r2 => if r2 = 0 then (some (-1)) else (ck (inb a1 8) (if (I 3 a1.toNatClampNeg) = 2 then (some (-4)) else ((f_X7_weightAt_1 I L a1 1).bind (fun r3 => some (a2 * r3))))))))
theorem ok_X10_well_0 {d : Nat} (hd : 3 ≤ d) {I : mI} {L : mL} {a1 : Int32} {a2 : Int32} {o : Int32} (h : f_X10_well_0 I L a1 a2 = some o) : RR mX10_well d 0 [some (.ref 0), some (.int a1), some (.int a2)] [] I L (retQ (some (.int o)) I L) := by
  unfold f_X10_well_0 at h
  refine r_aload_n (i := 0) dX10_well_0 rfl rfl ?_
  refine r_getR f_X10_10 dX10_well_1 rfl rfl ?_
  refine r_getR f_X10_76 dX10_well_4 rfl rfl ?_
  refine r_iload_n (i := 1) dX10_well_7 rfl rfl ?_
  obtain ⟨r1, hr, h⟩ := bind_some h
  refine r_V (d' := 0) k_X10_90 dX10_well_8 (by omega) rfl rfl rfl (Nat.le_of_ble_eq_true rfl) (Nat.le_of_ble_eq_true rfl) (ok_X3_hasParish_2 (Nat.le_refl _) hr) (fun v I' L' hq => ?_)
  obtain ⟨rfl, rfl, rfl⟩ := hq
  simp only [Option.toList_some, Option.toList_none, List.drop_succ_cons, List.drop_zero, List.drop_nil, List.cons_append, List.nil_append]
  refine r_if_eq (tgt := 25) dX10_well_11 (by decide) (fun c => ?_) (fun c => ?_)
  · rw [if_pos c] at h
    refine r_iconst (v := (-1)) dX10_well_25 (by decide) ?_
    refine r_iret (by first | rfl | decide) dX10_well_26 ?_
    obtain rfl := Option.some.inj h
    exact ⟨rfl, rfl, rfl⟩
  · rw [if_neg c] at h
    refine r_iload_n (i := 2) dX10_well_14 rfl rfl ?_
    refine r_iconst (v := 1) dX10_well_15 (by decide) ?_
    refine r_sipush (v := 999) dX10_well_16 (by decide) ?_
    obtain ⟨r2, hr, h⟩ := bind_some h
    refine r_S (d' := 0) k_X10_72 dX10_well_19 (by omega) rfl (Nat.le_of_ble_eq_true rfl) (Nat.le_of_ble_eq_true rfl) (ok_X10_within (Nat.le_refl _) hr) (fun v I' L' hq => ?_)
    obtain ⟨rfl, rfl, rfl⟩ := hq
    simp only [Option.toList_some, Option.toList_none, List.drop_succ_cons, List.drop_zero, List.drop_nil, List.cons_append, List.nil_append]
    refine r_if_ne (tgt := 27) dX10_well_22 (by decide) (fun c => ?_) (fun c => ?_)
    · rw [if_neg c] at h
      refine r_aload_n (i := 0) dX10_well_27 rfl rfl ?_
      refine r_getR f_X10_10 dX10_well_28 rfl rfl ?_
      refine r_getR f_X10_76 dX10_well_31 rfl rfl ?_
      refine r_getR f_X10_143 dX10_well_34 rfl rfl ?_
      refine r_iload_n (i := 1) dX10_well_37 rfl rfl ?_
      obtain ⟨hb, h⟩ := ck_some h
      refine r_iald rfl (inb_vp hb) dX10_well_38 ?_
      refine r_iconst (v := 2) dX10_well_39 (by decide) ?_
      refine r_icmp_ne (tgt := 46) dX10_well_40 (by decide) (fun c => ?_) (fun c => ?_)
      · rw [if_neg c] at h
        refine r_iload_n (i := 2) dX10_well_46 rfl rfl ?_
        refine r_aload_n (i := 0) dX10_well_47 rfl rfl ?_
        refine r_getR f_X10_10 dX10_well_48 rfl rfl ?_
        refine r_iload_n (i := 1) dX10_well_51 rfl rfl ?_
        refine r_iconst (v := 1) dX10_well_52 (by decide) ?_
        obtain ⟨r3, hr, h⟩ := bind_some h
        refine r_V (d' := 2) k_X10_171 dX10_well_53 (by omega) rfl rfl rfl (Nat.le_of_ble_eq_true rfl) (Nat.le_of_ble_eq_true rfl) (ok_X7_weightAt_1 (Nat.le_refl _) hr) (fun v I' L' hq => ?_)
        obtain ⟨rfl, rfl, rfl⟩ := hq
        simp only [Option.toList_some, Option.toList_none, List.drop_succ_cons, List.drop_zero, List.drop_nil, List.cons_append, List.nil_append]
        refine r_imul dX10_well_56 ?_
        refine r_iret (by first | rfl | decide) dX10_well_57 ?_
        obtain rfl := Option.some.inj h
        exact ⟨rfl, rfl, rfl⟩
      · rw [if_pos c] at h
        refine r_bipush (v := (-4)) dX10_well_43 (by decide) ?_
        refine r_iret (by first | rfl | decide) dX10_well_45 ?_
        obtain rfl := Option.some.inj h
        exact ⟨rfl, rfl, rfl⟩
    · rw [if_pos c] at h
      refine r_iconst (v := (-1)) dX10_well_25 (by decide) ?_
      refine r_iret (by first | rfl | decide) dX10_well_26 ?_
      obtain rfl := Option.some.inj h
      exact ⟨rfl, rfl, rfl⟩
def f_X3_copyFrom_17_2 (I : mI) (L : mL) : rV := ck (cpk 0 0 8 8 8) (lt (pI I 18 (va_cpy (I 3) (I 18) (0 : Int32).toNatClampNeg (0 : Int32).toNatClampNeg (8 : Int32).toNatClampNeg)) (fun M1 => ck (cpk 0 0 32 32 32) (lt (pI M1 19 (va_cpy (M1 4) (M1 19) (0 : Int32).toNatClampNeg (0 : Int32).toNatClampNeg (32 : Int32).toNatClampNeg)) (fun M2 => ck (cpk 0 0 15 15 15) (lt (pI M2 20 (va_cpy (M2 5) (M2 20) (0 : Int32).toNatClampNeg (0 : Int32).toNatClampNeg (15 : Int32).toNatClampNeg)) (fun M3 => ck (cpk 0 0 15 15 15) (lt (pI M3 21 (va_cpy (M3 6) (M3 21) (0 : Int32).toNatClampNeg (0 : Int32).toNatClampNeg (15 : Int32).toNatClampNeg)) (fun M4 => ck (cpk 0 0 15 15 15) (lt (pI M4 22 (va_cpy (M4 7) (M4 22) (0 : Int32).toNatClampNeg (0 : Int32).toNatClampNeg (15 : Int32).toNatClampNeg)) (fun M5 => lt (uI M5 17 5 (M5 2 5)) (fun M6 => lt (uI M6 17 6 (M6 2 6)) (fun M7 => some (M7, L)))))))))))))
theorem ok_X3_copyFrom_17_2 {d : Nat} (hd : 1 ≤ d) {I : mI} {L : mL} {o : mI × mL} (h : f_X3_copyFrom_17_2 I L = some o) : RR mX3_copyFrom d 0 [some (.ref 17), some (.ref 2)] [] I L (retQ none o.1 o.2) := by
  unfold f_X3_copyFrom_17_2 at h
  refine r_aload_n (i := 1) dX3_copyFrom_0 rfl rfl ?_
  refine r_getR f_X3_9 dX3_copyFrom_1 rfl rfl ?_
  refine r_iconst (v := 0) dX3_copyFrom_4 (by decide) ?_
  refine r_aload_n (i := 0) dX3_copyFrom_5 rfl rfl ?_
  refine r_getR f_X3_9 dX3_copyFrom_6 rfl rfl ?_
  refine r_iconst (v := 0) dX3_copyFrom_9 (by decide) ?_
  refine r_bipush (v := 8) dX3_copyFrom_10 (by decide) ?_
  obtain ⟨hb, h⟩ := ck_some h
  obtain ⟨hc1, hc2, hc3, hc4, hc5⟩ := cpk_spec hb
  refine r_copyI k_X3_46 rfl rfl hc1 hc2 hc3 hc4 hc5 dX3_copyFrom_12 (by omega) (Nat.le_of_ble_eq_true rfl) ?_
  replace h := lt_some h
  refine r_aload_n (i := 1) dX3_copyFrom_15 rfl rfl ?_
  refine r_getR f_X3_15 dX3_copyFrom_16 rfl rfl ?_
  refine r_iconst (v := 0) dX3_copyFrom_19 (by decide) ?_
  refine r_aload_n (i := 0) dX3_copyFrom_20 rfl rfl ?_
  refine r_getR f_X3_15 dX3_copyFrom_21 rfl rfl ?_
  refine r_iconst (v := 0) dX3_copyFrom_24 (by decide) ?_
  refine r_bipush (v := 32) dX3_copyFrom_25 (by decide) ?_
  obtain ⟨hb, h⟩ := ck_some h
  obtain ⟨hc1, hc2, hc3, hc4, hc5⟩ := cpk_spec hb
  refine r_copyI k_X3_46 rfl rfl hc1 hc2 hc3 hc4 hc5 dX3_copyFrom_27 (by omega) (Nat.le_of_ble_eq_true rfl) ?_
  replace h := lt_some h
  refine r_aload_n (i := 1) dX3_copyFrom_30 rfl rfl ?_
  refine r_getR f_X3_18 dX3_copyFrom_31 rfl rfl ?_
  refine r_iconst (v := 0) dX3_copyFrom_34 (by decide) ?_
  refine r_aload_n (i := 0) dX3_copyFrom_35 rfl rfl ?_
  refine r_getR f_X3_18 dX3_copyFrom_36 rfl rfl ?_
  refine r_iconst (v := 0) dX3_copyFrom_39 (by decide) ?_
  refine r_bipush (v := 15) dX3_copyFrom_40 (by decide) ?_
  obtain ⟨hb, h⟩ := ck_some h
  obtain ⟨hc1, hc2, hc3, hc4, hc5⟩ := cpk_spec hb
  refine r_copyI k_X3_46 rfl rfl hc1 hc2 hc3 hc4 hc5 dX3_copyFrom_42 (by omega) (Nat.le_of_ble_eq_true rfl) ?_
  replace h := lt_some h
  refine r_aload_n (i := 1) dX3_copyFrom_45 rfl rfl ?_
  refine r_getR f_X3_21 dX3_copyFrom_46 rfl rfl ?_
  refine r_iconst (v := 0) dX3_copyFrom_49 (by decide) ?_
  refine r_aload_n (i := 0) dX3_copyFrom_50 rfl rfl ?_
  refine r_getR f_X3_21 dX3_copyFrom_51 rfl rfl ?_
  refine r_iconst (v := 0) dX3_copyFrom_54 (by decide) ?_
  refine r_bipush (v := 15) dX3_copyFrom_55 (by decide) ?_
  obtain ⟨hb, h⟩ := ck_some h
  obtain ⟨hc1, hc2, hc3, hc4, hc5⟩ := cpk_spec hb
  refine r_copyI k_X3_46 rfl rfl hc1 hc2 hc3 hc4 hc5 dX3_copyFrom_57 (by omega) (Nat.le_of_ble_eq_true rfl) ?_
  replace h := lt_some h
  refine r_aload_n (i := 1) dX3_copyFrom_60 rfl rfl ?_
  refine r_getR f_X3_24 dX3_copyFrom_61 rfl rfl ?_
  refine r_iconst (v := 0) dX3_copyFrom_64 (by decide) ?_
  refine r_aload_n (i := 0) dX3_copyFrom_65 rfl rfl ?_
  refine r_getR f_X3_24 dX3_copyFrom_66 rfl rfl ?_
  refine r_iconst (v := 0) dX3_copyFrom_69 (by decide) ?_
  refine r_bipush (v := 15) dX3_copyFrom_70 (by decide) ?_
  obtain ⟨hb, h⟩ := ck_some h
  obtain ⟨hc1, hc2, hc3, hc4, hc5⟩ := cpk_spec hb
  refine r_copyI k_X3_46 rfl rfl hc1 hc2 hc3 hc4 hc5 dX3_copyFrom_72 (by omega) (Nat.le_of_ble_eq_true rfl) ?_
  replace h := lt_some h
  refine r_aload_n (i := 0) dX3_copyFrom_75 rfl rfl ?_
  refine r_aload_n (i := 1) dX3_copyFrom_76 rfl rfl ?_
  refine r_getI f_X3_27 dX3_copyFrom_77 rfl rfl ?_
  refine r_putI f_X3_27 rfl rfl dX3_copyFrom_80 rfl rfl ?_
  replace h := lt_some h
  refine r_aload_n (i := 0) dX3_copyFrom_83 rfl rfl ?_
  refine r_aload_n (i := 1) dX3_copyFrom_84 rfl rfl ?_
  refine r_getI f_X3_31 dX3_copyFrom_85 rfl rfl ?_
  refine r_putI f_X3_31 rfl rfl dX3_copyFrom_88 rfl rfl ?_
  replace h := lt_some h
  refine r_vret dX3_copyFrom_91 ?_
  obtain rfl := Option.some.inj h
  exact ⟨rfl, rfl, rfl⟩
def f_X7_copyFrom_16_1 (I : mI) (L : mL) : rV := bndV (f_X3_copyFrom_17_2 I L) (fun Ir1 Lr1 => ck (cpk 0 0 4 4 4) (lt (pI Ir1 23 (va_cpy (Ir1 8) (Ir1 23) (0 : Int32).toNatClampNeg (0 : Int32).toNatClampNeg (4 : Int32).toNatClampNeg)) (fun M3 => ck (cpk 0 0 4 4 4) (lt (pI M3 24 (va_cpy (M3 9) (M3 24) (0 : Int32).toNatClampNeg (0 : Int32).toNatClampNeg (4 : Int32).toNatClampNeg)) (fun M4 => ck (cpk 0 0 6 6 6) (lt (pI M4 25 (va_cpy (M4 10) (M4 25) (0 : Int32).toNatClampNeg (0 : Int32).toNatClampNeg (6 : Int32).toNatClampNeg)) (fun M5 => ck (cpk 0 0 6 6 6) (lt (pI M5 26 (va_cpy (M5 11) (M5 26) (0 : Int32).toNatClampNeg (0 : Int32).toNatClampNeg (6 : Int32).toNatClampNeg)) (fun M6 => ck (cpk 0 0 6 6 6) (lt (pI M6 27 (va_cpy (M6 12) (M6 27) (0 : Int32).toNatClampNeg (0 : Int32).toNatClampNeg (6 : Int32).toNatClampNeg)) (fun M7 => ck (cpk 0 0 6 6 6) (lt (pI M7 28 (va_cpy (M7 13) (M7 28) (0 : Int32).toNatClampNeg (0 : Int32).toNatClampNeg (6 : Int32).toNatClampNeg)) (fun M8 => ck (cpk 0 0 6 6 6) (lt (pI M8 29 (va_cpy (M8 14) (M8 29) (0 : Int32).toNatClampNeg (0 : Int32).toNatClampNeg (6 : Int32).toNatClampNeg)) (fun M9 => ck (cpk 0 0 6 6 6) (lt (pI M9 30 (va_cpy (M9 15) (M9 30) (0 : Int32).toNatClampNeg (0 : Int32).toNatClampNeg (6 : Int32).toNatClampNeg)) (fun M10 => lt (uI M10 16 9 (M10 1 9)) (fun M11 => lt (uI M11 16 10 (M11 1 10)) (fun M12 => lt (uI M12 16 11 (M12 1 11)) (fun M13 => lt (uI M13 16 12 (M13 1 12)) (fun M14 => some (M14, Lr1))))))))))))))))))))))
theorem ok_X7_copyFrom_16_1 {d : Nat} (hd : 2 ≤ d) {I : mI} {L : mL} {o : mI × mL} (h : f_X7_copyFrom_16_1 I L = some o) : RR mX7_copyFrom d 0 [some (.ref 16), some (.ref 1)] [] I L (retQ none o.1 o.2) := by
  unfold f_X7_copyFrom_16_1 at h
  refine r_aload_n (i := 0) dX7_copyFrom_0 rfl rfl ?_
  refine r_getR f_X7_12 dX7_copyFrom_1 rfl rfl ?_
  refine r_aload_n (i := 1) dX7_copyFrom_4 rfl rfl ?_
  refine r_getR f_X7_12 dX7_copyFrom_5 rfl rfl ?_
  obtain ⟨⟨Ir1, Lr1⟩, hr, h⟩ := bind_some h
  refine r_V (d' := 1) k_X7_90 dX7_copyFrom_8 (by omega) rfl rfl rfl (Nat.le_of_ble_eq_true rfl) (Nat.le_of_ble_eq_true rfl) (ok_X3_copyFrom_17_2 (Nat.le_refl _) hr) (fun v I' L' hq => ?_)
  obtain ⟨rfl, rfl, rfl⟩ := hq
  simp only [Option.toList_some, Option.toList_none, List.drop_succ_cons, List.drop_zero, List.drop_nil, List.cons_append, List.nil_append]
  dsimp only at h
  refine r_aload_n (i := 1) dX7_copyFrom_11 rfl rfl ?_
  refine r_getR f_X7_18 dX7_copyFrom_12 rfl rfl ?_
  refine r_iconst (v := 0) dX7_copyFrom_15 (by decide) ?_
  refine r_aload_n (i := 0) dX7_copyFrom_16 rfl rfl ?_
  refine r_getR f_X7_18 dX7_copyFrom_17 rfl rfl ?_
  refine r_iconst (v := 0) dX7_copyFrom_20 (by decide) ?_
  refine r_iconst (v := 4) dX7_copyFrom_21 (by decide) ?_
  obtain ⟨hb, h⟩ := ck_some h
  obtain ⟨hc1, hc2, hc3, hc4, hc5⟩ := cpk_spec hb
  refine r_copyI k_X7_94 rfl rfl hc1 hc2 hc3 hc4 hc5 dX7_copyFrom_22 (by omega) (Nat.le_of_ble_eq_true rfl) ?_
  replace h := lt_some h
  refine r_aload_n (i := 1) dX7_copyFrom_25 rfl rfl ?_
  refine r_getR f_X7_22 dX7_copyFrom_26 rfl rfl ?_
  refine r_iconst (v := 0) dX7_copyFrom_29 (by decide) ?_
  refine r_aload_n (i := 0) dX7_copyFrom_30 rfl rfl ?_
  refine r_getR f_X7_22 dX7_copyFrom_31 rfl rfl ?_
  refine r_iconst (v := 0) dX7_copyFrom_34 (by decide) ?_
  refine r_iconst (v := 4) dX7_copyFrom_35 (by decide) ?_
  obtain ⟨hb, h⟩ := ck_some h
  obtain ⟨hc1, hc2, hc3, hc4, hc5⟩ := cpk_spec hb
  refine r_copyI k_X7_94 rfl rfl hc1 hc2 hc3 hc4 hc5 dX7_copyFrom_36 (by omega) (Nat.le_of_ble_eq_true rfl) ?_
  replace h := lt_some h
  refine r_aload_n (i := 1) dX7_copyFrom_39 rfl rfl ?_
  refine r_getR f_X7_25 dX7_copyFrom_40 rfl rfl ?_
  refine r_iconst (v := 0) dX7_copyFrom_43 (by decide) ?_
  refine r_aload_n (i := 0) dX7_copyFrom_44 rfl rfl ?_
  refine r_getR f_X7_25 dX7_copyFrom_45 rfl rfl ?_
  refine r_iconst (v := 0) dX7_copyFrom_48 (by decide) ?_
  refine r_bipush (v := 6) dX7_copyFrom_49 (by decide) ?_
  obtain ⟨hb, h⟩ := ck_some h
  obtain ⟨hc1, hc2, hc3, hc4, hc5⟩ := cpk_spec hb
  refine r_copyI k_X7_94 rfl rfl hc1 hc2 hc3 hc4 hc5 dX7_copyFrom_51 (by omega) (Nat.le_of_ble_eq_true rfl) ?_
  replace h := lt_some h
  refine r_aload_n (i := 1) dX7_copyFrom_54 rfl rfl ?_
  refine r_getR f_X7_28 dX7_copyFrom_55 rfl rfl ?_
  refine r_iconst (v := 0) dX7_copyFrom_58 (by decide) ?_
  refine r_aload_n (i := 0) dX7_copyFrom_59 rfl rfl ?_
  refine r_getR f_X7_28 dX7_copyFrom_60 rfl rfl ?_
  refine r_iconst (v := 0) dX7_copyFrom_63 (by decide) ?_
  refine r_bipush (v := 6) dX7_copyFrom_64 (by decide) ?_
  obtain ⟨hb, h⟩ := ck_some h
  obtain ⟨hc1, hc2, hc3, hc4, hc5⟩ := cpk_spec hb
  refine r_copyI k_X7_94 rfl rfl hc1 hc2 hc3 hc4 hc5 dX7_copyFrom_66 (by omega) (Nat.le_of_ble_eq_true rfl) ?_
  replace h := lt_some h
  refine r_aload_n (i := 1) dX7_copyFrom_69 rfl rfl ?_
  refine r_getR f_X7_31 dX7_copyFrom_70 rfl rfl ?_
  refine r_iconst (v := 0) dX7_copyFrom_73 (by decide) ?_
  refine r_aload_n (i := 0) dX7_copyFrom_74 rfl rfl ?_
  refine r_getR f_X7_31 dX7_copyFrom_75 rfl rfl ?_
  refine r_iconst (v := 0) dX7_copyFrom_78 (by decide) ?_
  refine r_bipush (v := 6) dX7_copyFrom_79 (by decide) ?_
  obtain ⟨hb, h⟩ := ck_some h
  obtain ⟨hc1, hc2, hc3, hc4, hc5⟩ := cpk_spec hb
  refine r_copyI k_X7_94 rfl rfl hc1 hc2 hc3 hc4 hc5 dX7_copyFrom_81 (by omega) (Nat.le_of_ble_eq_true rfl) ?_
  replace h := lt_some h
  refine r_aload_n (i := 1) dX7_copyFrom_84 rfl rfl ?_
  refine r_getR f_X7_34 dX7_copyFrom_85 rfl rfl ?_
  refine r_iconst (v := 0) dX7_copyFrom_88 (by decide) ?_
  refine r_aload_n (i := 0) dX7_copyFrom_89 rfl rfl ?_
  refine r_getR f_X7_34 dX7_copyFrom_90 rfl rfl ?_
  refine r_iconst (v := 0) dX7_copyFrom_93 (by decide) ?_
  refine r_bipush (v := 6) dX7_copyFrom_94 (by decide) ?_
  obtain ⟨hb, h⟩ := ck_some h
  obtain ⟨hc1, hc2, hc3, hc4, hc5⟩ := cpk_spec hb
  refine r_copyI k_X7_94 rfl rfl hc1 hc2 hc3 hc4 hc5 dX7_copyFrom_96 (by omega) (Nat.le_of_ble_eq_true rfl) ?_
  replace h := lt_some h
  refine r_aload_n (i := 1) dX7_copyFrom_99 rfl rfl ?_
  refine r_getR f_X7_37 dX7_copyFrom_100 rfl rfl ?_
  refine r_iconst (v := 0) dX7_copyFrom_103 (by decide) ?_
  refine r_aload_n (i := 0) dX7_copyFrom_104 rfl rfl ?_
  refine r_getR f_X7_37 dX7_copyFrom_105 rfl rfl ?_
  refine r_iconst (v := 0) dX7_copyFrom_108 (by decide) ?_
  refine r_bipush (v := 6) dX7_copyFrom_109 (by decide) ?_
  obtain ⟨hb, h⟩ := ck_some h
  obtain ⟨hc1, hc2, hc3, hc4, hc5⟩ := cpk_spec hb
  refine r_copyI k_X7_94 rfl rfl hc1 hc2 hc3 hc4 hc5 dX7_copyFrom_111 (by omega) (Nat.le_of_ble_eq_true rfl) ?_
  replace h := lt_some h
  refine r_aload_n (i := 1) dX7_copyFrom_114 rfl rfl ?_
  refine r_getR f_X7_40 dX7_copyFrom_115 rfl rfl ?_
  refine r_iconst (v := 0) dX7_copyFrom_118 (by decide) ?_
  refine r_aload_n (i := 0) dX7_copyFrom_119 rfl rfl ?_
  refine r_getR f_X7_40 dX7_copyFrom_120 rfl rfl ?_
  refine r_iconst (v := 0) dX7_copyFrom_123 (by decide) ?_
  refine r_bipush (v := 6) dX7_copyFrom_124 (by decide) ?_
  obtain ⟨hb, h⟩ := ck_some h
  obtain ⟨hc1, hc2, hc3, hc4, hc5⟩ := cpk_spec hb
  refine r_copyI k_X7_94 rfl rfl hc1 hc2 hc3 hc4 hc5 dX7_copyFrom_126 (by omega) (Nat.le_of_ble_eq_true rfl) ?_
  replace h := lt_some h
  refine r_aload_n (i := 0) dX7_copyFrom_129 rfl rfl ?_
  refine r_aload_n (i := 1) dX7_copyFrom_130 rfl rfl ?_
  refine r_getI f_X7_69 dX7_copyFrom_131 rfl rfl ?_
  refine r_putI f_X7_69 rfl rfl dX7_copyFrom_134 rfl rfl ?_
  replace h := lt_some h
  refine r_aload_n (i := 0) dX7_copyFrom_137 rfl rfl ?_
  refine r_aload_n (i := 1) dX7_copyFrom_138 rfl rfl ?_
  refine r_getI f_X7_72 dX7_copyFrom_139 rfl rfl ?_
  refine r_putI f_X7_72 rfl rfl dX7_copyFrom_142 rfl rfl ?_
  replace h := lt_some h
  refine r_aload_n (i := 0) dX7_copyFrom_145 rfl rfl ?_
  refine r_aload_n (i := 1) dX7_copyFrom_146 rfl rfl ?_
  refine r_getI f_X7_75 dX7_copyFrom_147 rfl rfl ?_
  refine r_putI f_X7_75 rfl rfl dX7_copyFrom_150 rfl rfl ?_
  replace h := lt_some h
  refine r_aload_n (i := 0) dX7_copyFrom_153 rfl rfl ?_
  refine r_aload_n (i := 1) dX7_copyFrom_154 rfl rfl ?_
  refine r_getI f_X7_43 dX7_copyFrom_155 rfl rfl ?_
  refine r_putI f_X7_43 rfl rfl dX7_copyFrom_158 rfl rfl ?_
  replace h := lt_some h
  refine r_vret dX7_copyFrom_161 ?_
  obtain rfl := Option.some.inj h
  exact ⟨rfl, rfl, rfl⟩
def f_X10_image_0 (I : mI) (L : mL) : rI := bndV (f_X7_copyFrom_16_1 I L) (fun Ir1 Lr1 => lt (uI Ir1 0 9 1) (fun M3 => some (1, M3, Lr1)))
theorem ok_X10_image_0 {d : Nat} (hd : 3 ≤ d) {I : mI} {L : mL} {o : Int32 × mI × mL} (h : f_X10_image_0 I L = some o) : RR mX10_image d 0 [some (.ref 0)] [] I L (retQ (some (.int o.1)) o.2.1 o.2.2) := by
  unfold f_X10_image_0 at h
  refine r_aload_n (i := 0) dX10_image_0 rfl rfl ?_
  refine r_getR f_X10_16 dX10_image_1 rfl rfl ?_
  refine r_aload_n (i := 0) dX10_image_4 rfl rfl ?_
  refine r_getR f_X10_10 dX10_image_5 rfl rfl ?_
  obtain ⟨⟨Ir1, Lr1⟩, hr, h⟩ := bind_some h
  refine r_V (d' := 2) k_X10_304 dX10_image_8 (by omega) rfl rfl rfl (Nat.le_of_ble_eq_true rfl) (Nat.le_of_ble_eq_true rfl) (ok_X7_copyFrom_16_1 (Nat.le_refl _) hr) (fun v I' L' hq => ?_)
  obtain ⟨rfl, rfl, rfl⟩ := hq
  simp only [Option.toList_some, Option.toList_none, List.drop_succ_cons, List.drop_zero, List.drop_nil, List.cons_append, List.nil_append]
  dsimp only at h
  refine r_aload_n (i := 0) dX10_image_11 rfl rfl ?_
  refine r_iconst (v := 1) dX10_image_12 (by decide) ?_
  refine r_putI f_X10_307 rfl rfl dX10_image_13 rfl rfl ?_
  replace h := lt_some h
  refine r_iconst (v := 1) dX10_image_16 (by decide) ?_
  refine r_iret (by first | rfl | decide) dX10_image_17 ?_
  obtain rfl := Option.some.inj h
  exact ⟨rfl, rfl, rfl⟩
def f_X3_copyFrom_2_17 (I : mI) (L : mL) : rV := ck (cpk 0 0 8 8 8) (lt (pI I 3 (va_cpy (I 18) (I 3) (0 : Int32).toNatClampNeg (0 : Int32).toNatClampNeg (8 : Int32).toNatClampNeg)) (fun M1 => ck (cpk 0 0 32 32 32) (lt (pI M1 4 (va_cpy (M1 19) (M1 4) (0 : Int32).toNatClampNeg (0 : Int32).toNatClampNeg (32 : Int32).toNatClampNeg)) (fun M2 => ck (cpk 0 0 15 15 15) (lt (pI M2 5 (va_cpy (M2 20) (M2 5) (0 : Int32).toNatClampNeg (0 : Int32).toNatClampNeg (15 : Int32).toNatClampNeg)) (fun M3 => ck (cpk 0 0 15 15 15) (lt (pI M3 6 (va_cpy (M3 21) (M3 6) (0 : Int32).toNatClampNeg (0 : Int32).toNatClampNeg (15 : Int32).toNatClampNeg)) (fun M4 => ck (cpk 0 0 15 15 15) (lt (pI M4 7 (va_cpy (M4 22) (M4 7) (0 : Int32).toNatClampNeg (0 : Int32).toNatClampNeg (15 : Int32).toNatClampNeg)) (fun M5 => lt (uI M5 2 5 (M5 17 5)) (fun M6 => lt (uI M6 2 6 (M6 17 6)) (fun M7 => some (M7, L)))))))))))))
theorem ok_X3_copyFrom_2_17 {d : Nat} (hd : 1 ≤ d) {I : mI} {L : mL} {o : mI × mL} (h : f_X3_copyFrom_2_17 I L = some o) : RR mX3_copyFrom d 0 [some (.ref 2), some (.ref 17)] [] I L (retQ none o.1 o.2) := by
  unfold f_X3_copyFrom_2_17 at h
  refine r_aload_n (i := 1) dX3_copyFrom_0 rfl rfl ?_
  refine r_getR f_X3_9 dX3_copyFrom_1 rfl rfl ?_
  refine r_iconst (v := 0) dX3_copyFrom_4 (by decide) ?_
  refine r_aload_n (i := 0) dX3_copyFrom_5 rfl rfl ?_
  refine r_getR f_X3_9 dX3_copyFrom_6 rfl rfl ?_
  refine r_iconst (v := 0) dX3_copyFrom_9 (by decide) ?_
  refine r_bipush (v := 8) dX3_copyFrom_10 (by decide) ?_
  obtain ⟨hb, h⟩ := ck_some h
  obtain ⟨hc1, hc2, hc3, hc4, hc5⟩ := cpk_spec hb
  refine r_copyI k_X3_46 rfl rfl hc1 hc2 hc3 hc4 hc5 dX3_copyFrom_12 (by omega) (Nat.le_of_ble_eq_true rfl) ?_
  replace h := lt_some h
  refine r_aload_n (i := 1) dX3_copyFrom_15 rfl rfl ?_
  refine r_getR f_X3_15 dX3_copyFrom_16 rfl rfl ?_
  refine r_iconst (v := 0) dX3_copyFrom_19 (by decide) ?_
  refine r_aload_n (i := 0) dX3_copyFrom_20 rfl rfl ?_
  refine r_getR f_X3_15 dX3_copyFrom_21 rfl rfl ?_
  refine r_iconst (v := 0) dX3_copyFrom_24 (by decide) ?_
  refine r_bipush (v := 32) dX3_copyFrom_25 (by decide) ?_
  obtain ⟨hb, h⟩ := ck_some h
  obtain ⟨hc1, hc2, hc3, hc4, hc5⟩ := cpk_spec hb
  refine r_copyI k_X3_46 rfl rfl hc1 hc2 hc3 hc4 hc5 dX3_copyFrom_27 (by omega) (Nat.le_of_ble_eq_true rfl) ?_
  replace h := lt_some h
  refine r_aload_n (i := 1) dX3_copyFrom_30 rfl rfl ?_
  refine r_getR f_X3_18 dX3_copyFrom_31 rfl rfl ?_
  refine r_iconst (v := 0) dX3_copyFrom_34 (by decide) ?_
  refine r_aload_n (i := 0) dX3_copyFrom_35 rfl rfl ?_
  refine r_getR f_X3_18 dX3_copyFrom_36 rfl rfl ?_
  refine r_iconst (v := 0) dX3_copyFrom_39 (by decide) ?_
  refine r_bipush (v := 15) dX3_copyFrom_40 (by decide) ?_
  obtain ⟨hb, h⟩ := ck_some h
  obtain ⟨hc1, hc2, hc3, hc4, hc5⟩ := cpk_spec hb
  refine r_copyI k_X3_46 rfl rfl hc1 hc2 hc3 hc4 hc5 dX3_copyFrom_42 (by omega) (Nat.le_of_ble_eq_true rfl) ?_
  replace h := lt_some h
  refine r_aload_n (i := 1) dX3_copyFrom_45 rfl rfl ?_
  refine r_getR f_X3_21 dX3_copyFrom_46 rfl rfl ?_
  refine r_iconst (v := 0) dX3_copyFrom_49 (by decide) ?_
  refine r_aload_n (i := 0) dX3_copyFrom_50 rfl rfl ?_
  refine r_getR f_X3_21 dX3_copyFrom_51 rfl rfl ?_
  refine r_iconst (v := 0) dX3_copyFrom_54 (by decide) ?_
  refine r_bipush (v := 15) dX3_copyFrom_55 (by decide) ?_
  obtain ⟨hb, h⟩ := ck_some h
  obtain ⟨hc1, hc2, hc3, hc4, hc5⟩ := cpk_spec hb
  refine r_copyI k_X3_46 rfl rfl hc1 hc2 hc3 hc4 hc5 dX3_copyFrom_57 (by omega) (Nat.le_of_ble_eq_true rfl) ?_
  replace h := lt_some h
  refine r_aload_n (i := 1) dX3_copyFrom_60 rfl rfl ?_
  refine r_getR f_X3_24 dX3_copyFrom_61 rfl rfl ?_
  refine r_iconst (v := 0) dX3_copyFrom_64 (by decide) ?_
  refine r_aload_n (i := 0) dX3_copyFrom_65 rfl rfl ?_
  refine r_getR f_X3_24 dX3_copyFrom_66 rfl rfl ?_
  refine r_iconst (v := 0) dX3_copyFrom_69 (by decide) ?_
  refine r_bipush (v := 15) dX3_copyFrom_70 (by decide) ?_
  obtain ⟨hb, h⟩ := ck_some h
  obtain ⟨hc1, hc2, hc3, hc4, hc5⟩ := cpk_spec hb
  refine r_copyI k_X3_46 rfl rfl hc1 hc2 hc3 hc4 hc5 dX3_copyFrom_72 (by omega) (Nat.le_of_ble_eq_true rfl) ?_
  replace h := lt_some h
  refine r_aload_n (i := 0) dX3_copyFrom_75 rfl rfl ?_
  refine r_aload_n (i := 1) dX3_copyFrom_76 rfl rfl ?_
  refine r_getI f_X3_27 dX3_copyFrom_77 rfl rfl ?_
  refine r_putI f_X3_27 rfl rfl dX3_copyFrom_80 rfl rfl ?_
  replace h := lt_some h
  refine r_aload_n (i := 0) dX3_copyFrom_83 rfl rfl ?_
  refine r_aload_n (i := 1) dX3_copyFrom_84 rfl rfl ?_
  refine r_getI f_X3_31 dX3_copyFrom_85 rfl rfl ?_
  refine r_putI f_X3_31 rfl rfl dX3_copyFrom_88 rfl rfl ?_
  replace h := lt_some h
  refine r_vret dX3_copyFrom_91 ?_
  obtain rfl := Option.some.inj h
  exact ⟨rfl, rfl, rfl⟩
def f_X7_copyFrom_1_16 (I : mI) (L : mL) : rV := bndV (f_X3_copyFrom_2_17 I L) (fun Ir1 Lr1 => ck (cpk 0 0 4 4 4) (lt (pI Ir1 8 (va_cpy (Ir1 23) (Ir1 8) (0 : Int32).toNatClampNeg (0 : Int32).toNatClampNeg (4 : Int32).toNatClampNeg)) (fun M3 => ck (cpk 0 0 4 4 4) (lt (pI M3 9 (va_cpy (M3 24) (M3 9) (0 : Int32).toNatClampNeg (0 : Int32).toNatClampNeg (4 : Int32).toNatClampNeg)) (fun M4 => ck (cpk 0 0 6 6 6) (lt (pI M4 10 (va_cpy (M4 25) (M4 10) (0 : Int32).toNatClampNeg (0 : Int32).toNatClampNeg (6 : Int32).toNatClampNeg)) (fun M5 => ck (cpk 0 0 6 6 6) (lt (pI M5 11 (va_cpy (M5 26) (M5 11) (0 : Int32).toNatClampNeg (0 : Int32).toNatClampNeg (6 : Int32).toNatClampNeg)) (fun M6 => ck (cpk 0 0 6 6 6) (lt (pI M6 12 (va_cpy (M6 27) (M6 12) (0 : Int32).toNatClampNeg (0 : Int32).toNatClampNeg (6 : Int32).toNatClampNeg)) (fun M7 => ck (cpk 0 0 6 6 6) (lt (pI M7 13 (va_cpy (M7 28) (M7 13) (0 : Int32).toNatClampNeg (0 : Int32).toNatClampNeg (6 : Int32).toNatClampNeg)) (fun M8 => ck (cpk 0 0 6 6 6) (lt (pI M8 14 (va_cpy (M8 29) (M8 14) (0 : Int32).toNatClampNeg (0 : Int32).toNatClampNeg (6 : Int32).toNatClampNeg)) (fun M9 => ck (cpk 0 0 6 6 6) (lt (pI M9 15 (va_cpy (M9 30) (M9 15) (0 : Int32).toNatClampNeg (0 : Int32).toNatClampNeg (6 : Int32).toNatClampNeg)) (fun M10 => lt (uI M10 1 9 (M10 16 9)) (fun M11 => lt (uI M11 1 10 (M11 16 10)) (fun M12 => lt (uI M12 1 11 (M12 16 11)) (fun M13 => lt (uI M13 1 12 (M13 16 12)) (fun M14 => some (M14, Lr1))))))))))))))))))))))
theorem ok_X7_copyFrom_1_16 {d : Nat} (hd : 2 ≤ d) {I : mI} {L : mL} {o : mI × mL} (h : f_X7_copyFrom_1_16 I L = some o) : RR mX7_copyFrom d 0 [some (.ref 1), some (.ref 16)] [] I L (retQ none o.1 o.2) := by
  unfold f_X7_copyFrom_1_16 at h
  refine r_aload_n (i := 0) dX7_copyFrom_0 rfl rfl ?_
  refine r_getR f_X7_12 dX7_copyFrom_1 rfl rfl ?_
  refine r_aload_n (i := 1) dX7_copyFrom_4 rfl rfl ?_
  refine r_getR f_X7_12 dX7_copyFrom_5 rfl rfl ?_
  obtain ⟨⟨Ir1, Lr1⟩, hr, h⟩ := bind_some h
  refine r_V (d' := 1) k_X7_90 dX7_copyFrom_8 (by omega) rfl rfl rfl (Nat.le_of_ble_eq_true rfl) (Nat.le_of_ble_eq_true rfl) (ok_X3_copyFrom_2_17 (Nat.le_refl _) hr) (fun v I' L' hq => ?_)
  obtain ⟨rfl, rfl, rfl⟩ := hq
  simp only [Option.toList_some, Option.toList_none, List.drop_succ_cons, List.drop_zero, List.drop_nil, List.cons_append, List.nil_append]
  dsimp only at h
  refine r_aload_n (i := 1) dX7_copyFrom_11 rfl rfl ?_
  refine r_getR f_X7_18 dX7_copyFrom_12 rfl rfl ?_
  refine r_iconst (v := 0) dX7_copyFrom_15 (by decide) ?_
  refine r_aload_n (i := 0) dX7_copyFrom_16 rfl rfl ?_
  refine r_getR f_X7_18 dX7_copyFrom_17 rfl rfl ?_
  refine r_iconst (v := 0) dX7_copyFrom_20 (by decide) ?_
  refine r_iconst (v := 4) dX7_copyFrom_21 (by decide) ?_
  obtain ⟨hb, h⟩ := ck_some h
  obtain ⟨hc1, hc2, hc3, hc4, hc5⟩ := cpk_spec hb
  refine r_copyI k_X7_94 rfl rfl hc1 hc2 hc3 hc4 hc5 dX7_copyFrom_22 (by omega) (Nat.le_of_ble_eq_true rfl) ?_
  replace h := lt_some h
  refine r_aload_n (i := 1) dX7_copyFrom_25 rfl rfl ?_
  refine r_getR f_X7_22 dX7_copyFrom_26 rfl rfl ?_
  refine r_iconst (v := 0) dX7_copyFrom_29 (by decide) ?_
  refine r_aload_n (i := 0) dX7_copyFrom_30 rfl rfl ?_
  refine r_getR f_X7_22 dX7_copyFrom_31 rfl rfl ?_
  refine r_iconst (v := 0) dX7_copyFrom_34 (by decide) ?_
  refine r_iconst (v := 4) dX7_copyFrom_35 (by decide) ?_
  obtain ⟨hb, h⟩ := ck_some h
  obtain ⟨hc1, hc2, hc3, hc4, hc5⟩ := cpk_spec hb
  refine r_copyI k_X7_94 rfl rfl hc1 hc2 hc3 hc4 hc5 dX7_copyFrom_36 (by omega) (Nat.le_of_ble_eq_true rfl) ?_
  replace h := lt_some h
  refine r_aload_n (i := 1) dX7_copyFrom_39 rfl rfl ?_
  refine r_getR f_X7_25 dX7_copyFrom_40 rfl rfl ?_
  refine r_iconst (v := 0) dX7_copyFrom_43 (by decide) ?_
  refine r_aload_n (i := 0) dX7_copyFrom_44 rfl rfl ?_
  refine r_getR f_X7_25 dX7_copyFrom_45 rfl rfl ?_
  refine r_iconst (v := 0) dX7_copyFrom_48 (by decide) ?_
  refine r_bipush (v := 6) dX7_copyFrom_49 (by decide) ?_
  obtain ⟨hb, h⟩ := ck_some h
  obtain ⟨hc1, hc2, hc3, hc4, hc5⟩ := cpk_spec hb
  refine r_copyI k_X7_94 rfl rfl hc1 hc2 hc3 hc4 hc5 dX7_copyFrom_51 (by omega) (Nat.le_of_ble_eq_true rfl) ?_
  replace h := lt_some h
  refine r_aload_n (i := 1) dX7_copyFrom_54 rfl rfl ?_
  refine r_getR f_X7_28 dX7_copyFrom_55 rfl rfl ?_
  refine r_iconst (v := 0) dX7_copyFrom_58 (by decide) ?_
  refine r_aload_n (i := 0) dX7_copyFrom_59 rfl rfl ?_
  refine r_getR f_X7_28 dX7_copyFrom_60 rfl rfl ?_
  refine r_iconst (v := 0) dX7_copyFrom_63 (by decide) ?_
  refine r_bipush (v := 6) dX7_copyFrom_64 (by decide) ?_
  obtain ⟨hb, h⟩ := ck_some h
  obtain ⟨hc1, hc2, hc3, hc4, hc5⟩ := cpk_spec hb
  refine r_copyI k_X7_94 rfl rfl hc1 hc2 hc3 hc4 hc5 dX7_copyFrom_66 (by omega) (Nat.le_of_ble_eq_true rfl) ?_
  replace h := lt_some h
  refine r_aload_n (i := 1) dX7_copyFrom_69 rfl rfl ?_
  refine r_getR f_X7_31 dX7_copyFrom_70 rfl rfl ?_
  refine r_iconst (v := 0) dX7_copyFrom_73 (by decide) ?_
  refine r_aload_n (i := 0) dX7_copyFrom_74 rfl rfl ?_
  refine r_getR f_X7_31 dX7_copyFrom_75 rfl rfl ?_
  refine r_iconst (v := 0) dX7_copyFrom_78 (by decide) ?_
  refine r_bipush (v := 6) dX7_copyFrom_79 (by decide) ?_
  obtain ⟨hb, h⟩ := ck_some h
  obtain ⟨hc1, hc2, hc3, hc4, hc5⟩ := cpk_spec hb
  refine r_copyI k_X7_94 rfl rfl hc1 hc2 hc3 hc4 hc5 dX7_copyFrom_81 (by omega) (Nat.le_of_ble_eq_true rfl) ?_
  replace h := lt_some h
  refine r_aload_n (i := 1) dX7_copyFrom_84 rfl rfl ?_
  refine r_getR f_X7_34 dX7_copyFrom_85 rfl rfl ?_
  refine r_iconst (v := 0) dX7_copyFrom_88 (by decide) ?_
  refine r_aload_n (i := 0) dX7_copyFrom_89 rfl rfl ?_
  refine r_getR f_X7_34 dX7_copyFrom_90 rfl rfl ?_
  refine r_iconst (v := 0) dX7_copyFrom_93 (by decide) ?_
  refine r_bipush (v := 6) dX7_copyFrom_94 (by decide) ?_
  obtain ⟨hb, h⟩ := ck_some h
  obtain ⟨hc1, hc2, hc3, hc4, hc5⟩ := cpk_spec hb
  refine r_copyI k_X7_94 rfl rfl hc1 hc2 hc3 hc4 hc5 dX7_copyFrom_96 (by omega) (Nat.le_of_ble_eq_true rfl) ?_
  replace h := lt_some h
  refine r_aload_n (i := 1) dX7_copyFrom_99 rfl rfl ?_
  refine r_getR f_X7_37 dX7_copyFrom_100 rfl rfl ?_
  refine r_iconst (v := 0) dX7_copyFrom_103 (by decide) ?_
  refine r_aload_n (i := 0) dX7_copyFrom_104 rfl rfl ?_
  refine r_getR f_X7_37 dX7_copyFrom_105 rfl rfl ?_
  refine r_iconst (v := 0) dX7_copyFrom_108 (by decide) ?_
  refine r_bipush (v := 6) dX7_copyFrom_109 (by decide) ?_
  obtain ⟨hb, h⟩ := ck_some h
  obtain ⟨hc1, hc2, hc3, hc4, hc5⟩ := cpk_spec hb
  refine r_copyI k_X7_94 rfl rfl hc1 hc2 hc3 hc4 hc5 dX7_copyFrom_111 (by omega) (Nat.le_of_ble_eq_true rfl) ?_
  replace h := lt_some h
  refine r_aload_n (i := 1) dX7_copyFrom_114 rfl rfl ?_
  refine r_getR f_X7_40 dX7_copyFrom_115 rfl rfl ?_
  refine r_iconst (v := 0) dX7_copyFrom_118 (by decide) ?_
  refine r_aload_n (i := 0) dX7_copyFrom_119 rfl rfl ?_
  refine r_getR f_X7_40 dX7_copyFrom_120 rfl rfl ?_
  refine r_iconst (v := 0) dX7_copyFrom_123 (by decide) ?_
  refine r_bipush (v := 6) dX7_copyFrom_124 (by decide) ?_
  obtain ⟨hb, h⟩ := ck_some h
  obtain ⟨hc1, hc2, hc3, hc4, hc5⟩ := cpk_spec hb
  refine r_copyI k_X7_94 rfl rfl hc1 hc2 hc3 hc4 hc5 dX7_copyFrom_126 (by omega) (Nat.le_of_ble_eq_true rfl) ?_
  replace h := lt_some h
  refine r_aload_n (i := 0) dX7_copyFrom_129 rfl rfl ?_
  refine r_aload_n (i := 1) dX7_copyFrom_130 rfl rfl ?_
  refine r_getI f_X7_69 dX7_copyFrom_131 rfl rfl ?_
  refine r_putI f_X7_69 rfl rfl dX7_copyFrom_134 rfl rfl ?_
  replace h := lt_some h
  refine r_aload_n (i := 0) dX7_copyFrom_137 rfl rfl ?_
  refine r_aload_n (i := 1) dX7_copyFrom_138 rfl rfl ?_
  refine r_getI f_X7_72 dX7_copyFrom_139 rfl rfl ?_
  refine r_putI f_X7_72 rfl rfl dX7_copyFrom_142 rfl rfl ?_
  replace h := lt_some h
  refine r_aload_n (i := 0) dX7_copyFrom_145 rfl rfl ?_
  refine r_aload_n (i := 1) dX7_copyFrom_146 rfl rfl ?_
  refine r_getI f_X7_75 dX7_copyFrom_147 rfl rfl ?_
  refine r_putI f_X7_75 rfl rfl dX7_copyFrom_150 rfl rfl ?_
  replace h := lt_some h
  refine r_aload_n (i := 0) dX7_copyFrom_153 rfl rfl ?_
  refine r_aload_n (i := 1) dX7_copyFrom_154 rfl rfl ?_
  refine r_getI f_X7_43 dX7_copyFrom_155 rfl rfl ?_
  refine r_putI f_X7_43 rfl rfl dX7_copyFrom_158 rfl rfl ?_
  replace h := lt_some h
  refine r_vret dX7_copyFrom_161 ?_
  obtain rfl := Option.some.inj h
  exact ⟨rfl, rfl, rfl⟩
def f_X10_restore_0 (I : mI) (L : mL) : rI := if (I 0 9) = 0 then (some ((-4), I, L)) else (bndV (f_X7_copyFrom_1_16 I L) (fun Ir1 Lr1 => some (1, Ir1, Lr1)))
theorem ok_X10_restore_0 {d : Nat} (hd : 3 ≤ d) {I : mI} {L : mL} {o : Int32 × mI × mL} (h : f_X10_restore_0 I L = some o) : RR mX10_restore d 0 [some (.ref 0)] [] I L (retQ (some (.int o.1)) o.2.1 o.2.2) := by
  unfold f_X10_restore_0 at h
  refine r_aload_n (i := 0) dX10_restore_0 rfl rfl ?_
  refine r_getI f_X10_307 dX10_restore_1 rfl rfl ?_
  refine r_if_ne (tgt := 10) dX10_restore_4 (by decide) (fun c => ?_) (fun c => ?_)
  · rw [if_neg c] at h
    refine r_aload_n (i := 0) dX10_restore_10 rfl rfl ?_
    refine r_getR f_X10_10 dX10_restore_11 rfl rfl ?_
    refine r_aload_n (i := 0) dX10_restore_14 rfl rfl ?_
    refine r_getR f_X10_16 dX10_restore_15 rfl rfl ?_
    obtain ⟨⟨Ir1, Lr1⟩, hr, h⟩ := bind_some h
    refine r_V (d' := 2) k_X10_304 dX10_restore_18 (by omega) rfl rfl rfl (Nat.le_of_ble_eq_true rfl) (Nat.le_of_ble_eq_true rfl) (ok_X7_copyFrom_1_16 (Nat.le_refl _) hr) (fun v I' L' hq => ?_)
    obtain ⟨rfl, rfl, rfl⟩ := hq
    simp only [Option.toList_some, Option.toList_none, List.drop_succ_cons, List.drop_zero, List.drop_nil, List.cons_append, List.nil_append]
    dsimp only at h
    refine r_iconst (v := 1) dX10_restore_21 (by decide) ?_
    refine r_iret (by first | rfl | decide) dX10_restore_22 ?_
    obtain rfl := Option.some.inj h
    exact ⟨rfl, rfl, rfl⟩
  · rw [if_pos c] at h
    refine r_bipush (v := (-4)) dX10_restore_7 (by decide) ?_
    refine r_iret (by first | rfl | decide) dX10_restore_9 ?_
    obtain rfl := Option.some.inj h
    exact ⟨rfl, rfl, rfl⟩
def f_X6_isSheet (I : mI) (L : mL) (a0 : Int32) : Option Int32 := if a0 < 0 then (some 0) else (if 4 ≤ a0 then (some 0) else (some 1))
theorem ok_X6_isSheet {d : Nat} (hd : 0 ≤ d) {I : mI} {L : mL} {a0 : Int32} {o : Int32} (h : f_X6_isSheet I L a0 = some o) : RR mX6_isSheet d 0 [some (.int a0)] [] I L (retQ (some (.int o)) I L) := by
  unfold f_X6_isSheet at h
  refine r_iload_n (i := 0) dX6_isSheet_0 rfl rfl ?_
  refine r_if_lt (tgt := 13) dX6_isSheet_1 (by decide) (fun c => ?_) (fun c => ?_)
  · rw [if_pos c] at h
    refine r_iconst (v := 0) dX6_isSheet_13 (by decide) ?_
    refine r_iret (by first | rfl | decide) dX6_isSheet_14 ?_
    obtain rfl := Option.some.inj h
    exact ⟨rfl, rfl, rfl⟩
  · rw [if_neg c] at h
    refine r_iload_n (i := 0) dX6_isSheet_4 rfl rfl ?_
    refine r_iconst (v := 4) dX6_isSheet_5 (by decide) ?_
    refine r_icmp_ge (tgt := 13) dX6_isSheet_6 (by decide) (fun c => ?_) (fun c => ?_)
    · rw [if_pos c] at h
      refine r_iconst (v := 0) dX6_isSheet_13 (by decide) ?_
      refine r_iret (by first | rfl | decide) dX6_isSheet_14 ?_
      obtain rfl := Option.some.inj h
      exact ⟨rfl, rfl, rfl⟩
    · rw [if_neg c] at h
      refine r_iconst (v := 1) dX6_isSheet_9 (by decide) ?_
      refine r_goto (tgt := 14) dX6_isSheet_10 (by decide) ?_
      refine r_iret (by first | rfl | decide) dX6_isSheet_14 ?_
      obtain rfl := Option.some.inj h
      exact ⟨rfl, rfl, rfl⟩
def f_X6_isLane (I : mI) (L : mL) (a0 : Int32) (a1 : Int32) : Option Int32 := (f_X6_isSheet I L a0).bind (fun r1 => if r1 = 0 then (some 0) else (if a1 < 0 then (some 0) else (if 3 ≤ a1 then (some 0) else (some 1))))
theorem ok_X6_isLane {d : Nat} (hd : 1 ≤ d) {I : mI} {L : mL} {a0 : Int32} {a1 : Int32} {o : Int32} (h : f_X6_isLane I L a0 a1 = some o) : RR mX6_isLane d 0 [some (.int a0), some (.int a1)] [] I L (retQ (some (.int o)) I L) := by
  unfold f_X6_isLane at h
  refine r_iload_n (i := 0) dX6_isLane_0 rfl rfl ?_
  obtain ⟨r1, hr, h⟩ := bind_some h
  refine r_S (d' := 0) k_X6_27 dX6_isLane_1 (by omega) rfl (Nat.le_of_ble_eq_true rfl) (Nat.le_of_ble_eq_true rfl) (ok_X6_isSheet (Nat.le_refl _) hr) (fun v I' L' hq => ?_)
  obtain ⟨rfl, rfl, rfl⟩ := hq
  simp only [Option.toList_some, Option.toList_none, List.drop_succ_cons, List.drop_zero, List.drop_nil, List.cons_append, List.nil_append]
  refine r_if_eq (tgt := 20) dX6_isLane_4 (by decide) (fun c => ?_) (fun c => ?_)
  · rw [if_pos c] at h
    refine r_iconst (v := 0) dX6_isLane_20 (by decide) ?_
    refine r_iret (by first | rfl | decide) dX6_isLane_21 ?_
    obtain rfl := Option.some.inj h
    exact ⟨rfl, rfl, rfl⟩
  · rw [if_neg c] at h
    refine r_iload_n (i := 1) dX6_isLane_7 rfl rfl ?_
    refine r_if_lt (tgt := 20) dX6_isLane_8 (by decide) (fun c => ?_) (fun c => ?_)
    · rw [if_pos c] at h
      refine r_iconst (v := 0) dX6_isLane_20 (by decide) ?_
      refine r_iret (by first | rfl | decide) dX6_isLane_21 ?_
      obtain rfl := Option.some.inj h
      exact ⟨rfl, rfl, rfl⟩
    · rw [if_neg c] at h
      refine r_iload_n (i := 1) dX6_isLane_11 rfl rfl ?_
      refine r_iconst (v := 3) dX6_isLane_12 (by decide) ?_
      refine r_icmp_ge (tgt := 20) dX6_isLane_13 (by decide) (fun c => ?_) (fun c => ?_)
      · rw [if_pos c] at h
        refine r_iconst (v := 0) dX6_isLane_20 (by decide) ?_
        refine r_iret (by first | rfl | decide) dX6_isLane_21 ?_
        obtain rfl := Option.some.inj h
        exact ⟨rfl, rfl, rfl⟩
      · rw [if_neg c] at h
        refine r_iconst (v := 1) dX6_isLane_16 (by decide) ?_
        refine r_goto (tgt := 21) dX6_isLane_17 (by decide) ?_
        refine r_iret (by first | rfl | decide) dX6_isLane_21 ?_
        obtain rfl := Option.some.inj h
        exact ⟨rfl, rfl, rfl⟩
def f_X6_isMissing_39 (I : mI) (L : mL) (a1 : Int32) : Option Int32 := ck (inb a1 4) (if (I 47 a1.toNatClampNeg) = 0 then (some 1) else (some 0))
theorem ok_X6_isMissing_39 {d : Nat} (hd : 0 ≤ d) {I : mI} {L : mL} {a1 : Int32} {o : Int32} (h : f_X6_isMissing_39 I L a1 = some o) : RR mX6_isMissing d 0 [some (.ref 39), some (.int a1)] [] I L (retQ (some (.int o)) I L) := by
  unfold f_X6_isMissing_39 at h
  refine r_aload_n (i := 0) dX6_isMissing_0 rfl rfl ?_
  refine r_getR f_X6_23 dX6_isMissing_1 rfl rfl ?_
  refine r_iload_n (i := 1) dX6_isMissing_4 rfl rfl ?_
  obtain ⟨hb, h⟩ := ck_some h
  refine r_zald rfl (inb_vp hb) dX6_isMissing_5 ?_
  refine r_if_ne (tgt := 13) dX6_isMissing_6 (by decide) (fun c => ?_) (fun c => ?_)
  · rw [if_neg c] at h
    refine r_iconst (v := 0) dX6_isMissing_13 (by decide) ?_
    refine r_iret (by first | rfl | decide) dX6_isMissing_14 ?_
    obtain rfl := Option.some.inj h
    exact ⟨rfl, rfl, rfl⟩
  · rw [if_pos c] at h
    refine r_iconst (v := 1) dX6_isMissing_9 (by decide) ?_
    refine r_goto (tgt := 14) dX6_isMissing_10 (by decide) ?_
    refine r_iret (by first | rfl | decide) dX6_isMissing_14 ?_
    obtain rfl := Option.some.inj h
    exact ⟨rfl, rfl, rfl⟩
def f_X6_holds_39 (I : mI) (L : mL) (a1 : Int32) (a2 : Int32) (a3 : Int32) : Option Int32 := if a2 < 0 then (some 0) else (if a3 < 0 then (some 0) else (ck (inb a1 4) (if ((I 46 a1.toNatClampNeg) - a3) < a2 then (some 0) else (some 1))))
theorem ok_X6_holds_39 {d : Nat} (hd : 0 ≤ d) {I : mI} {L : mL} {a1 : Int32} {a2 : Int32} {a3 : Int32} {o : Int32} (h : f_X6_holds_39 I L a1 a2 a3 = some o) : RR mX6_holds d 0 [some (.ref 39), some (.int a1), some (.int a2), some (.int a3)] [] I L (retQ (some (.int o)) I L) := by
  unfold f_X6_holds_39 at h
  refine r_iload_n (i := 2) dX6_holds_0 rfl rfl ?_
  refine r_if_lt (tgt := 24) dX6_holds_1 (by decide) (fun c => ?_) (fun c => ?_)
  · rw [if_pos c] at h
    refine r_iconst (v := 0) dX6_holds_24 (by decide) ?_
    refine r_iret (by first | rfl | decide) dX6_holds_25 ?_
    obtain rfl := Option.some.inj h
    exact ⟨rfl, rfl, rfl⟩
  · rw [if_neg c] at h
    refine r_iload_n (i := 3) dX6_holds_4 rfl rfl ?_
    refine r_if_lt (tgt := 24) dX6_holds_5 (by decide) (fun c => ?_) (fun c => ?_)
    · rw [if_pos c] at h
      refine r_iconst (v := 0) dX6_holds_24 (by decide) ?_
      refine r_iret (by first | rfl | decide) dX6_holds_25 ?_
      obtain rfl := Option.some.inj h
      exact ⟨rfl, rfl, rfl⟩
    · rw [if_neg c] at h
      refine r_iload_n (i := 2) dX6_holds_8 rfl rfl ?_
      refine r_aload_n (i := 0) dX6_holds_9 rfl rfl ?_
      refine r_getR f_X6_20 dX6_holds_10 rfl rfl ?_
      refine r_iload_n (i := 1) dX6_holds_13 rfl rfl ?_
      obtain ⟨hb, h⟩ := ck_some h
      refine r_iald rfl (inb_vp hb) dX6_holds_14 ?_
      refine r_iload_n (i := 3) dX6_holds_15 rfl rfl ?_
      refine r_isub dX6_holds_16 ?_
      refine r_icmp_gt (tgt := 24) dX6_holds_17 (by decide) (fun c => ?_) (fun c => ?_)
      · rw [if_pos c] at h
        refine r_iconst (v := 0) dX6_holds_24 (by decide) ?_
        refine r_iret (by first | rfl | decide) dX6_holds_25 ?_
        obtain rfl := Option.some.inj h
        exact ⟨rfl, rfl, rfl⟩
      · rw [if_neg c] at h
        refine r_iconst (v := 1) dX6_holds_20 (by decide) ?_
        refine r_goto (tgt := 25) dX6_holds_21 (by decide) ?_
        refine r_iret (by first | rfl | decide) dX6_holds_25 ?_
        obtain rfl := Option.some.inj h
        exact ⟨rfl, rfl, rfl⟩
def f_X6_fault_39 (I : mI) (L : mL) (a1 : Int32) (a2 : Int32) (a3 : Int32) (a4 : Int32) : Option Int32 := (f_X6_isMissing_39 I L a1).bind (fun r1 => if r1 = 0 then (ck (inb a1 4) (if (I 45 a1.toNatClampNeg) = a2 then ((f_X6_holds_39 I L a1 a3 a4).bind (fun r2 => if r2 = 0 then (some (-13)) else (some 0))) else (some (-12)))) else (some (-11)))
theorem ok_X6_fault_39 {d : Nat} (hd : 1 ≤ d) {I : mI} {L : mL} {a1 : Int32} {a2 : Int32} {a3 : Int32} {a4 : Int32} {o : Int32} (h : f_X6_fault_39 I L a1 a2 a3 a4 = some o) : RR mX6_fault d 0 [some (.ref 39), some (.int a1), some (.int a2), some (.int a3), some (.int a4)] [] I L (retQ (some (.int o)) I L) := by
  unfold f_X6_fault_39 at h
  refine r_aload_n (i := 0) dX6_fault_0 rfl rfl ?_
  refine r_iload_n (i := 1) dX6_fault_1 rfl rfl ?_
  obtain ⟨r1, hr, h⟩ := bind_some h
  refine r_V (d' := 0) k_X6_31 dX6_fault_2 (by omega) rfl rfl rfl (Nat.le_of_ble_eq_true rfl) (Nat.le_of_ble_eq_true rfl) (ok_X6_isMissing_39 (Nat.le_refl _) hr) (fun v I' L' hq => ?_)
  obtain ⟨rfl, rfl, rfl⟩ := hq
  simp only [Option.toList_some, Option.toList_none, List.drop_succ_cons, List.drop_zero, List.drop_nil, List.cons_append, List.nil_append]
  refine r_if_eq (tgt := 11) dX6_fault_5 (by decide) (fun c => ?_) (fun c => ?_)
  · rw [if_pos c] at h
    refine r_aload_n (i := 0) dX6_fault_11 rfl rfl ?_
    refine r_getR f_X6_16 dX6_fault_12 rfl rfl ?_
    refine r_iload_n (i := 1) dX6_fault_15 rfl rfl ?_
    obtain ⟨hb, h⟩ := ck_some h
    refine r_iald rfl (inb_vp hb) dX6_fault_16 ?_
    refine r_iload_n (i := 2) dX6_fault_17 rfl rfl ?_
    refine r_icmp_eq (tgt := 24) dX6_fault_18 (by decide) (fun c => ?_) (fun c => ?_)
    · rw [if_pos c] at h
      refine r_aload_n (i := 0) dX6_fault_24 rfl rfl ?_
      refine r_iload_n (i := 1) dX6_fault_25 rfl rfl ?_
      refine r_iload_n (i := 3) dX6_fault_26 rfl rfl ?_
      refine r_iload dX6_fault_27 rfl ?_
      obtain ⟨r2, hr, h⟩ := bind_some h
      refine r_V (d' := 0) k_X6_34 dX6_fault_29 (by omega) rfl rfl rfl (Nat.le_of_ble_eq_true rfl) (Nat.le_of_ble_eq_true rfl) (ok_X6_holds_39 (Nat.le_refl _) hr) (fun v I' L' hq => ?_)
      obtain ⟨rfl, rfl, rfl⟩ := hq
      simp only [Option.toList_some, Option.toList_none, List.drop_succ_cons, List.drop_zero, List.drop_nil, List.cons_append, List.nil_append]
      refine r_if_eq (tgt := 39) dX6_fault_32 (by decide) (fun c => ?_) (fun c => ?_)
      · rw [if_pos c] at h
        refine r_bipush (v := (-13)) dX6_fault_39 (by decide) ?_
        refine r_iret (by first | rfl | decide) dX6_fault_41 ?_
        obtain rfl := Option.some.inj h
        exact ⟨rfl, rfl, rfl⟩
      · rw [if_neg c] at h
        refine r_iconst (v := 0) dX6_fault_35 (by decide) ?_
        refine r_goto (tgt := 41) dX6_fault_36 (by decide) ?_
        refine r_iret (by first | rfl | decide) dX6_fault_41 ?_
        obtain rfl := Option.some.inj h
        exact ⟨rfl, rfl, rfl⟩
    · rw [if_neg c] at h
      refine r_bipush (v := (-12)) dX6_fault_21 (by decide) ?_
      refine r_iret (by first | rfl | decide) dX6_fault_23 ?_
      obtain rfl := Option.some.inj h
      exact ⟨rfl, rfl, rfl⟩
  · rw [if_neg c] at h
    refine r_bipush (v := (-11)) dX6_fault_8 (by decide) ?_
    refine r_iret (by first | rfl | decide) dX6_fault_10 ?_
    obtain rfl := Option.some.inj h
    exact ⟨rfl, rfl, rfl⟩
def f_X0_areStones_w_l2 (I : mI) (L : mL) : Nat → Nat → Int32 → Int32 → Int32 → Option Int32
  | 0, _, _, _, _ => none
  | n + 1, x0, x1, x2, x3 => if (x1 + (2 * x2)) ≤ x3 then (some 1) else (ck (inb (x3 + 1) 24) (lt (L (41 + x0) (x3 + 1).toNatClampNeg) (fun v1 => ck (inb x3 24) (if (lg_cmp (L (41 + x0) x3.toNatClampNeg) 1) < 0 then (some 0) else (ck (inb x3 24) (if 0 < (lg_cmp (L (41 + x0) x3.toNatClampNeg) 99) then (some 0) else (if (lg_cmp v1 (-6)) < 0 then (some 0) else (if 0 < (lg_cmp v1 6) then (some 0) else (if (lg_cmp v1 0) = 0 then (some 0) else (lt (x3 + Int32.ofInt 2) (fun v2 => f_X0_areStones_w_l2 I L n x0 x1 x2 v2)))))))))))
theorem ok_X0_areStones_w_l2 {d : Nat} (hd : 0 ≤ d){I : mI} {L : mL} : ∀ (n : Nat) (x0 : Nat) (x1 : Int32) (x2 : Int32) (x3 : Int32) (hx0 : x0 < 4) (o : Int32), f_X0_areStones_w_l2 I L n x0 x1 x2 x3 = some o → RR mX0_areStones d 2 [some (.ref (41 + x0)), some (.int x1), some (.int x2), some (.int x3), none, none] [] I L (retQ (some (.int o)) I L) := by
  intro n
  induction n with
  | zero => intro x0 x1 x2 x3 hx0 o h; rw [f_X0_areStones_w_l2] at h; cases h
  | succ n ih =>
    intro x0 x1 x2 x3 hx0 o h
    rw [f_X0_areStones_w_l2] at h
    refine r_iload_n (i := 3) dX0_areStones_2 rfl rfl ?_
    refine r_iload_n (i := 1) dX0_areStones_3 rfl rfl ?_
    refine r_iconst (v := 2) dX0_areStones_4 (by decide) ?_
    refine r_iload_n (i := 2) dX0_areStones_5 rfl rfl ?_
    refine r_imul dX0_areStones_6 ?_
    refine r_iadd dX0_areStones_7 ?_
    refine r_icmp_ge (tgt := 69) dX0_areStones_8 (by decide) (fun c => ?_) (fun c => ?_)
    · rw [if_pos c] at h
      refine r_iconst (v := 1) dX0_areStones_69 (by decide) ?_
      refine r_iret (by first | rfl | decide) dX0_areStones_70 ?_
      obtain rfl := Option.some.inj h
      exact ⟨rfl, rfl, rfl⟩
    · rw [if_neg c] at h
      refine r_aload_n (i := 0) dX0_areStones_11 rfl rfl ?_
      refine r_iload_n (i := 3) dX0_areStones_12 rfl rfl ?_
      refine r_iconst (v := 1) dX0_areStones_13 (by decide) ?_
      refine r_iadd dX0_areStones_14 ?_
      obtain ⟨hb, h⟩ := ck_some h
      refine r_lald (sh_row hx0) (inb_vp hb) dX0_areStones_15 ?_
      refine r_lstore dX0_areStones_16 (by decide) rfl ?_
      simp only [List.set_cons_zero, List.set_cons_succ]
      replace h := lt_some h
      refine r_aload_n (i := 0) dX0_areStones_18 rfl rfl ?_
      refine r_iload_n (i := 3) dX0_areStones_19 rfl rfl ?_
      obtain ⟨hb, h⟩ := ck_some h
      refine r_lald (sh_row hx0) (inb_vp hb) dX0_areStones_20 ?_
      refine r_lconst (v := 1) dX0_areStones_21 (by decide) ?_
      refine r_lcmp dX0_areStones_22 ?_
      refine r_if_lt (tgt := 61) dX0_areStones_23 (by decide) (fun c => ?_) (fun c => ?_)
      · rw [if_pos c] at h
        refine r_iconst (v := 0) dX0_areStones_61 (by decide) ?_
        refine r_iret (by first | rfl | decide) dX0_areStones_62 ?_
        obtain rfl := Option.some.inj h
        exact ⟨rfl, rfl, rfl⟩
      · rw [if_neg c] at h
        refine r_aload_n (i := 0) dX0_areStones_26 rfl rfl ?_
        refine r_iload_n (i := 3) dX0_areStones_27 rfl rfl ?_
        obtain ⟨hb, h⟩ := ck_some h
        refine r_lald (sh_row hx0) (inb_vp hb) dX0_areStones_28 ?_
        refine r_ldc2 n_X0_9 dX0_areStones_29 ?_
        refine r_lcmp dX0_areStones_32 ?_
        refine r_if_gt (tgt := 61) dX0_areStones_33 (by decide) (fun c => ?_) (fun c => ?_)
        · rw [if_pos c] at h
          refine r_iconst (v := 0) dX0_areStones_61 (by decide) ?_
          refine r_iret (by first | rfl | decide) dX0_areStones_62 ?_
          obtain rfl := Option.some.inj h
          exact ⟨rfl, rfl, rfl⟩
        · rw [if_neg c] at h
          refine r_lload dX0_areStones_36 rfl ?_
          refine r_ldc2 n_X0_13 dX0_areStones_38 ?_
          refine r_lcmp dX0_areStones_41 ?_
          refine r_if_lt (tgt := 61) dX0_areStones_42 (by decide) (fun c => ?_) (fun c => ?_)
          · rw [if_pos c] at h
            refine r_iconst (v := 0) dX0_areStones_61 (by decide) ?_
            refine r_iret (by first | rfl | decide) dX0_areStones_62 ?_
            obtain rfl := Option.some.inj h
            exact ⟨rfl, rfl, rfl⟩
          · rw [if_neg c] at h
            refine r_lload dX0_areStones_45 rfl ?_
            refine r_ldc2 n_X0_15 dX0_areStones_47 ?_
            refine r_lcmp dX0_areStones_50 ?_
            refine r_if_gt (tgt := 61) dX0_areStones_51 (by decide) (fun c => ?_) (fun c => ?_)
            · rw [if_pos c] at h
              refine r_iconst (v := 0) dX0_areStones_61 (by decide) ?_
              refine r_iret (by first | rfl | decide) dX0_areStones_62 ?_
              obtain rfl := Option.some.inj h
              exact ⟨rfl, rfl, rfl⟩
            · rw [if_neg c] at h
              refine r_lload dX0_areStones_54 rfl ?_
              refine r_lconst (v := 0) dX0_areStones_56 (by decide) ?_
              refine r_lcmp dX0_areStones_57 ?_
              refine r_if_ne (tgt := 63) dX0_areStones_58 (by decide) (fun c => ?_) (fun c => ?_)
              · rw [if_neg c] at h
                refine r_iinc (v := _) dX0_areStones_63 rfl rfl (by decide) rfl ?_
                simp only [List.set_cons_zero, List.set_cons_succ]
                replace h := lt_some h
                refine r_goto (tgt := 2) dX0_areStones_66 (by decide) ?_
                exact RR.wk (ih _ _ _ _ hx0 _ h) (And.intro rfl (And.intro rfl (And.intro rfl (And.intro rfl (trivial)))))
              · rw [if_pos c] at h
                refine r_iconst (v := 0) dX0_areStones_61 (by decide) ?_
                refine r_iret (by first | rfl | decide) dX0_areStones_62 ?_
                obtain rfl := Option.some.inj h
                exact ⟨rfl, rfl, rfl⟩
def f_X0_areStones_w (I : mI) (L : mL) (a0 : Nat) (a1 : Int32) (a2 : Int32) : Option Int32 := f_X0_areStones_w_l2 I L fuel a0 a1 a2 a1
theorem ok_X0_areStones_w {d : Nat} (hd : 0 ≤ d) {I : mI} {L : mL} {a0 : Nat} {a1 : Int32} {a2 : Int32} (hw0 : a0 < 4) {o : Int32} (h : f_X0_areStones_w I L a0 a1 a2 = some o) : RR mX0_areStones d 0 [some (.ref (41 + a0)), some (.int a1), some (.int a2), none, none, none] [] I L (retQ (some (.int o)) I L) := by
  unfold f_X0_areStones_w at h
  refine r_iload_n (i := 1) dX0_areStones_0 rfl rfl ?_
  refine r_istore_n (i := 3) dX0_areStones_1 rfl (by decide) rfl ?_
  simp only [List.set_cons_zero, List.set_cons_succ]
  exact RR.wk (ok_X0_areStones_w_l2 hd _ _ _ _ _ hw0 _ h) (And.intro rfl (And.intro rfl (And.intro rfl (And.intro rfl (trivial)))))
def f_X0_turning_1_w_b41 (I : mI) (L : mL) (k7 : Int32 → Int32 → Nat → Int32 → Int32 → Int32 → Int32 → Option Int32) (x1 : Int32) (x2 : Int32) (x3 : Nat) (x4 : Int32) (x5 : Int32) (x7 : Int32) (x8 : Int32) (s0 : Int32) (s2 : Int32) : Option Int32 := ck (inb x7 24) ((f_X7_weightAt_1 I L s0 ((L (41 + x3) x7.toNatClampNeg).toInt32)).bind (fun r2 => lt (s2 + (r2 * x8)) (fun v3 => lt (x7 + Int32.ofInt 2) (fun v4 => k7 x1 x2 x3 x4 x5 v3 v4))))
theorem ok_X0_turning_1_w_b41 {d : Nat} (hd : 3 ≤ d){I : mI} {L : mL} {k7 : Int32 → Int32 → Nat → Int32 → Int32 → Int32 → Int32 → Option Int32} (hk7 : ∀ (x1 : Int32) (x2 : Int32) (x3 : Nat) (x4 : Int32) (x5 : Int32) (x6 : Int32) (x7 : Int32) (hx3 : x3 < 4) (o : Int32), k7 x1 x2 x3 x4 x5 x6 x7 = some o → RR mX0_turning d 7 [some (.ref 1), some (.int x1), some (.int x2), some (.ref (41 + x3)), some (.int x4), some (.int x5), some (.int x6), some (.int x7), none] [] I L (retQ (some (.int o)) I L)) (x1 : Int32) (x2 : Int32) (x3 : Nat) (x4 : Int32) (x5 : Int32) (x7 : Int32) (x8 : Int32) (s0 : Int32) (s2 : Int32) (hx3 : x3 < 4) {o : Int32} (h : f_X0_turning_1_w_b41 I L k7 x1 x2 x3 x4 x5 x7 x8 s0 s2 = some o) : RR mX0_turning d 41 [some (.ref 1), some (.int x1), some (.int x2), some (.ref (41 + x3)), some (.int x4), some (.int x5), none, some (.int x7), some (.int x8)] [.int s0, .ref 1, .int s2] I L (retQ (some (.int o)) I L) := by
  unfold f_X0_turning_1_w_b41 at h
  refine r_aload_n (i := 3) dX0_turning_41 rfl rfl ?_
  refine r_iload dX0_turning_42 rfl ?_
  obtain ⟨hb, h⟩ := ck_some h
  refine r_lald (sh_row hx3) (inb_vp hb) dX0_turning_44 ?_
  refine r_l2i dX0_turning_45 ?_
  obtain ⟨r2, hr, h⟩ := bind_some h
  refine r_V (d' := 2) k_X0_17 dX0_turning_46 (by omega) rfl rfl rfl (Nat.le_of_ble_eq_true rfl) (Nat.le_of_ble_eq_true rfl) (ok_X7_weightAt_1 (Nat.le_refl _) hr) (fun v I' L' hq => ?_)
  obtain ⟨rfl, rfl, rfl⟩ := hq
  simp only [Option.toList_some, Option.toList_none, List.drop_succ_cons, List.drop_zero, List.drop_nil, List.cons_append, List.nil_append]
  refine r_iload dX0_turning_49 rfl ?_
  refine r_imul dX0_turning_51 ?_
  refine r_iadd dX0_turning_52 ?_
  refine r_istore dX0_turning_53 (by decide) rfl ?_
  simp only [List.set_cons_zero, List.set_cons_succ]
  replace h := lt_some h
  refine r_iinc (v := _) dX0_turning_55 rfl rfl (by decide) rfl ?_
  simp only [List.set_cons_zero, List.set_cons_succ]
  replace h := lt_some h
  refine r_goto (tgt := 7) dX0_turning_58 (by decide) ?_
  exact RR.wk (hk7 _ _ _ _ _ _ _ hx3 _ h) (And.intro rfl (And.intro rfl (And.intro rfl (And.intro rfl (And.intro rfl (And.intro rfl (And.intro rfl (And.intro rfl (trivial)))))))))
def f_X0_turning_1_w_l7 (I : mI) (L : mL) : Nat → Int32 → Int32 → Nat → Int32 → Int32 → Int32 → Int32 → Option Int32
  | 0, _, _, _, _, _, _, _ => none
  | n + 1, x1, x2, x3, x4, x5, x6, x7 => if (x4 + (2 * x5)) ≤ x7 then (some x6) else (ck (inb (x7 + 1) 24) (lt ((L (41 + x3) (x7 + 1).toNatClampNeg).toInt32) (fun v1 => if 0 ≤ v1 then (f_X0_turning_1_w_b41 I L (f_X0_turning_1_w_l7 I L n) x1 x2 x3 x4 x5 x7 v1 x2 x6) else (f_X0_turning_1_w_b41 I L (f_X0_turning_1_w_l7 I L n) x1 x2 x3 x4 x5 x7 v1 x1 x6))))
theorem ok_X0_turning_1_w_l7 {d : Nat} (hd : 3 ≤ d){I : mI} {L : mL} : ∀ (n : Nat) (x1 : Int32) (x2 : Int32) (x3 : Nat) (x4 : Int32) (x5 : Int32) (x6 : Int32) (x7 : Int32) (hx3 : x3 < 4) (o : Int32), f_X0_turning_1_w_l7 I L n x1 x2 x3 x4 x5 x6 x7 = some o → RR mX0_turning d 7 [some (.ref 1), some (.int x1), some (.int x2), some (.ref (41 + x3)), some (.int x4), some (.int x5), some (.int x6), some (.int x7), none] [] I L (retQ (some (.int o)) I L) := by
  intro n
  induction n with
  | zero => intro x1 x2 x3 x4 x5 x6 x7 hx3 o h; rw [f_X0_turning_1_w_l7] at h; cases h
  | succ n ih =>
    intro x1 x2 x3 x4 x5 x6 x7 hx3 o h
    rw [f_X0_turning_1_w_l7] at h
    refine r_iload dX0_turning_7 rfl ?_
    refine r_iload dX0_turning_9 rfl ?_
    refine r_iconst (v := 2) dX0_turning_11 (by decide) ?_
    refine r_iload dX0_turning_12 rfl ?_
    refine r_imul dX0_turning_14 ?_
    refine r_iadd dX0_turning_15 ?_
    refine r_icmp_ge (tgt := 61) dX0_turning_16 (by decide) (fun c => ?_) (fun c => ?_)
    · rw [if_pos c] at h
      refine r_iload dX0_turning_61 rfl ?_
      refine r_iret (by first | rfl | decide) dX0_turning_63 ?_
      obtain rfl := Option.some.inj h
      exact ⟨rfl, rfl, rfl⟩
    · rw [if_neg c] at h
      refine r_aload_n (i := 3) dX0_turning_19 rfl rfl ?_
      refine r_iload dX0_turning_20 rfl ?_
      refine r_iconst (v := 1) dX0_turning_22 (by decide) ?_
      refine r_iadd dX0_turning_23 ?_
      obtain ⟨hb, h⟩ := ck_some h
      refine r_lald (sh_row hx3) (inb_vp hb) dX0_turning_24 ?_
      refine r_l2i dX0_turning_25 ?_
      refine r_istore dX0_turning_26 (by decide) rfl ?_
      simp only [List.set_cons_zero, List.set_cons_succ]
      replace h := lt_some h
      refine r_iload dX0_turning_28 rfl ?_
      refine r_aload_n (i := 0) dX0_turning_30 rfl rfl ?_
      refine r_iload dX0_turning_31 rfl ?_
      refine r_if_ge (tgt := 40) dX0_turning_33 (by decide) (fun c => ?_) (fun c => ?_)
      · rw [if_pos c] at h
        refine r_iload_n (i := 2) dX0_turning_40 rfl rfl ?_
        exact RR.wk (ok_X0_turning_1_w_b41 hd ih _ _ _ _ _ _ _ _ _ hx3 h) (And.intro rfl (And.intro rfl (And.intro rfl (And.intro rfl (And.intro rfl (And.intro rfl (And.intro rfl (And.intro rfl (trivial)))))))))
      · rw [if_neg c] at h
        refine r_iload_n (i := 1) dX0_turning_36 rfl rfl ?_
        refine r_goto (tgt := 41) dX0_turning_37 (by decide) ?_
        exact RR.wk (ok_X0_turning_1_w_b41 hd ih _ _ _ _ _ _ _ _ _ hx3 h) (And.intro rfl (And.intro rfl (And.intro rfl (And.intro rfl (And.intro rfl (And.intro rfl (And.intro rfl (And.intro rfl (trivial)))))))))
def f_X0_turning_1_w (I : mI) (L : mL) (a1 : Int32) (a2 : Int32) (a3 : Nat) (a4 : Int32) (a5 : Int32) : Option Int32 := f_X0_turning_1_w_l7 I L fuel a1 a2 a3 a4 a5 0 a4
theorem ok_X0_turning_1_w {d : Nat} (hd : 3 ≤ d) {I : mI} {L : mL} {a1 : Int32} {a2 : Int32} {a3 : Nat} {a4 : Int32} {a5 : Int32} (hw3 : a3 < 4) {o : Int32} (h : f_X0_turning_1_w I L a1 a2 a3 a4 a5 = some o) : RR mX0_turning d 0 [some (.ref 1), some (.int a1), some (.int a2), some (.ref (41 + a3)), some (.int a4), some (.int a5), none, none, none] [] I L (retQ (some (.int o)) I L) := by
  unfold f_X0_turning_1_w at h
  refine r_iconst (v := 0) dX0_turning_0 (by decide) ?_
  refine r_istore dX0_turning_1 (by decide) rfl ?_
  simp only [List.set_cons_zero, List.set_cons_succ]
  refine r_iload dX0_turning_3 rfl ?_
  refine r_istore dX0_turning_5 (by decide) rfl ?_
  simp only [List.set_cons_zero, List.set_cons_succ]
  exact RR.wk (ok_X0_turning_1_w_l7 hd _ _ _ _ _ _ _ _ hw3 _ h) (And.intro rfl (And.intro rfl (And.intro rfl (And.intro rfl (And.intro rfl (And.intro rfl (And.intro rfl (And.intro rfl (trivial)))))))))
def f_X0_stonesFor (I : mI) (L : mL) (a0 : Int32) : Option Int32 := some (((a0 + 6) - 1) / 6)
theorem ok_X0_stonesFor {d : Nat} (hd : 0 ≤ d) {I : mI} {L : mL} {a0 : Int32} {o : Int32} (h : f_X0_stonesFor I L a0 = some o) : RR mX0_stonesFor d 0 [some (.int a0)] [] I L (retQ (some (.int o)) I L) := by
  unfold f_X0_stonesFor at h
  refine r_iload_n (i := 0) dX0_stonesFor_0 rfl rfl ?_
  refine r_bipush (v := 6) dX0_stonesFor_1 (by decide) ?_
  refine r_iadd dX0_stonesFor_3 ?_
  refine r_iconst (v := 1) dX0_stonesFor_4 (by decide) ?_
  refine r_isub dX0_stonesFor_5 ?_
  refine r_bipush (v := 6) dX0_stonesFor_6 (by decide) ?_
  refine r_idiv dX0_stonesFor_8 (by decide) ?_
  refine r_iret (by first | rfl | decide) dX0_stonesFor_9 ?_
  obtain rfl := Option.some.inj h
  exact ⟨rfl, rfl, rfl⟩
def f_X0_fewest_b43 (I : mI) (L : mL) (k6 : Int32 → Int32 → Int32 → Int32 → Int32 → Option Int32) (x0 : Int32) (x1 : Int32) (x2 : Int32) (x3 : Int32) (x4 : Int32) (x5 : Int32) (s0 : Int32) : Option Int32 := if x5 < 0 then (lt (x4 + Int32.ofInt 1) (fun v3 => k6 x0 x1 x2 x3 v3)) else (if (s0 * x1) = x5 then ((f_X0_stonesFor I L x4).bind (fun r5 => (f_X0_stonesFor I L s0).bind (fun r6 => lt ((if (r5 + r6) < x3 then (r5 + r6) else x3)) (fun v7 => lt (x4 + Int32.ofInt 1) (fun v8 => k6 x0 x1 x2 v7 v8))))) else (lt (x4 + Int32.ofInt 1) (fun v4 => k6 x0 x1 x2 x3 v4)))
theorem ok_X0_fewest_b43 {d : Nat} (hd : 1 ≤ d){I : mI} {L : mL} {k6 : Int32 → Int32 → Int32 → Int32 → Int32 → Option Int32} (hk6 : ∀ (x0 : Int32) (x1 : Int32) (x2 : Int32) (x3 : Int32) (x4 : Int32) (o : Int32), k6 x0 x1 x2 x3 x4 = some o → RR mX0_fewest d 6 [some (.int x0), some (.int x1), some (.int x2), some (.int x3), some (.int x4), none, none] [] I L (retQ (some (.int o)) I L)) (x0 : Int32) (x1 : Int32) (x2 : Int32) (x3 : Int32) (x4 : Int32) (x5 : Int32) (s0 : Int32) {o : Int32} (h : f_X0_fewest_b43 I L k6 x0 x1 x2 x3 x4 x5 s0 = some o) : RR mX0_fewest d 43 [some (.int x0), some (.int x1), some (.int x2), some (.int x3), some (.int x4), some (.int x5), none] [.int s0] I L (retQ (some (.int o)) I L) := by
  unfold f_X0_fewest_b43 at h
  refine r_istore dX0_fewest_43 (by decide) rfl ?_
  simp only [List.set_cons_zero, List.set_cons_succ]
  refine r_iload dX0_fewest_45 rfl ?_
  refine r_if_lt (tgt := 75) dX0_fewest_47 (by decide) (fun c => ?_) (fun c => ?_)
  · rw [if_pos c] at h
    refine r_iinc (v := _) dX0_fewest_75 rfl rfl (by decide) rfl ?_
    simp only [List.set_cons_zero, List.set_cons_succ]
    replace h := lt_some h
    refine r_goto (tgt := 6) dX0_fewest_78 (by decide) ?_
    exact RR.wk (hk6 _ _ _ _ _ _ h) (And.intro rfl (And.intro rfl (And.intro rfl (And.intro rfl (And.intro rfl (trivial))))))
  · rw [if_neg c] at h
    refine r_iload dX0_fewest_50 rfl ?_
    refine r_iload_n (i := 1) dX0_fewest_52 rfl rfl ?_
    refine r_imul dX0_fewest_53 ?_
    refine r_iload dX0_fewest_54 rfl ?_
    refine r_icmp_ne (tgt := 75) dX0_fewest_56 (by decide) (fun c => ?_) (fun c => ?_)
    · rw [if_neg c] at h
      refine r_iinc (v := _) dX0_fewest_75 rfl rfl (by decide) rfl ?_
      simp only [List.set_cons_zero, List.set_cons_succ]
      replace h := lt_some h
      refine r_goto (tgt := 6) dX0_fewest_78 (by decide) ?_
      exact RR.wk (hk6 _ _ _ _ _ _ h) (And.intro rfl (And.intro rfl (And.intro rfl (And.intro rfl (And.intro rfl (trivial))))))
    · rw [if_pos c] at h
      refine r_iload_n (i := 3) dX0_fewest_59 rfl rfl ?_
      refine r_iload dX0_fewest_60 rfl ?_
      obtain ⟨r5, hr, h⟩ := bind_some h
      refine r_S (d' := 0) k_X0_23 dX0_fewest_62 (by omega) rfl (Nat.le_of_ble_eq_true rfl) (Nat.le_of_ble_eq_true rfl) (ok_X0_stonesFor (Nat.le_refl _) hr) (fun v I' L' hq => ?_)
      obtain ⟨rfl, rfl, rfl⟩ := hq
      simp only [Option.toList_some, Option.toList_none, List.drop_succ_cons, List.drop_zero, List.drop_nil, List.cons_append, List.nil_append]
      refine r_iload dX0_fewest_65 rfl ?_
      obtain ⟨r6, hr, h⟩ := bind_some h
      refine r_S (d' := 0) k_X0_23 dX0_fewest_67 (by omega) rfl (Nat.le_of_ble_eq_true rfl) (Nat.le_of_ble_eq_true rfl) (ok_X0_stonesFor (Nat.le_refl _) hr) (fun v I' L' hq => ?_)
      obtain ⟨rfl, rfl, rfl⟩ := hq
      simp only [Option.toList_some, Option.toList_none, List.drop_succ_cons, List.drop_zero, List.drop_nil, List.cons_append, List.nil_append]
      refine r_iadd dX0_fewest_70 ?_
      refine r_mmin k_X0_27 dX0_fewest_71 (by omega) (Nat.le_of_ble_eq_true rfl) ?_
      refine r_istore_n (i := 3) dX0_fewest_74 rfl (by decide) rfl ?_
      simp only [List.set_cons_zero, List.set_cons_succ]
      replace h := lt_some h
      refine r_iinc (v := _) dX0_fewest_75 rfl rfl (by decide) rfl ?_
      simp only [List.set_cons_zero, List.set_cons_succ]
      replace h := lt_some h
      refine r_goto (tgt := 6) dX0_fewest_78 (by decide) ?_
      exact RR.wk (hk6 _ _ _ _ _ _ h) (And.intro rfl (And.intro rfl (And.intro rfl (And.intro rfl (And.intro rfl (trivial))))))
def f_X0_fewest_l6 (I : mI) (L : mL) : Nat → Int32 → Int32 → Int32 → Int32 → Int32 → Option Int32
  | 0, _, _, _, _, _ => none
  | n + 1, x0, x1, x2, x3, x4 => if 180 < x4 then (some x3) else ((f_X0_stonesFor I L x4).bind (fun r1 => if x3 ≤ r1 then (some x3) else (lt (x0 + (x2 * x4)) (fun v2 => if x1 ≤ 0 then (f_X0_fewest_b43 I L (f_X0_fewest_l6 I L n) x0 x1 x2 x3 x4 v2 0) else (ck (nz x1) (f_X0_fewest_b43 I L (f_X0_fewest_l6 I L n) x0 x1 x2 x3 x4 v2 (v2 / x1)))))))
theorem ok_X0_fewest_l6 {d : Nat} (hd : 1 ≤ d){I : mI} {L : mL} : ∀ (n : Nat) (x0 : Int32) (x1 : Int32) (x2 : Int32) (x3 : Int32) (x4 : Int32) (o : Int32), f_X0_fewest_l6 I L n x0 x1 x2 x3 x4 = some o → RR mX0_fewest d 6 [some (.int x0), some (.int x1), some (.int x2), some (.int x3), some (.int x4), none, none] [] I L (retQ (some (.int o)) I L) := by
  intro n
  induction n with
  | zero => intro x0 x1 x2 x3 x4 o h; rw [f_X0_fewest_l6] at h; cases h
  | succ n ih =>
    intro x0 x1 x2 x3 x4 o h
    rw [f_X0_fewest_l6] at h
    refine r_iload dX0_fewest_6 rfl ?_
    refine r_sipush (v := 180) dX0_fewest_8 (by decide) ?_
    refine r_icmp_gt (tgt := 81) dX0_fewest_11 (by decide) (fun c => ?_) (fun c => ?_)
    · rw [if_pos c] at h
      refine r_iload_n (i := 3) dX0_fewest_81 rfl rfl ?_
      refine r_iret (by first | rfl | decide) dX0_fewest_82 ?_
      obtain rfl := Option.some.inj h
      exact ⟨rfl, rfl, rfl⟩
    · rw [if_neg c] at h
      refine r_iload dX0_fewest_14 rfl ?_
      obtain ⟨r1, hr, h⟩ := bind_some h
      refine r_S (d' := 0) k_X0_23 dX0_fewest_16 (by omega) rfl (Nat.le_of_ble_eq_true rfl) (Nat.le_of_ble_eq_true rfl) (ok_X0_stonesFor (Nat.le_refl _) hr) (fun v I' L' hq => ?_)
      obtain ⟨rfl, rfl, rfl⟩ := hq
      simp only [Option.toList_some, Option.toList_none, List.drop_succ_cons, List.drop_zero, List.drop_nil, List.cons_append, List.nil_append]
      refine r_iload_n (i := 3) dX0_fewest_19 rfl rfl ?_
      refine r_icmp_ge (tgt := 81) dX0_fewest_20 (by decide) (fun c => ?_) (fun c => ?_)
      · rw [if_pos c] at h
        refine r_iload_n (i := 3) dX0_fewest_81 rfl rfl ?_
        refine r_iret (by first | rfl | decide) dX0_fewest_82 ?_
        obtain rfl := Option.some.inj h
        exact ⟨rfl, rfl, rfl⟩
      · rw [if_neg c] at h
        refine r_iload_n (i := 0) dX0_fewest_23 rfl rfl ?_
        refine r_iload_n (i := 2) dX0_fewest_24 rfl rfl ?_
        refine r_iload dX0_fewest_25 rfl ?_
        refine r_imul dX0_fewest_27 ?_
        refine r_iadd dX0_fewest_28 ?_
        refine r_istore dX0_fewest_29 (by decide) rfl ?_
        simp only [List.set_cons_zero, List.set_cons_succ]
        replace h := lt_some h
        refine r_iload_n (i := 1) dX0_fewest_31 rfl rfl ?_
        refine r_if_le (tgt := 42) dX0_fewest_32 (by decide) (fun c => ?_) (fun c => ?_)
        · rw [if_pos c] at h
          refine r_iconst (v := 0) dX0_fewest_42 (by decide) ?_
          exact RR.wk (ok_X0_fewest_b43 hd ih _ _ _ _ _ _ _ h) (And.intro rfl (And.intro rfl (And.intro rfl (And.intro rfl (And.intro rfl (And.intro rfl (trivial)))))))
        · rw [if_neg c] at h
          refine r_iload dX0_fewest_35 rfl ?_
          refine r_iload_n (i := 1) dX0_fewest_37 rfl rfl ?_
          obtain ⟨hb, h⟩ := ck_some h
          refine r_idiv dX0_fewest_38 (nz_ne hb) ?_
          refine r_goto (tgt := 43) dX0_fewest_39 (by decide) ?_
          exact RR.wk (ok_X0_fewest_b43 hd ih _ _ _ _ _ _ _ h) (And.intro rfl (And.intro rfl (And.intro rfl (And.intro rfl (And.intro rfl (And.intro rfl (trivial)))))))
def f_X0_fewest (I : mI) (L : mL) (a0 : Int32) (a1 : Int32) (a2 : Int32) : Option Int32 := f_X0_fewest_l6 I L fuel a0 a1 a2 31 0
theorem ok_X0_fewest {d : Nat} (hd : 1 ≤ d) {I : mI} {L : mL} {a0 : Int32} {a1 : Int32} {a2 : Int32} {o : Int32} (h : f_X0_fewest I L a0 a1 a2 = some o) : RR mX0_fewest d 0 [some (.int a0), some (.int a1), some (.int a2), none, none, none, none] [] I L (retQ (some (.int o)) I L) := by
  unfold f_X0_fewest at h
  refine r_bipush (v := 31) dX0_fewest_0 (by decide) ?_
  refine r_istore_n (i := 3) dX0_fewest_2 rfl (by decide) rfl ?_
  simp only [List.set_cons_zero, List.set_cons_succ]
  refine r_iconst (v := 0) dX0_fewest_3 (by decide) ?_
  refine r_istore dX0_fewest_4 (by decide) rfl ?_
  simp only [List.set_cons_zero, List.set_cons_succ]
  exact RR.wk (ok_X0_fewest_l6 hd _ _ _ _ _ _ _ h) (And.intro rfl (And.intro rfl (And.intro rfl (And.intro rfl (And.intro rfl (trivial))))))
