def f_X9_law_55_l49 : Nat → Int32 → Int32 → Int32 → mI → mL → rI
  | 0, _, _, _, _, _ => none
  | n + 1, x3, x4, x5, I, L => if x3 ≤ x5 then (some (x4, I, L)) else ((f_J6_bitCount_0f7a4 I L x5).bind (fun r6 => (f_J6_bitCount_0f7a4 I L x4).bind (fun r7 => if r7 ≤ r6 then (lt (x5 + Int32.ofInt 1) (fun v8 => f_X9_law_55_l49 n x3 x4 v8 I L)) else ((f_X9_endsGains_55 I L x5).bind (fun r9 => if r9 = 0 then (lt (x5 + Int32.ofInt 1) (fun v10 => f_X9_law_55_l49 n x3 x4 v10 I L)) else (lt (x5 + Int32.ofInt 1) (fun v11 => f_X9_law_55_l49 n x3 x5 v11 I L)))))))
theorem ok_X9_law_55_l49 {d : Nat} (hd : 5 ≤ d) : ∀ (n : Nat) (x3 : Int32) (x4 : Int32) (x5 : Int32) (I : mI) (L : mL) (o : Int32 × mI × mL), f_X9_law_55_l49 n x3 x4 x5 I L = some o → RR mX9_law d 49 [some (.ref 55), none, none, some (.int x3), some (.int x4), some (.int x5)] [] I L (retQ (some (.int o.1)) o.2.1 o.2.2) := by
  intro n
  induction n with
  | zero => intro x3 x4 x5 I L o h; rw [f_X9_law_55_l49] at h; cases h
  | succ n ih =>
    intro x3 x4 x5 I L o h
    rw [f_X9_law_55_l49] at h
    refine r_iload dX9_law_49 rfl ?_
    refine r_iload_n (i := 3) dX9_law_51 rfl rfl ?_
    refine r_icmp_ge (tgt := 87) dX9_law_52 (by decide) (fun c => ?_) (fun c => ?_)
    · rw [if_pos c] at h
      refine r_iload dX9_law_87 rfl ?_
      refine r_iret (by first | rfl | decide) dX9_law_89 ?_
      obtain rfl := Option.some.inj h
      exact ⟨rfl, rfl, rfl⟩
    · rw [if_neg c] at h
      refine r_iload dX9_law_55 rfl ?_
      obtain ⟨r6, hr, h⟩ := bind_some h
      refine r_S (d' := 0) k_X9_64 dX9_law_57 (by omega) rfl (Nat.le_of_ble_eq_true rfl) (Nat.le_of_ble_eq_true rfl) (ok_J6_bitCount_0f7a4 (Nat.le_refl _) hr) (fun v I' L' hq => ?_)
      obtain ⟨rfl, rfl, rfl⟩ := hq
      simp only [Option.toList_some, Option.toList_none, List.drop_succ_cons, List.drop_zero, List.drop_nil, List.cons_append, List.nil_append]
      refine r_iload dX9_law_60 rfl ?_
      obtain ⟨r7, hr, h⟩ := bind_some h
      refine r_S (d' := 0) k_X9_64 dX9_law_62 (by omega) rfl (Nat.le_of_ble_eq_true rfl) (Nat.le_of_ble_eq_true rfl) (ok_J6_bitCount_0f7a4 (Nat.le_refl _) hr) (fun v I' L' hq => ?_)
      obtain ⟨rfl, rfl, rfl⟩ := hq
      simp only [Option.toList_some, Option.toList_none, List.drop_succ_cons, List.drop_zero, List.drop_nil, List.cons_append, List.nil_append]
      refine r_icmp_ge (tgt := 81) dX9_law_65 (by decide) (fun c => ?_) (fun c => ?_)
      · rw [if_pos c] at h
        refine r_iinc (v := _) dX9_law_81 rfl rfl (by decide) rfl ?_
        simp only [List.set_cons_zero, List.set_cons_succ]
        replace h := lt_some h
        refine r_goto (tgt := 49) dX9_law_84 (by decide) ?_
        exact RR.wk (ih _ _ _ _ _ _ h) (And.intro rfl (And.intro rfl (And.intro rfl (And.intro rfl (trivial)))))
      · rw [if_neg c] at h
        refine r_aload_n (i := 0) dX9_law_68 rfl rfl ?_
        refine r_iload dX9_law_69 rfl ?_
        obtain ⟨r9, hr, h⟩ := bind_some h
        refine r_V (d' := 0) k_X9_70 dX9_law_71 (by omega) rfl rfl rfl (Nat.le_of_ble_eq_true rfl) (Nat.le_of_ble_eq_true rfl) (ok_X9_endsGains_55 (Nat.le_refl _) hr) (fun v I' L' hq => ?_)
        obtain ⟨rfl, rfl, rfl⟩ := hq
        simp only [Option.toList_some, Option.toList_none, List.drop_succ_cons, List.drop_zero, List.drop_nil, List.cons_append, List.nil_append]
        refine r_if_eq (tgt := 81) dX9_law_74 (by decide) (fun c => ?_) (fun c => ?_)
        · rw [if_pos c] at h
          refine r_iinc (v := _) dX9_law_81 rfl rfl (by decide) rfl ?_
          simp only [List.set_cons_zero, List.set_cons_succ]
          replace h := lt_some h
          refine r_goto (tgt := 49) dX9_law_84 (by decide) ?_
          exact RR.wk (ih _ _ _ _ _ _ h) (And.intro rfl (And.intro rfl (And.intro rfl (And.intro rfl (trivial)))))
        · rw [if_neg c] at h
          refine r_iload dX9_law_77 rfl ?_
          refine r_istore dX9_law_79 (by decide) rfl ?_
          simp only [List.set_cons_zero, List.set_cons_succ]
          refine r_iinc (v := _) dX9_law_81 rfl rfl (by decide) rfl ?_
          simp only [List.set_cons_zero, List.set_cons_succ]
          replace h := lt_some h
          refine r_goto (tgt := 49) dX9_law_84 (by decide) ?_
          exact RR.wk (ih _ _ _ _ _ _ h) (And.intro rfl (And.intro rfl (And.intro rfl (And.intro rfl (trivial)))))
def f_X9_law_55 (I : mI) (L : mL) (a1 : Int32) (a2 : Int32) : rI := bndV (f_X9_findValues_55 I L a1 a2) (fun Ir1 Lr1 => ck (inb a1 6) (ck (inb a1 6) (bndV (f_X9_findGains_55 Ir1 Lr1 (((Ir1 11 a1.toNatClampNeg) * 5) * (Ir1 10 a1.toNatClampNeg))) (fun Ir3 Lr3 => lt (((1 : Int32) <<< ((Ir3 48 8) &&& 31)) - 1) (fun v5 => f_X9_law_55_l49 fuel v5 v5 0 Ir3 Lr3)))))
theorem ok_X9_law_55 {d : Nat} (hd : 5 ≤ d) {I : mI} {L : mL} {a1 : Int32} {a2 : Int32} {o : Int32 × mI × mL} (h : f_X9_law_55 I L a1 a2 = some o) : RR mX9_law d 0 [some (.ref 55), some (.int a1), some (.int a2), none, none, none] [] I L (retQ (some (.int o.1)) o.2.1 o.2.2) := by
  unfold f_X9_law_55 at h
  refine r_aload_n (i := 0) dX9_law_0 rfl rfl ?_
  refine r_iload_n (i := 1) dX9_law_1 rfl rfl ?_
  refine r_iload_n (i := 2) dX9_law_2 rfl rfl ?_
  obtain ⟨⟨Ir1, Lr1⟩, hr, h⟩ := bind_some h
  refine r_V (d' := 4) k_X9_34 dX9_law_3 (by omega) rfl rfl rfl (Nat.le_of_ble_eq_true rfl) (Nat.le_of_ble_eq_true rfl) (ok_X9_findValues_55 (Nat.le_refl _) hr) (fun v I' L' hq => ?_)
  obtain ⟨rfl, rfl, rfl⟩ := hq
  simp only [Option.toList_some, Option.toList_none, List.drop_succ_cons, List.drop_zero, List.drop_nil, List.cons_append, List.nil_append]
  dsimp only at h
  refine r_aload_n (i := 0) dX9_law_6 rfl rfl ?_
  refine r_aload_n (i := 0) dX9_law_7 rfl rfl ?_
  refine r_getR f_X9_26 dX9_law_8 rfl rfl ?_
  refine r_getR f_X9_52 dX9_law_11 rfl rfl ?_
  refine r_iload_n (i := 1) dX9_law_14 rfl rfl ?_
  obtain ⟨hb, h⟩ := ck_some h
  refine r_iald rfl (inb_vp hb) dX9_law_15 ?_
  refine r_iconst (v := 5) dX9_law_16 (by decide) ?_
  refine r_imul dX9_law_17 ?_
  refine r_aload_n (i := 0) dX9_law_18 rfl rfl ?_
  refine r_getR f_X9_26 dX9_law_19 rfl rfl ?_
  refine r_getR f_X9_57 dX9_law_22 rfl rfl ?_
  refine r_iload_n (i := 1) dX9_law_25 rfl rfl ?_
  obtain ⟨hb, h⟩ := ck_some h
  refine r_iald rfl (inb_vp hb) dX9_law_26 ?_
  refine r_imul dX9_law_27 ?_
  obtain ⟨⟨Ir3, Lr3⟩, hr, h⟩ := bind_some h
  refine r_V (d' := 1) k_X9_60 dX9_law_28 (by omega) rfl rfl rfl (Nat.le_of_ble_eq_true rfl) (Nat.le_of_ble_eq_true rfl) (ok_X9_findGains_55 (Nat.le_refl _) hr) (fun v I' L' hq => ?_)
  obtain ⟨rfl, rfl, rfl⟩ := hq
  simp only [Option.toList_some, Option.toList_none, List.drop_succ_cons, List.drop_zero, List.drop_nil, List.cons_append, List.nil_append]
  dsimp only at h
  refine r_iconst (v := 1) dX9_law_31 (by decide) ?_
  refine r_aload_n (i := 0) dX9_law_32 rfl rfl ?_
  refine r_getR f_X9_30 dX9_law_33 rfl rfl ?_
  refine r_getI f_X9_38 dX9_law_36 rfl rfl ?_
  refine r_ishl dX9_law_39 ?_
  refine r_iconst (v := 1) dX9_law_40 (by decide) ?_
  refine r_isub dX9_law_41 ?_
  refine r_istore_n (i := 3) dX9_law_42 rfl (by decide) rfl ?_
  simp only [List.set_cons_zero, List.set_cons_succ]
  replace h := lt_some h
  refine r_iload_n (i := 3) dX9_law_43 rfl rfl ?_
  refine r_istore dX9_law_44 (by decide) rfl ?_
  simp only [List.set_cons_zero, List.set_cons_succ]
  refine r_iconst (v := 0) dX9_law_46 (by decide) ?_
  refine r_istore dX9_law_47 (by decide) rfl ?_
  simp only [List.set_cons_zero, List.set_cons_succ]
  exact RR.wk (ok_X9_law_55_l49 hd _ _ _ _ _ _ _ h) (And.intro rfl (And.intro rfl (And.intro rfl (And.intro rfl (trivial)))))
def f_X10_scales_0 (I : mI) (L : mL) (a1 : Int32) (a2 : Int32) : rI := (f_X7_hasGood_1 I L a1).bind (fun r1 => if r1 = 0 then (some ((-1), I, L)) else ((f_X7_hasCart_1 I L a2).bind (fun r2 => if r2 = 0 then (some ((-1), I, L)) else (bndI (f_X9_law_55 I L a1 a2) (fun r3 Ir3 Lr3 => some (r3, Ir3, Lr3))))))
theorem ok_X10_scales_0 {d : Nat} (hd : 6 ≤ d) {I : mI} {L : mL} {a1 : Int32} {a2 : Int32} {o : Int32 × mI × mL} (h : f_X10_scales_0 I L a1 a2 = some o) : RR mX10_scales d 0 [some (.ref 0), some (.int a1), some (.int a2)] [] I L (retQ (some (.int o.1)) o.2.1 o.2.2) := by
  unfold f_X10_scales_0 at h
  refine r_aload_n (i := 0) dX10_scales_0 rfl rfl ?_
  refine r_getR f_X10_10 dX10_scales_1 rfl rfl ?_
  refine r_iload_n (i := 1) dX10_scales_4 rfl rfl ?_
  obtain ⟨r1, hr, h⟩ := bind_some h
  refine r_V (d' := 0) k_X10_128 dX10_scales_5 (by omega) rfl rfl rfl (Nat.le_of_ble_eq_true rfl) (Nat.le_of_ble_eq_true rfl) (ok_X7_hasGood_1 (Nat.le_refl _) hr) (fun v I' L' hq => ?_)
  obtain ⟨rfl, rfl, rfl⟩ := hq
  simp only [Option.toList_some, Option.toList_none, List.drop_succ_cons, List.drop_zero, List.drop_nil, List.cons_append, List.nil_append]
  refine r_if_eq (tgt := 22) dX10_scales_8 (by decide) (fun c => ?_) (fun c => ?_)
  · rw [if_pos c] at h
    refine r_iconst (v := (-1)) dX10_scales_22 (by decide) ?_
    refine r_iret (by first | rfl | decide) dX10_scales_23 ?_
    obtain rfl := Option.some.inj h
    exact ⟨rfl, rfl, rfl⟩
  · rw [if_neg c] at h
    refine r_aload_n (i := 0) dX10_scales_11 rfl rfl ?_
    refine r_getR f_X10_10 dX10_scales_12 rfl rfl ?_
    refine r_iload_n (i := 2) dX10_scales_15 rfl rfl ?_
    obtain ⟨r2, hr, h⟩ := bind_some h
    refine r_V (d' := 0) k_X10_210 dX10_scales_16 (by omega) rfl rfl rfl (Nat.le_of_ble_eq_true rfl) (Nat.le_of_ble_eq_true rfl) (ok_X7_hasCart_1 (Nat.le_refl _) hr) (fun v I' L' hq => ?_)
    obtain ⟨rfl, rfl, rfl⟩ := hq
    simp only [Option.toList_some, Option.toList_none, List.drop_succ_cons, List.drop_zero, List.drop_nil, List.cons_append, List.nil_append]
    refine r_if_ne (tgt := 24) dX10_scales_19 (by decide) (fun c => ?_) (fun c => ?_)
    · rw [if_neg c] at h
      refine r_aload_n (i := 0) dX10_scales_24 rfl rfl ?_
      refine r_getR f_X10_47 dX10_scales_25 rfl rfl ?_
      refine r_iload_n (i := 1) dX10_scales_28 rfl rfl ?_
      refine r_iload_n (i := 2) dX10_scales_29 rfl rfl ?_
      obtain ⟨⟨r3, Ir3, Lr3⟩, hr, h⟩ := bind_some h
      refine r_V (d' := 5) k_X10_259 dX10_scales_30 (by omega) rfl rfl rfl (Nat.le_of_ble_eq_true rfl) (Nat.le_of_ble_eq_true rfl) (ok_X9_law_55 (Nat.le_refl _) hr) (fun v I' L' hq => ?_)
      obtain ⟨rfl, rfl, rfl⟩ := hq
      simp only [Option.toList_some, Option.toList_none, List.drop_succ_cons, List.drop_zero, List.drop_nil, List.cons_append, List.nil_append]
      dsimp only at h
      refine r_iret (by first | rfl | decide) dX10_scales_33 ?_
      obtain rfl := Option.some.inj h
      exact ⟨rfl, rfl, rfl⟩
    · rw [if_pos c] at h
      refine r_iconst (v := (-1)) dX10_scales_22 (by decide) ?_
      refine r_iret (by first | rfl | decide) dX10_scales_23 ?_
      obtain rfl := Option.some.inj h
      exact ⟨rfl, rfl, rfl⟩
def f_X2_takeOf_60_l13 : Nat → Int32 → Int32 → Int32 → mI → mL → rI
  | 0, _, _, _, _, _ => none
  | n + 1, x1, x3, x4, I, L => if (I 1 10) ≤ x4 then (some (x3, I, L)) else (bndI (f_X5_marketOf_48 I L x4) (fun r3 Ir3 Lr3 => if r3 = x1 then (lt (x3 + Int32.ofInt 1) (fun v6 => lt (x4 + Int32.ofInt 1) (fun v7 => f_X2_takeOf_60_l13 n x1 v6 v7 Ir3 Lr3))) else (lt (x4 + Int32.ofInt 1) (fun v5 => f_X2_takeOf_60_l13 n x1 x3 v5 Ir3 Lr3))))
theorem ok_X2_takeOf_60_l13 {d : Nat} (hd : 5 ≤ d) : ∀ (n : Nat) (x1 : Int32) (x3 : Int32) (x4 : Int32) (I : mI) (L : mL) (o : Int32 × mI × mL), f_X2_takeOf_60_l13 n x1 x3 x4 I L = some o → RR mX2_takeOf d 13 [some (.ref 60), some (.int x1), none, some (.int x3), some (.int x4)] [] I L (retQ (some (.int o.1)) o.2.1 o.2.2) := by
  intro n
  induction n with
  | zero => intro x1 x3 x4 I L o h; rw [f_X2_takeOf_60_l13] at h; cases h
  | succ n ih =>
    intro x1 x3 x4 I L o h
    rw [f_X2_takeOf_60_l13] at h
    refine r_iload dX2_takeOf_13 rfl ?_
    refine r_aload_n (i := 0) dX2_takeOf_15 rfl rfl ?_
    refine r_getR f_X2_18 dX2_takeOf_16 rfl rfl ?_
    refine r_getI f_X2_32 dX2_takeOf_19 rfl rfl ?_
    refine r_icmp_ge (tgt := 47) dX2_takeOf_22 (by decide) (fun c => ?_) (fun c => ?_)
    · rw [if_pos c] at h
      refine r_iload_n (i := 3) dX2_takeOf_47 rfl rfl ?_
      refine r_iret (by first | rfl | decide) dX2_takeOf_48 ?_
      obtain rfl := Option.some.inj h
      exact ⟨rfl, rfl, rfl⟩
    · rw [if_neg c] at h
      refine r_aload_n (i := 0) dX2_takeOf_25 rfl rfl ?_
      refine r_getR f_X2_22 dX2_takeOf_26 rfl rfl ?_
      refine r_iload dX2_takeOf_29 rfl ?_
      obtain ⟨⟨r3, Ir3, Lr3⟩, hr, h⟩ := bind_some h
      refine r_V (d' := 4) k_X2_38 dX2_takeOf_31 (by omega) rfl rfl rfl (Nat.le_of_ble_eq_true rfl) (Nat.le_of_ble_eq_true rfl) (ok_X5_marketOf_48 (Nat.le_refl _) hr) (fun v I' L' hq => ?_)
      obtain ⟨rfl, rfl, rfl⟩ := hq
      simp only [Option.toList_some, Option.toList_none, List.drop_succ_cons, List.drop_zero, List.drop_nil, List.cons_append, List.nil_append]
      dsimp only at h
      refine r_iload_n (i := 1) dX2_takeOf_34 rfl rfl ?_
      refine r_icmp_ne (tgt := 41) dX2_takeOf_35 (by decide) (fun c => ?_) (fun c => ?_)
      · rw [if_neg c] at h
        refine r_iinc (v := _) dX2_takeOf_41 rfl rfl (by decide) rfl ?_
        simp only [List.set_cons_zero, List.set_cons_succ]
        replace h := lt_some h
        refine r_goto (tgt := 13) dX2_takeOf_44 (by decide) ?_
        exact RR.wk (ih _ _ _ _ _ _ h) (And.intro rfl (And.intro rfl (And.intro rfl (And.intro rfl (trivial)))))
      · rw [if_pos c] at h
        refine r_iinc (v := _) dX2_takeOf_38 rfl rfl (by decide) rfl ?_
        simp only [List.set_cons_zero, List.set_cons_succ]
        replace h := lt_some h
        refine r_iinc (v := _) dX2_takeOf_41 rfl rfl (by decide) rfl ?_
        simp only [List.set_cons_zero, List.set_cons_succ]
        replace h := lt_some h
        refine r_goto (tgt := 13) dX2_takeOf_44 (by decide) ?_
        exact RR.wk (ih _ _ _ _ _ _ h) (And.intro rfl (And.intro rfl (And.intro rfl (And.intro rfl (trivial)))))
def f_X2_takeOf_60 (I : mI) (L : mL) (a1 : Int32) (a2 : Int32) : rI := bndV (f_X5_harness_48 I L a2) (fun Ir1 Lr1 => f_X2_takeOf_60_l13 fuel a1 0 0 Ir1 Lr1)
theorem ok_X2_takeOf_60 {d : Nat} (hd : 5 ≤ d) {I : mI} {L : mL} {a1 : Int32} {a2 : Int32} {o : Int32 × mI × mL} (h : f_X2_takeOf_60 I L a1 a2 = some o) : RR mX2_takeOf d 0 [some (.ref 60), some (.int a1), some (.int a2), none, none] [] I L (retQ (some (.int o.1)) o.2.1 o.2.2) := by
  unfold f_X2_takeOf_60 at h
  refine r_aload_n (i := 0) dX2_takeOf_0 rfl rfl ?_
  refine r_getR f_X2_22 dX2_takeOf_1 rfl rfl ?_
  refine r_iload_n (i := 2) dX2_takeOf_4 rfl rfl ?_
  obtain ⟨⟨Ir1, Lr1⟩, hr, h⟩ := bind_some h
  refine r_V (d' := 1) k_X2_26 dX2_takeOf_5 (by omega) rfl rfl rfl (Nat.le_of_ble_eq_true rfl) (Nat.le_of_ble_eq_true rfl) (ok_X5_harness_48 (Nat.le_refl _) hr) (fun v I' L' hq => ?_)
  obtain ⟨rfl, rfl, rfl⟩ := hq
  simp only [Option.toList_some, Option.toList_none, List.drop_succ_cons, List.drop_zero, List.drop_nil, List.cons_append, List.nil_append]
  dsimp only at h
  refine r_iconst (v := 0) dX2_takeOf_8 (by decide) ?_
  refine r_istore_n (i := 3) dX2_takeOf_9 rfl (by decide) rfl ?_
  simp only [List.set_cons_zero, List.set_cons_succ]
  refine r_iconst (v := 0) dX2_takeOf_10 (by decide) ?_
  refine r_istore dX2_takeOf_11 (by decide) rfl ?_
  simp only [List.set_cons_zero, List.set_cons_succ]
  exact RR.wk (ok_X2_takeOf_60_l13 hd _ _ _ _ _ _ _ h) (And.intro rfl (And.intro rfl (And.intro rfl (And.intro rfl (trivial)))))
def f_X10_take_0 (I : mI) (L : mL) (a1 : Int32) (a2 : Int32) : rI := (f_X3_hasParish_2 I L a1).bind (fun r1 => if r1 = 0 then (some ((-1), I, L)) else ((f_X7_hasCart_1 I L a2).bind (fun r2 => if r2 = 0 then (some ((-1), I, L)) else (bndI (f_X2_takeOf_60 I L a1 a2) (fun r3 Ir3 Lr3 => some (r3, Ir3, Lr3))))))
theorem ok_X10_take_0 {d : Nat} (hd : 6 ≤ d) {I : mI} {L : mL} {a1 : Int32} {a2 : Int32} {o : Int32 × mI × mL} (h : f_X10_take_0 I L a1 a2 = some o) : RR mX10_take d 0 [some (.ref 0), some (.int a1), some (.int a2)] [] I L (retQ (some (.int o.1)) o.2.1 o.2.2) := by
  unfold f_X10_take_0 at h
  refine r_aload_n (i := 0) dX10_take_0 rfl rfl ?_
  refine r_getR f_X10_10 dX10_take_1 rfl rfl ?_
  refine r_getR f_X10_76 dX10_take_4 rfl rfl ?_
  refine r_iload_n (i := 1) dX10_take_7 rfl rfl ?_
  obtain ⟨r1, hr, h⟩ := bind_some h
  refine r_V (d' := 0) k_X10_90 dX10_take_8 (by omega) rfl rfl rfl (Nat.le_of_ble_eq_true rfl) (Nat.le_of_ble_eq_true rfl) (ok_X3_hasParish_2 (Nat.le_refl _) hr) (fun v I' L' hq => ?_)
  obtain ⟨rfl, rfl, rfl⟩ := hq
  simp only [Option.toList_some, Option.toList_none, List.drop_succ_cons, List.drop_zero, List.drop_nil, List.cons_append, List.nil_append]
  refine r_if_eq (tgt := 25) dX10_take_11 (by decide) (fun c => ?_) (fun c => ?_)
  · rw [if_pos c] at h
    refine r_iconst (v := (-1)) dX10_take_25 (by decide) ?_
    refine r_iret (by first | rfl | decide) dX10_take_26 ?_
    obtain rfl := Option.some.inj h
    exact ⟨rfl, rfl, rfl⟩
  · rw [if_neg c] at h
    refine r_aload_n (i := 0) dX10_take_14 rfl rfl ?_
    refine r_getR f_X10_10 dX10_take_15 rfl rfl ?_
    refine r_iload_n (i := 2) dX10_take_18 rfl rfl ?_
    obtain ⟨r2, hr, h⟩ := bind_some h
    refine r_V (d' := 0) k_X10_210 dX10_take_19 (by omega) rfl rfl rfl (Nat.le_of_ble_eq_true rfl) (Nat.le_of_ble_eq_true rfl) (ok_X7_hasCart_1 (Nat.le_refl _) hr) (fun v I' L' hq => ?_)
    obtain ⟨rfl, rfl, rfl⟩ := hq
    simp only [Option.toList_some, Option.toList_none, List.drop_succ_cons, List.drop_zero, List.drop_nil, List.cons_append, List.nil_append]
    refine r_if_ne (tgt := 27) dX10_take_22 (by decide) (fun c => ?_) (fun c => ?_)
    · rw [if_neg c] at h
      refine r_aload_n (i := 0) dX10_take_27 rfl rfl ?_
      refine r_getR f_X10_54 dX10_take_28 rfl rfl ?_
      refine r_iload_n (i := 1) dX10_take_31 rfl rfl ?_
      refine r_iload_n (i := 2) dX10_take_32 rfl rfl ?_
      obtain ⟨⟨r3, Ir3, Lr3⟩, hr, h⟩ := bind_some h
      refine r_V (d' := 5) k_X10_262 dX10_take_33 (by omega) rfl rfl rfl (Nat.le_of_ble_eq_true rfl) (Nat.le_of_ble_eq_true rfl) (ok_X2_takeOf_60 (Nat.le_refl _) hr) (fun v I' L' hq => ?_)
      obtain ⟨rfl, rfl, rfl⟩ := hq
      simp only [Option.toList_some, Option.toList_none, List.drop_succ_cons, List.drop_zero, List.drop_nil, List.cons_append, List.nil_append]
      dsimp only at h
      refine r_iret (by first | rfl | decide) dX10_take_36 ?_
      obtain rfl := Option.some.inj h
      exact ⟨rfl, rfl, rfl⟩
    · rw [if_pos c] at h
      refine r_iconst (v := (-1)) dX10_take_25 (by decide) ?_
      refine r_iret (by first | rfl | decide) dX10_take_26 ?_
      obtain rfl := Option.some.inj h
      exact ⟨rfl, rfl, rfl⟩
def f_J7_fill_53178_61_l5 : Nat → Int32 → Int32 → Int32 → mI → mL → rV
  | 0, _, _, _, _, _ => none
  | n + 1, x1, x2, x3, I, L => if x3 ≤ x2 then (some (I, L)) else (ck (inb x2 81) (lt (uI I 61 x2.toNatClampNeg x1) (fun M1 => lt (x2 + Int32.ofInt 1) (fun v2 => f_J7_fill_53178_61_l5 n x1 v2 x3 M1 L))))
theorem ok_J7_fill_53178_61_l5 {d : Nat} (hd : 0 ≤ d) : ∀ (n : Nat) (x1 : Int32) (x2 : Int32) (x3 : Int32) (I : mI) (L : mL) (o : mI × mL), f_J7_fill_53178_61_l5 n x1 x2 x3 I L = some o → RR mJ7_fill_53178 d 5 [some (.ref 61), some (.int x1), some (.int x2), some (.int x3)] [] I L (retQ none o.1 o.2) := by
  intro n
  induction n with
  | zero => intro x1 x2 x3 I L o h; rw [f_J7_fill_53178_61_l5] at h; cases h
  | succ n ih =>
    intro x1 x2 x3 I L o h
    rw [f_J7_fill_53178_61_l5] at h
    refine r_iload_n (i := 2) dJ7_fill_53178_5 rfl rfl ?_
    refine r_iload_n (i := 3) dJ7_fill_53178_6 rfl rfl ?_
    refine r_icmp_ge (tgt := 20) dJ7_fill_53178_7 (by decide) (fun c => ?_) (fun c => ?_)
    · rw [if_pos c] at h
      refine r_vret dJ7_fill_53178_20 ?_
      obtain rfl := Option.some.inj h
      exact ⟨rfl, rfl, rfl⟩
    · rw [if_neg c] at h
      refine r_aload_n (i := 0) dJ7_fill_53178_10 rfl rfl ?_
      refine r_iload_n (i := 2) dJ7_fill_53178_11 rfl rfl ?_
      refine r_iload_n (i := 1) dJ7_fill_53178_12 rfl rfl ?_
      obtain ⟨hb, h⟩ := ck_some h
      refine r_iast rfl (inb_vp hb) dJ7_fill_53178_13 ?_
      replace h := lt_some h
      refine r_iinc (v := _) dJ7_fill_53178_14 rfl rfl (by decide) rfl ?_
      simp only [List.set_cons_zero, List.set_cons_succ]
      replace h := lt_some h
      refine r_goto (tgt := 5) dJ7_fill_53178_17 (by decide) ?_
      exact RR.wk (ih _ _ _ _ _ _ h) (And.intro rfl (And.intro rfl (And.intro rfl (And.intro rfl (trivial)))))
def f_J7_fill_53178_61 (I : mI) (L : mL) (a1 : Int32) : rV := f_J7_fill_53178_61_l5 fuel a1 0 81 I L
theorem ok_J7_fill_53178_61 {d : Nat} (hd : 0 ≤ d) {I : mI} {L : mL} {a1 : Int32} {o : mI × mL} (h : f_J7_fill_53178_61 I L a1 = some o) : RR mJ7_fill_53178 d 0 [some (.ref 61), some (.int a1), none, none] [] I L (retQ none o.1 o.2) := by
  unfold f_J7_fill_53178_61 at h
  refine r_iconst (v := 0) dJ7_fill_53178_0 (by decide) ?_
  refine r_istore_n (i := 2) dJ7_fill_53178_1 rfl (by decide) rfl ?_
  simp only [List.set_cons_zero, List.set_cons_succ]
  refine r_aload_n (i := 0) dJ7_fill_53178_2 rfl rfl ?_
  refine r_alenI (v := 81) rfl (by decide) dJ7_fill_53178_3 ?_
  refine r_istore_n (i := 3) dJ7_fill_53178_4 rfl (by decide) rfl ?_
  simp only [List.set_cons_zero, List.set_cons_succ]
  exact RR.wk (ok_J7_fill_53178_61_l5 hd _ _ _ _ _ _ _ h) (And.intro rfl (And.intro rfl (And.intro rfl (And.intro rfl (trivial)))))
def f_J7_fill_53178_62_l5 : Nat → Int32 → Int32 → Int32 → mI → mL → rV
  | 0, _, _, _, _, _ => none
  | n + 1, x1, x2, x3, I, L => if x3 ≤ x2 then (some (I, L)) else (ck (inb x2 81) (lt (uI I 62 x2.toNatClampNeg x1) (fun M1 => lt (x2 + Int32.ofInt 1) (fun v2 => f_J7_fill_53178_62_l5 n x1 v2 x3 M1 L))))
theorem ok_J7_fill_53178_62_l5 {d : Nat} (hd : 0 ≤ d) : ∀ (n : Nat) (x1 : Int32) (x2 : Int32) (x3 : Int32) (I : mI) (L : mL) (o : mI × mL), f_J7_fill_53178_62_l5 n x1 x2 x3 I L = some o → RR mJ7_fill_53178 d 5 [some (.ref 62), some (.int x1), some (.int x2), some (.int x3)] [] I L (retQ none o.1 o.2) := by
  intro n
  induction n with
  | zero => intro x1 x2 x3 I L o h; rw [f_J7_fill_53178_62_l5] at h; cases h
  | succ n ih =>
    intro x1 x2 x3 I L o h
    rw [f_J7_fill_53178_62_l5] at h
    refine r_iload_n (i := 2) dJ7_fill_53178_5 rfl rfl ?_
    refine r_iload_n (i := 3) dJ7_fill_53178_6 rfl rfl ?_
    refine r_icmp_ge (tgt := 20) dJ7_fill_53178_7 (by decide) (fun c => ?_) (fun c => ?_)
    · rw [if_pos c] at h
      refine r_vret dJ7_fill_53178_20 ?_
      obtain rfl := Option.some.inj h
      exact ⟨rfl, rfl, rfl⟩
    · rw [if_neg c] at h
      refine r_aload_n (i := 0) dJ7_fill_53178_10 rfl rfl ?_
      refine r_iload_n (i := 2) dJ7_fill_53178_11 rfl rfl ?_
      refine r_iload_n (i := 1) dJ7_fill_53178_12 rfl rfl ?_
      obtain ⟨hb, h⟩ := ck_some h
      refine r_iast rfl (inb_vp hb) dJ7_fill_53178_13 ?_
      replace h := lt_some h
      refine r_iinc (v := _) dJ7_fill_53178_14 rfl rfl (by decide) rfl ?_
      simp only [List.set_cons_zero, List.set_cons_succ]
      replace h := lt_some h
      refine r_goto (tgt := 5) dJ7_fill_53178_17 (by decide) ?_
      exact RR.wk (ih _ _ _ _ _ _ h) (And.intro rfl (And.intro rfl (And.intro rfl (And.intro rfl (trivial)))))
def f_J7_fill_53178_62 (I : mI) (L : mL) (a1 : Int32) : rV := f_J7_fill_53178_62_l5 fuel a1 0 81 I L
theorem ok_J7_fill_53178_62 {d : Nat} (hd : 0 ≤ d) {I : mI} {L : mL} {a1 : Int32} {o : mI × mL} (h : f_J7_fill_53178_62 I L a1 = some o) : RR mJ7_fill_53178 d 0 [some (.ref 62), some (.int a1), none, none] [] I L (retQ none o.1 o.2) := by
  unfold f_J7_fill_53178_62 at h
  refine r_iconst (v := 0) dJ7_fill_53178_0 (by decide) ?_
  refine r_istore_n (i := 2) dJ7_fill_53178_1 rfl (by decide) rfl ?_
  simp only [List.set_cons_zero, List.set_cons_succ]
  refine r_aload_n (i := 0) dJ7_fill_53178_2 rfl rfl ?_
  refine r_alenI (v := 81) rfl (by decide) dJ7_fill_53178_3 ?_
  refine r_istore_n (i := 3) dJ7_fill_53178_4 rfl (by decide) rfl ?_
  simp only [List.set_cons_zero, List.set_cons_succ]
  exact RR.wk (ok_J7_fill_53178_62_l5 hd _ _ _ _ _ _ _ h) (And.intro rfl (And.intro rfl (And.intro rfl (And.intro rfl (trivial)))))
def f_X2_most_61_l5 (I : mI) (L : mL) : Nat → Int32 → Int32 → Int32 → Int32 → Option Int32
  | 0, _, _, _, _ => none
  | n + 1, x1, x2, x3, x4 => if 9 ≤ x4 then (some x3) else (ck (inb (x1 + (x4 * x2)) 81) (lt ((if x3 < (I 61 (x1 + (x4 * x2)).toNatClampNeg) then (I 61 (x1 + (x4 * x2)).toNatClampNeg) else x3)) (fun v1 => lt (x4 + Int32.ofInt 1) (fun v2 => f_X2_most_61_l5 I L n x1 x2 v1 v2))))
theorem ok_X2_most_61_l5 {d : Nat} (hd : 1 ≤ d){I : mI} {L : mL} : ∀ (n : Nat) (x1 : Int32) (x2 : Int32) (x3 : Int32) (x4 : Int32) (o : Int32), f_X2_most_61_l5 I L n x1 x2 x3 x4 = some o → RR mX2_most d 5 [some (.ref 61), some (.int x1), some (.int x2), some (.int x3), some (.int x4)] [] I L (retQ (some (.int o)) I L) := by
  intro n
  induction n with
  | zero => intro x1 x2 x3 x4 o h; rw [f_X2_most_61_l5] at h; cases h
  | succ n ih =>
    intro x1 x2 x3 x4 o h
    rw [f_X2_most_61_l5] at h
    refine r_iload dX2_most_5 rfl ?_
    refine r_bipush (v := 9) dX2_most_7 (by decide) ?_
    refine r_icmp_ge (tgt := 31) dX2_most_9 (by decide) (fun c => ?_) (fun c => ?_)
    · rw [if_pos c] at h
      refine r_iload_n (i := 3) dX2_most_31 rfl rfl ?_
      refine r_iret (by first | rfl | decide) dX2_most_32 ?_
      obtain rfl := Option.some.inj h
      exact ⟨rfl, rfl, rfl⟩
    · rw [if_neg c] at h
      refine r_iload_n (i := 3) dX2_most_12 rfl rfl ?_
      refine r_aload_n (i := 0) dX2_most_13 rfl rfl ?_
      refine r_iload_n (i := 1) dX2_most_14 rfl rfl ?_
      refine r_iload dX2_most_15 rfl ?_
      refine r_iload_n (i := 2) dX2_most_17 rfl rfl ?_
      refine r_imul dX2_most_18 ?_
      refine r_iadd dX2_most_19 ?_
      obtain ⟨hb, h⟩ := ck_some h
      refine r_iald rfl (inb_vp hb) dX2_most_20 ?_
      refine r_mmax k_X2_94 dX2_most_21 (by omega) (Nat.le_of_ble_eq_true rfl) ?_
      refine r_istore_n (i := 3) dX2_most_24 rfl (by decide) rfl ?_
      simp only [List.set_cons_zero, List.set_cons_succ]
      replace h := lt_some h
      refine r_iinc (v := _) dX2_most_25 rfl rfl (by decide) rfl ?_
      simp only [List.set_cons_zero, List.set_cons_succ]
      replace h := lt_some h
      refine r_goto (tgt := 5) dX2_most_28 (by decide) ?_
      exact RR.wk (ih _ _ _ _ _ h) (And.intro rfl (And.intro rfl (And.intro rfl (And.intro rfl (And.intro rfl (trivial))))))
def f_X2_most_61 (I : mI) (L : mL) (a1 : Int32) (a2 : Int32) : Option Int32 := f_X2_most_61_l5 I L fuel a1 a2 0 0
theorem ok_X2_most_61 {d : Nat} (hd : 1 ≤ d) {I : mI} {L : mL} {a1 : Int32} {a2 : Int32} {o : Int32} (h : f_X2_most_61 I L a1 a2 = some o) : RR mX2_most d 0 [some (.ref 61), some (.int a1), some (.int a2), none, none] [] I L (retQ (some (.int o)) I L) := by
  unfold f_X2_most_61 at h
  refine r_iconst (v := 0) dX2_most_0 (by decide) ?_
  refine r_istore_n (i := 3) dX2_most_1 rfl (by decide) rfl ?_
  simp only [List.set_cons_zero, List.set_cons_succ]
  refine r_iconst (v := 0) dX2_most_2 (by decide) ?_
  refine r_istore dX2_most_3 (by decide) rfl ?_
  simp only [List.set_cons_zero, List.set_cons_succ]
  exact RR.wk (ok_X2_most_61_l5 hd _ _ _ _ _ _ h) (And.intro rfl (And.intro rfl (And.intro rfl (And.intro rfl (And.intro rfl (trivial))))))
def f_X2_most_62_l5 (I : mI) (L : mL) : Nat → Int32 → Int32 → Int32 → Int32 → Option Int32
  | 0, _, _, _, _ => none
  | n + 1, x1, x2, x3, x4 => if 9 ≤ x4 then (some x3) else (ck (inb (x1 + (x4 * x2)) 81) (lt ((if x3 < (I 62 (x1 + (x4 * x2)).toNatClampNeg) then (I 62 (x1 + (x4 * x2)).toNatClampNeg) else x3)) (fun v1 => lt (x4 + Int32.ofInt 1) (fun v2 => f_X2_most_62_l5 I L n x1 x2 v1 v2))))
theorem ok_X2_most_62_l5 {d : Nat} (hd : 1 ≤ d){I : mI} {L : mL} : ∀ (n : Nat) (x1 : Int32) (x2 : Int32) (x3 : Int32) (x4 : Int32) (o : Int32), f_X2_most_62_l5 I L n x1 x2 x3 x4 = some o → RR mX2_most d 5 [some (.ref 62), some (.int x1), some (.int x2), some (.int x3), some (.int x4)] [] I L (retQ (some (.int o)) I L) := by
  intro n
  induction n with
  | zero => intro x1 x2 x3 x4 o h; rw [f_X2_most_62_l5] at h; cases h
  | succ n ih =>
    intro x1 x2 x3 x4 o h
    rw [f_X2_most_62_l5] at h
    refine r_iload dX2_most_5 rfl ?_
    refine r_bipush (v := 9) dX2_most_7 (by decide) ?_
    refine r_icmp_ge (tgt := 31) dX2_most_9 (by decide) (fun c => ?_) (fun c => ?_)
    · rw [if_pos c] at h
      refine r_iload_n (i := 3) dX2_most_31 rfl rfl ?_
      refine r_iret (by first | rfl | decide) dX2_most_32 ?_
      obtain rfl := Option.some.inj h
      exact ⟨rfl, rfl, rfl⟩
    · rw [if_neg c] at h
      refine r_iload_n (i := 3) dX2_most_12 rfl rfl ?_
      refine r_aload_n (i := 0) dX2_most_13 rfl rfl ?_
      refine r_iload_n (i := 1) dX2_most_14 rfl rfl ?_
      refine r_iload dX2_most_15 rfl ?_
      refine r_iload_n (i := 2) dX2_most_17 rfl rfl ?_
      refine r_imul dX2_most_18 ?_
      refine r_iadd dX2_most_19 ?_
      obtain ⟨hb, h⟩ := ck_some h
      refine r_iald rfl (inb_vp hb) dX2_most_20 ?_
      refine r_mmax k_X2_94 dX2_most_21 (by omega) (Nat.le_of_ble_eq_true rfl) ?_
      refine r_istore_n (i := 3) dX2_most_24 rfl (by decide) rfl ?_
      simp only [List.set_cons_zero, List.set_cons_succ]
      replace h := lt_some h
      refine r_iinc (v := _) dX2_most_25 rfl rfl (by decide) rfl ?_
      simp only [List.set_cons_zero, List.set_cons_succ]
      replace h := lt_some h
      refine r_goto (tgt := 5) dX2_most_28 (by decide) ?_
      exact RR.wk (ih _ _ _ _ _ h) (And.intro rfl (And.intro rfl (And.intro rfl (And.intro rfl (And.intro rfl (trivial))))))
def f_X2_most_62 (I : mI) (L : mL) (a1 : Int32) (a2 : Int32) : Option Int32 := f_X2_most_62_l5 I L fuel a1 a2 0 0
theorem ok_X2_most_62 {d : Nat} (hd : 1 ≤ d) {I : mI} {L : mL} {a1 : Int32} {a2 : Int32} {o : Int32} (h : f_X2_most_62 I L a1 a2 = some o) : RR mX2_most d 0 [some (.ref 62), some (.int a1), some (.int a2), none, none] [] I L (retQ (some (.int o)) I L) := by
  unfold f_X2_most_62 at h
  refine r_iconst (v := 0) dX2_most_0 (by decide) ?_
  refine r_istore_n (i := 3) dX2_most_1 rfl (by decide) rfl ?_
  simp only [List.set_cons_zero, List.set_cons_succ]
  refine r_iconst (v := 0) dX2_most_2 (by decide) ?_
  refine r_istore dX2_most_3 (by decide) rfl ?_
  simp only [List.set_cons_zero, List.set_cons_succ]
  exact RR.wk (ok_X2_most_62_l5 hd _ _ _ _ _ _ h) (And.intro rfl (And.intro rfl (And.intro rfl (And.intro rfl (And.intro rfl (trivial))))))
def f_X2_addTakes_60_l23 : Nat → Int32 → Int32 → Int32 → Int32 → Int32 → mI → mL → rV
  | 0, _, _, _, _, _, _, _ => none
  | n + 1, x1, x2, x3, x4, x5, I, L => if 81 ≤ x5 then (some (I, L)) else (ck (inb x1 8) ((f_X3_weight I L (I 3 x1.toNatClampNeg) ((x5 / 9) + 1) x4).bind (fun r4 => ck (inb x1 8) (lt (uI I 51 x1.toNatClampNeg r4) (fun M5 => ck (inb x2 8) ((f_X3_weight M5 L (M5 3 x2.toNatClampNeg) ((x5 - x5 / 9 * 9) + 1) x4).bind (fun r6 => ck (inb x2 8) (lt (uI M5 51 x2.toNatClampNeg r6) (fun M7 => ck (inb x3 6) (ck (inb x3 6) (bndI (f_X5_bestPlace_48 M7 L (M7 12 x3.toNatClampNeg) (M7 11 x3.toNatClampNeg)) (fun r8 Ir8 Lr8 => if r8 = x1 then (ck (inb x5 81) (ck (inb x5 81) (lt (uI Ir8 61 x5.toNatClampNeg ((Ir8 61 x5.toNatClampNeg) + 1)) (fun M13 => lt (x5 + Int32.ofInt 1) (fun v14 => f_X2_addTakes_60_l23 n x1 x2 x3 x4 v14 M13 Lr8))))) else (if r8 = x2 then (ck (inb x5 81) (ck (inb x5 81) (lt (uI Ir8 62 x5.toNatClampNeg ((Ir8 62 x5.toNatClampNeg) + 1)) (fun M11 => lt (x5 + Int32.ofInt 1) (fun v12 => f_X2_addTakes_60_l23 n x1 x2 x3 x4 v12 M11 Lr8))))) else (lt (x5 + Int32.ofInt 1) (fun v10 => f_X2_addTakes_60_l23 n x1 x2 x3 x4 v10 Ir8 Lr8)))))))))))))))
theorem ok_X2_addTakes_60_l23 {d : Nat} (hd : 4 ≤ d) : ∀ (n : Nat) (x1 : Int32) (x2 : Int32) (x3 : Int32) (x4 : Int32) (x5 : Int32) (I : mI) (L : mL) (o : mI × mL), f_X2_addTakes_60_l23 n x1 x2 x3 x4 x5 I L = some o → RR mX2_addTakes d 23 [some (.ref 60), some (.int x1), some (.int x2), some (.int x3), some (.int x4), some (.int x5), none] [] I L (retQ none o.1 o.2) := by
  intro n
  induction n with
  | zero => intro x1 x2 x3 x4 x5 I L o h; rw [f_X2_addTakes_60_l23] at h; cases h
  | succ n ih =>
    intro x1 x2 x3 x4 x5 I L o h
    rw [f_X2_addTakes_60_l23] at h
    refine r_iload dX2_addTakes_23 rfl ?_
    refine r_bipush (v := 81) dX2_addTakes_25 (by decide) ?_
    refine r_icmp_ge (tgt := 166) dX2_addTakes_27 (by decide) (fun c => ?_) (fun c => ?_)
    · rw [if_pos c] at h
      refine r_vret dX2_addTakes_166 ?_
      obtain rfl := Option.some.inj h
      exact ⟨rfl, rfl, rfl⟩
    · rw [if_neg c] at h
      refine r_aload_n (i := 0) dX2_addTakes_30 rfl rfl ?_
      refine r_getR f_X2_22 dX2_addTakes_31 rfl rfl ?_
      refine r_getR f_X2_68 dX2_addTakes_34 rfl rfl ?_
      refine r_iload_n (i := 1) dX2_addTakes_37 rfl rfl ?_
      refine r_aload_n (i := 0) dX2_addTakes_38 rfl rfl ?_
      refine r_getR f_X2_18 dX2_addTakes_39 rfl rfl ?_
      refine r_getR f_X2_71 dX2_addTakes_42 rfl rfl ?_
      refine r_getR f_X2_75 dX2_addTakes_45 rfl rfl ?_
      refine r_iload_n (i := 1) dX2_addTakes_48 rfl rfl ?_
      obtain ⟨hb, h⟩ := ck_some h
      refine r_iald rfl (inb_vp hb) dX2_addTakes_49 ?_
      refine r_iload dX2_addTakes_50 rfl ?_
      refine r_bipush (v := 9) dX2_addTakes_52 (by decide) ?_
      refine r_idiv dX2_addTakes_54 (by decide) ?_
      refine r_iconst (v := 1) dX2_addTakes_55 (by decide) ?_
      refine r_iadd dX2_addTakes_56 ?_
      refine r_iload dX2_addTakes_57 rfl ?_
      obtain ⟨r4, hr, h⟩ := bind_some h
      refine r_S (d' := 0) k_X2_80 dX2_addTakes_59 (by omega) rfl (Nat.le_of_ble_eq_true rfl) (Nat.le_of_ble_eq_true rfl) (ok_X3_weight (Nat.le_refl _) hr) (fun v I' L' hq => ?_)
      obtain ⟨rfl, rfl, rfl⟩ := hq
      simp only [Option.toList_some, Option.toList_none, List.drop_succ_cons, List.drop_zero, List.drop_nil, List.cons_append, List.nil_append]
      obtain ⟨hb, h⟩ := ck_some h
      refine r_iast rfl (inb_vp hb) dX2_addTakes_62 ?_
      replace h := lt_some h
      refine r_aload_n (i := 0) dX2_addTakes_63 rfl rfl ?_
      refine r_getR f_X2_22 dX2_addTakes_64 rfl rfl ?_
      refine r_getR f_X2_68 dX2_addTakes_67 rfl rfl ?_
      refine r_iload_n (i := 2) dX2_addTakes_70 rfl rfl ?_
      refine r_aload_n (i := 0) dX2_addTakes_71 rfl rfl ?_
      refine r_getR f_X2_18 dX2_addTakes_72 rfl rfl ?_
      refine r_getR f_X2_71 dX2_addTakes_75 rfl rfl ?_
      refine r_getR f_X2_75 dX2_addTakes_78 rfl rfl ?_
      refine r_iload_n (i := 2) dX2_addTakes_81 rfl rfl ?_
      obtain ⟨hb, h⟩ := ck_some h
      refine r_iald rfl (inb_vp hb) dX2_addTakes_82 ?_
      refine r_iload dX2_addTakes_83 rfl ?_
      refine r_bipush (v := 9) dX2_addTakes_85 (by decide) ?_
      refine r_irem dX2_addTakes_87 (by decide) ?_
      refine r_iconst (v := 1) dX2_addTakes_88 (by decide) ?_
      refine r_iadd dX2_addTakes_89 ?_
      refine r_iload dX2_addTakes_90 rfl ?_
      obtain ⟨r6, hr, h⟩ := bind_some h
      refine r_S (d' := 0) k_X2_80 dX2_addTakes_92 (by omega) rfl (Nat.le_of_ble_eq_true rfl) (Nat.le_of_ble_eq_true rfl) (ok_X3_weight (Nat.le_refl _) hr) (fun v I' L' hq => ?_)
      obtain ⟨rfl, rfl, rfl⟩ := hq
      simp only [Option.toList_some, Option.toList_none, List.drop_succ_cons, List.drop_zero, List.drop_nil, List.cons_append, List.nil_append]
      obtain ⟨hb, h⟩ := ck_some h
      refine r_iast rfl (inb_vp hb) dX2_addTakes_95 ?_
      replace h := lt_some h
      refine r_aload_n (i := 0) dX2_addTakes_96 rfl rfl ?_
      refine r_getR f_X2_22 dX2_addTakes_97 rfl rfl ?_
      refine r_aload_n (i := 0) dX2_addTakes_100 rfl rfl ?_
      refine r_getR f_X2_18 dX2_addTakes_101 rfl rfl ?_
      refine r_getR f_X2_84 dX2_addTakes_104 rfl rfl ?_
      refine r_iload_n (i := 3) dX2_addTakes_107 rfl rfl ?_
      obtain ⟨hb, h⟩ := ck_some h
      refine r_iald rfl (inb_vp hb) dX2_addTakes_108 ?_
      refine r_aload_n (i := 0) dX2_addTakes_109 rfl rfl ?_
      refine r_getR f_X2_18 dX2_addTakes_110 rfl rfl ?_
      refine r_getR f_X2_87 dX2_addTakes_113 rfl rfl ?_
      refine r_iload_n (i := 3) dX2_addTakes_116 rfl rfl ?_
      obtain ⟨hb, h⟩ := ck_some h
      refine r_iald rfl (inb_vp hb) dX2_addTakes_117 ?_
      obtain ⟨⟨r8, Ir8, Lr8⟩, hr, h⟩ := bind_some h
      refine r_V (d' := 2) k_X2_90 dX2_addTakes_118 (by omega) rfl rfl rfl (Nat.le_of_ble_eq_true rfl) (Nat.le_of_ble_eq_true rfl) (ok_X5_bestPlace_48 (Nat.le_refl _) hr) (fun v I' L' hq => ?_)
      obtain ⟨rfl, rfl, rfl⟩ := hq
      simp only [Option.toList_some, Option.toList_none, List.drop_succ_cons, List.drop_zero, List.drop_nil, List.cons_append, List.nil_append]
      dsimp only at h
      refine r_istore dX2_addTakes_121 (by decide) rfl ?_
      simp only [List.set_cons_zero, List.set_cons_succ]
      refine r_iload dX2_addTakes_123 rfl ?_
      refine r_iload_n (i := 1) dX2_addTakes_125 rfl rfl ?_
      refine r_icmp_ne (tgt := 143) dX2_addTakes_126 (by decide) (fun c => ?_) (fun c => ?_)
      · rw [if_neg c] at h
        refine r_iload dX2_addTakes_143 rfl ?_
        refine r_iload_n (i := 2) dX2_addTakes_145 rfl rfl ?_
        refine r_icmp_ne (tgt := 160) dX2_addTakes_146 (by decide) (fun c => ?_) (fun c => ?_)
        · rw [if_neg c] at h
          refine r_iinc (v := _) dX2_addTakes_160 rfl rfl (by decide) rfl ?_
          simp only [List.set_cons_zero, List.set_cons_succ]
          replace h := lt_some h
          refine r_goto (tgt := 23) dX2_addTakes_163 (by decide) ?_
          exact RR.wk (ih _ _ _ _ _ _ _ _ h) (And.intro rfl (And.intro rfl (And.intro rfl (And.intro rfl (And.intro rfl (And.intro rfl (trivial)))))))
        · rw [if_pos c] at h
          refine r_aload_n (i := 0) dX2_addTakes_149 rfl rfl ?_
          refine r_getR f_X2_15 dX2_addTakes_150 rfl rfl ?_
          refine r_iload dX2_addTakes_153 rfl ?_
          refine r_dup2 dX2_addTakes_155 rfl rfl ?_
          obtain ⟨hb, h⟩ := ck_some h
          refine r_iald rfl (inb_vp hb) dX2_addTakes_156 ?_
          refine r_iconst (v := 1) dX2_addTakes_157 (by decide) ?_
          refine r_iadd dX2_addTakes_158 ?_
          obtain ⟨hb, h⟩ := ck_some h
          refine r_iast rfl (inb_vp hb) dX2_addTakes_159 ?_
          replace h := lt_some h
          refine r_iinc (v := _) dX2_addTakes_160 rfl rfl (by decide) rfl ?_
          simp only [List.set_cons_zero, List.set_cons_succ]
          replace h := lt_some h
          refine r_goto (tgt := 23) dX2_addTakes_163 (by decide) ?_
          exact RR.wk (ih _ _ _ _ _ _ _ _ h) (And.intro rfl (And.intro rfl (And.intro rfl (And.intro rfl (And.intro rfl (And.intro rfl (trivial)))))))
      · rw [if_pos c] at h
        refine r_aload_n (i := 0) dX2_addTakes_129 rfl rfl ?_
        refine r_getR f_X2_11 dX2_addTakes_130 rfl rfl ?_
        refine r_iload dX2_addTakes_133 rfl ?_
        refine r_dup2 dX2_addTakes_135 rfl rfl ?_
        obtain ⟨hb, h⟩ := ck_some h
        refine r_iald rfl (inb_vp hb) dX2_addTakes_136 ?_
        refine r_iconst (v := 1) dX2_addTakes_137 (by decide) ?_
        refine r_iadd dX2_addTakes_138 ?_
        obtain ⟨hb, h⟩ := ck_some h
        refine r_iast rfl (inb_vp hb) dX2_addTakes_139 ?_
        replace h := lt_some h
        refine r_goto (tgt := 160) dX2_addTakes_140 (by decide) ?_
        refine r_iinc (v := _) dX2_addTakes_160 rfl rfl (by decide) rfl ?_
        simp only [List.set_cons_zero, List.set_cons_succ]
        replace h := lt_some h
        refine r_goto (tgt := 23) dX2_addTakes_163 (by decide) ?_
        exact RR.wk (ih _ _ _ _ _ _ _ _ h) (And.intro rfl (And.intro rfl (And.intro rfl (And.intro rfl (And.intro rfl (And.intro rfl (trivial)))))))
def f_X2_addTakes_60 (I : mI) (L : mL) (a1 : Int32) (a2 : Int32) (a3 : Int32) : rV := ck (inb a3 6) (lt (I 10 a3.toNatClampNeg) (fun v1 => bndV (f_X5_weigh_48 I L v1) (fun Ir2 Lr2 => f_X2_addTakes_60_l23 fuel a1 a2 a3 v1 0 Ir2 Lr2)))
theorem ok_X2_addTakes_60 {d : Nat} (hd : 4 ≤ d) {I : mI} {L : mL} {a1 : Int32} {a2 : Int32} {a3 : Int32} {o : mI × mL} (h : f_X2_addTakes_60 I L a1 a2 a3 = some o) : RR mX2_addTakes d 0 [some (.ref 60), some (.int a1), some (.int a2), some (.int a3), none, none, none] [] I L (retQ none o.1 o.2) := by
  unfold f_X2_addTakes_60 at h
  refine r_aload_n (i := 0) dX2_addTakes_0 rfl rfl ?_
  refine r_getR f_X2_18 dX2_addTakes_1 rfl rfl ?_
  refine r_getR f_X2_62 dX2_addTakes_4 rfl rfl ?_
  refine r_iload_n (i := 3) dX2_addTakes_7 rfl rfl ?_
  obtain ⟨hb, h⟩ := ck_some h
  refine r_iald rfl (inb_vp hb) dX2_addTakes_8 ?_
  refine r_istore dX2_addTakes_9 (by decide) rfl ?_
  simp only [List.set_cons_zero, List.set_cons_succ]
  replace h := lt_some h
  refine r_aload_n (i := 0) dX2_addTakes_11 rfl rfl ?_
  refine r_getR f_X2_22 dX2_addTakes_12 rfl rfl ?_
  refine r_iload dX2_addTakes_15 rfl ?_
  obtain ⟨⟨Ir2, Lr2⟩, hr, h⟩ := bind_some h
  refine r_V (d' := 3) k_X2_65 dX2_addTakes_17 (by omega) rfl rfl rfl (Nat.le_of_ble_eq_true rfl) (Nat.le_of_ble_eq_true rfl) (ok_X5_weigh_48 (Nat.le_refl _) hr) (fun v I' L' hq => ?_)
  obtain ⟨rfl, rfl, rfl⟩ := hq
  simp only [Option.toList_some, Option.toList_none, List.drop_succ_cons, List.drop_zero, List.drop_nil, List.cons_append, List.nil_append]
  dsimp only at h
  refine r_iconst (v := 0) dX2_addTakes_20 (by decide) ?_
  refine r_istore dX2_addTakes_21 (by decide) rfl ?_
  simp only [List.set_cons_zero, List.set_cons_succ]
  exact RR.wk (ok_X2_addTakes_60_l23 hd _ _ _ _ _ _ _ _ _ h) (And.intro rfl (And.intro rfl (And.intro rfl (And.intro rfl (And.intro rfl (And.intro rfl (trivial)))))))
def f_X2_findRests_60_b156 (I : mI) (L : mL) (k66 : Int32 → mI → mL → rV) (x4 : Int32) (s0 : Int32) : rV := lt (uI I 60 5 s0) (fun M13 => lt (uI M13 60 4 ((M13 60 4) + 1)) (fun M14 => lt (x4 + Int32.ofInt 1) (fun v15 => k66 v15 M14 L)))
theorem ok_X2_findRests_60_b156 {d : Nat} (hd : 5 ≤ d){I : mI} {L : mL} {k66 : Int32 → mI → mL → rV} (hk66 : ∀ (x4 : Int32) (I : mI) (L : mL) (o : mI × mL), k66 x4 I L = some o → RR mX2_findRests d 66 [some (.ref 60), none, none, none, some (.int x4)] [] I L (retQ none o.1 o.2)) (x4 : Int32) (s0 : Int32) {o : mI × mL} (h : f_X2_findRests_60_b156 I L k66 x4 s0 = some o) : RR mX2_findRests d 156 [some (.ref 60), none, none, none, some (.int x4)] [.int s0, .ref 60] I L (retQ none o.1 o.2) := by
  unfold f_X2_findRests_60_b156 at h
  refine r_putI f_X2_55 rfl rfl dX2_findRests_156 rfl rfl ?_
  replace h := lt_some h
  refine r_aload_n (i := 0) dX2_findRests_159 rfl rfl ?_
  refine r_dup dX2_findRests_160 rfl ?_
  refine r_getI f_X2_52 dX2_findRests_161 rfl rfl ?_
  refine r_iconst (v := 1) dX2_findRests_164 (by decide) ?_
  refine r_iadd dX2_findRests_165 ?_
  refine r_putI f_X2_52 rfl rfl dX2_findRests_166 rfl rfl ?_
  replace h := lt_some h
  refine r_iinc (v := _) dX2_findRests_169 rfl rfl (by decide) rfl ?_
  simp only [List.set_cons_zero, List.set_cons_succ]
  replace h := lt_some h
  refine r_goto (tgt := 66) dX2_findRests_172 (by decide) ?_
  exact RR.wk (hk66 _ _ _ _ h) (And.intro rfl (And.intro rfl (trivial)))
def f_X2_findRests_60_l66 : Nat → Int32 → mI → mL → rV
  | 0, _, _, _ => none
  | n + 1, x4, I, L => if 81 ≤ x4 then (some (I, L)) else (ck (inb x4 81) ((f_X2_most_61 I L (x4 - x4 / 9 * 9) 9).bind (fun r9 => if (I 61 x4.toNatClampNeg) < r9 then (lt (x4 + Int32.ofInt 1) (fun v10 => f_X2_findRests_60_l66 n v10 I L)) else (ck (inb x4 81) ((f_X2_most_62 I L (x4 - (x4 - x4 / 9 * 9)) 1).bind (fun r11 => if (I 62 x4.toNatClampNeg) < r11 then (lt (x4 + Int32.ofInt 1) (fun v12 => f_X2_findRests_60_l66 n v12 I L)) else (if (I 60 4) ≤ 0 then (f_X2_findRests_60_b156 I L (f_X2_findRests_60_l66 n) x4 (((10 * ((x4 / 9) + 1)) + (x4 - x4 / 9 * 9)) + 1)) else (f_X2_findRests_60_b156 I L (f_X2_findRests_60_l66 n) x4 (I 60 5)))))))))
theorem ok_X2_findRests_60_l66 {d : Nat} (hd : 5 ≤ d) : ∀ (n : Nat) (x4 : Int32) (I : mI) (L : mL) (o : mI × mL), f_X2_findRests_60_l66 n x4 I L = some o → RR mX2_findRests d 66 [some (.ref 60), none, none, none, some (.int x4)] [] I L (retQ none o.1 o.2) := by
  intro n
  induction n with
  | zero => intro x4 I L o h; rw [f_X2_findRests_60_l66] at h; cases h
  | succ n ih =>
    intro x4 I L o h
    rw [f_X2_findRests_60_l66] at h
    refine r_iload dX2_findRests_66 rfl ?_
    refine r_bipush (v := 81) dX2_findRests_68 (by decide) ?_
    refine r_icmp_ge (tgt := 175) dX2_findRests_70 (by decide) (fun c => ?_) (fun c => ?_)
    · rw [if_pos c] at h
      refine r_vret dX2_findRests_175 ?_
      obtain rfl := Option.some.inj h
      exact ⟨rfl, rfl, rfl⟩
    · rw [if_neg c] at h
      refine r_aload_n (i := 0) dX2_findRests_73 rfl rfl ?_
      refine r_getR f_X2_11 dX2_findRests_74 rfl rfl ?_
      refine r_iload dX2_findRests_77 rfl ?_
      obtain ⟨hb, h⟩ := ck_some h
      refine r_iald rfl (inb_vp hb) dX2_findRests_79 ?_
      refine r_aload_n (i := 0) dX2_findRests_80 rfl rfl ?_
      refine r_getR f_X2_11 dX2_findRests_81 rfl rfl ?_
      refine r_iload dX2_findRests_84 rfl ?_
      refine r_bipush (v := 9) dX2_findRests_86 (by decide) ?_
      refine r_irem dX2_findRests_88 (by decide) ?_
      refine r_bipush (v := 9) dX2_findRests_89 (by decide) ?_
      obtain ⟨r9, hr, h⟩ := bind_some h
      refine r_S (d' := 1) k_X2_58 dX2_findRests_91 (by omega) rfl (Nat.le_of_ble_eq_true rfl) (Nat.le_of_ble_eq_true rfl) (ok_X2_most_61 (Nat.le_refl _) hr) (fun v I' L' hq => ?_)
      obtain ⟨rfl, rfl, rfl⟩ := hq
      simp only [Option.toList_some, Option.toList_none, List.drop_succ_cons, List.drop_zero, List.drop_nil, List.cons_append, List.nil_append]
      refine r_icmp_lt (tgt := 169) dX2_findRests_94 (by decide) (fun c => ?_) (fun c => ?_)
      · rw [if_pos c] at h
        refine r_iinc (v := _) dX2_findRests_169 rfl rfl (by decide) rfl ?_
        simp only [List.set_cons_zero, List.set_cons_succ]
        replace h := lt_some h
        refine r_goto (tgt := 66) dX2_findRests_172 (by decide) ?_
        exact RR.wk (ih _ _ _ _ h) (And.intro rfl (And.intro rfl (trivial)))
      · rw [if_neg c] at h
        refine r_aload_n (i := 0) dX2_findRests_97 rfl rfl ?_
        refine r_getR f_X2_15 dX2_findRests_98 rfl rfl ?_
        refine r_iload dX2_findRests_101 rfl ?_
        obtain ⟨hb, h⟩ := ck_some h
        refine r_iald rfl (inb_vp hb) dX2_findRests_103 ?_
        refine r_aload_n (i := 0) dX2_findRests_104 rfl rfl ?_
        refine r_getR f_X2_15 dX2_findRests_105 rfl rfl ?_
        refine r_iload dX2_findRests_108 rfl ?_
        refine r_iload dX2_findRests_110 rfl ?_
        refine r_bipush (v := 9) dX2_findRests_112 (by decide) ?_
        refine r_irem dX2_findRests_114 (by decide) ?_
        refine r_isub dX2_findRests_115 ?_
        refine r_iconst (v := 1) dX2_findRests_116 (by decide) ?_
        obtain ⟨r11, hr, h⟩ := bind_some h
        refine r_S (d' := 1) k_X2_58 dX2_findRests_117 (by omega) rfl (Nat.le_of_ble_eq_true rfl) (Nat.le_of_ble_eq_true rfl) (ok_X2_most_62 (Nat.le_refl _) hr) (fun v I' L' hq => ?_)
        obtain ⟨rfl, rfl, rfl⟩ := hq
        simp only [Option.toList_some, Option.toList_none, List.drop_succ_cons, List.drop_zero, List.drop_nil, List.cons_append, List.nil_append]
        refine r_icmp_lt (tgt := 169) dX2_findRests_120 (by decide) (fun c => ?_) (fun c => ?_)
        · rw [if_pos c] at h
          refine r_iinc (v := _) dX2_findRests_169 rfl rfl (by decide) rfl ?_
          simp only [List.set_cons_zero, List.set_cons_succ]
          replace h := lt_some h
          refine r_goto (tgt := 66) dX2_findRests_172 (by decide) ?_
          exact RR.wk (ih _ _ _ _ h) (And.intro rfl (And.intro rfl (trivial)))
        · rw [if_neg c] at h
          refine r_aload_n (i := 0) dX2_findRests_123 rfl rfl ?_
          refine r_aload_n (i := 0) dX2_findRests_124 rfl rfl ?_
          refine r_getI f_X2_52 dX2_findRests_125 rfl rfl ?_
          refine r_if_le (tgt := 138) dX2_findRests_128 (by decide) (fun c => ?_) (fun c => ?_)
          · rw [if_pos c] at h
            refine r_bipush (v := 10) dX2_findRests_138 (by decide) ?_
            refine r_iload dX2_findRests_140 rfl ?_
            refine r_bipush (v := 9) dX2_findRests_142 (by decide) ?_
            refine r_idiv dX2_findRests_144 (by decide) ?_
            refine r_iconst (v := 1) dX2_findRests_145 (by decide) ?_
            refine r_iadd dX2_findRests_146 ?_
            refine r_imul dX2_findRests_147 ?_
            refine r_iload dX2_findRests_148 rfl ?_
            refine r_bipush (v := 9) dX2_findRests_150 (by decide) ?_
            refine r_irem dX2_findRests_152 (by decide) ?_
            refine r_iadd dX2_findRests_153 ?_
            refine r_iconst (v := 1) dX2_findRests_154 (by decide) ?_
            refine r_iadd dX2_findRests_155 ?_
            exact RR.wk (ok_X2_findRests_60_b156 hd ih _ _ h) (And.intro rfl (And.intro rfl (trivial)))
          · rw [if_neg c] at h
            refine r_aload_n (i := 0) dX2_findRests_131 rfl rfl ?_
            refine r_getI f_X2_55 dX2_findRests_132 rfl rfl ?_
            refine r_goto (tgt := 156) dX2_findRests_135 (by decide) ?_
            exact RR.wk (ok_X2_findRests_60_b156 hd ih _ _ h) (And.intro rfl (And.intro rfl (trivial)))
def f_X2_findRests_60_l27 : Nat → Int32 → Int32 → Int32 → mI → mL → rV
  | 0, _, _, _, _, _ => none
  | n + 1, x1, x2, x4, I, L => if (I 1 10) ≤ x4 then (lt (uI I 60 4 0) (fun M7 => lt (uI M7 60 5 0) (fun M8 => f_X2_findRests_60_l66 fuel 0 M8 L))) else (bndV (f_X2_addTakes_60 I L x1 x2 x4) (fun Ir16 Lr16 => lt (x4 + Int32.ofInt 1) (fun v18 => f_X2_findRests_60_l27 n x1 x2 v18 Ir16 Lr16)))
theorem ok_X2_findRests_60_l27 {d : Nat} (hd : 5 ≤ d) : ∀ (n : Nat) (x1 : Int32) (x2 : Int32) (x4 : Int32) (I : mI) (L : mL) (o : mI × mL), f_X2_findRests_60_l27 n x1 x2 x4 I L = some o → RR mX2_findRests d 27 [some (.ref 60), some (.int x1), some (.int x2), none, some (.int x4)] [] I L (retQ none o.1 o.2) := by
  intro n
  induction n with
  | zero => intro x1 x2 x4 I L o h; rw [f_X2_findRests_60_l27] at h; cases h
  | succ n ih =>
    intro x1 x2 x4 I L o h
    rw [f_X2_findRests_60_l27] at h
    refine r_iload dX2_findRests_27 rfl ?_
    refine r_aload_n (i := 0) dX2_findRests_29 rfl rfl ?_
    refine r_getR f_X2_18 dX2_findRests_30 rfl rfl ?_
    refine r_getI f_X2_32 dX2_findRests_33 rfl rfl ?_
    refine r_icmp_ge (tgt := 53) dX2_findRests_36 (by decide) (fun c => ?_) (fun c => ?_)
    · rw [if_pos c] at h
      refine r_aload_n (i := 0) dX2_findRests_53 rfl rfl ?_
      refine r_iconst (v := 0) dX2_findRests_54 (by decide) ?_
      refine r_putI f_X2_52 rfl rfl dX2_findRests_55 rfl rfl ?_
      replace h := lt_some h
      refine r_aload_n (i := 0) dX2_findRests_58 rfl rfl ?_
      refine r_iconst (v := 0) dX2_findRests_59 (by decide) ?_
      refine r_putI f_X2_55 rfl rfl dX2_findRests_60 rfl rfl ?_
      replace h := lt_some h
      refine r_iconst (v := 0) dX2_findRests_63 (by decide) ?_
      refine r_istore dX2_findRests_64 (by decide) rfl ?_
      simp only [List.set_cons_zero, List.set_cons_succ]
      exact RR.wk (ok_X2_findRests_60_l66 hd _ _ _ _ _ h) (And.intro rfl (And.intro rfl (trivial)))
    · rw [if_neg c] at h
      refine r_aload_n (i := 0) dX2_findRests_39 rfl rfl ?_
      refine r_iload_n (i := 1) dX2_findRests_40 rfl rfl ?_
      refine r_iload_n (i := 2) dX2_findRests_41 rfl rfl ?_
      refine r_iload dX2_findRests_42 rfl ?_
      obtain ⟨⟨Ir16, Lr16⟩, hr, h⟩ := bind_some h
      refine r_V (d' := 4) k_X2_48 dX2_findRests_44 (by omega) rfl rfl rfl (Nat.le_of_ble_eq_true rfl) (Nat.le_of_ble_eq_true rfl) (ok_X2_addTakes_60 (Nat.le_refl _) hr) (fun v I' L' hq => ?_)
      obtain ⟨rfl, rfl, rfl⟩ := hq
      simp only [Option.toList_some, Option.toList_none, List.drop_succ_cons, List.drop_zero, List.drop_nil, List.cons_append, List.nil_append]
      dsimp only at h
      refine r_iinc (v := _) dX2_findRests_47 rfl rfl (by decide) rfl ?_
      simp only [List.set_cons_zero, List.set_cons_succ]
      replace h := lt_some h
      refine r_goto (tgt := 27) dX2_findRests_50 (by decide) ?_
      exact RR.wk (ih _ _ _ _ _ _ h) (And.intro rfl (And.intro rfl (And.intro rfl (And.intro rfl (trivial)))))
def f_X2_findRests_60 (I : mI) (L : mL) (a1 : Int32) (a2 : Int32) (a3 : Int32) : rV := bndV (f_J7_fill_53178_61 I L 0) (fun Ir1 Lr1 => bndV (f_J7_fill_53178_62 Ir1 Lr1 0) (fun Ir3 Lr3 => bndV (f_X5_harness_48 Ir3 Lr3 a3) (fun Ir5 Lr5 => f_X2_findRests_60_l27 fuel a1 a2 0 Ir5 Lr5)))
theorem ok_X2_findRests_60 {d : Nat} (hd : 5 ≤ d) {I : mI} {L : mL} {a1 : Int32} {a2 : Int32} {a3 : Int32} {o : mI × mL} (h : f_X2_findRests_60 I L a1 a2 a3 = some o) : RR mX2_findRests d 0 [some (.ref 60), some (.int a1), some (.int a2), some (.int a3), none] [] I L (retQ none o.1 o.2) := by
  unfold f_X2_findRests_60 at h
  refine r_aload_n (i := 0) dX2_findRests_0 rfl rfl ?_
  refine r_getR f_X2_11 dX2_findRests_1 rfl rfl ?_
  refine r_iconst (v := 0) dX2_findRests_4 (by decide) ?_
  obtain ⟨⟨Ir1, Lr1⟩, hr, h⟩ := bind_some h
  refine r_S (d' := 0) k_X2_42 dX2_findRests_5 (by omega) rfl (Nat.le_of_ble_eq_true rfl) (Nat.le_of_ble_eq_true rfl) (ok_J7_fill_53178_61 (Nat.le_refl _) hr) (fun v I' L' hq => ?_)
  obtain ⟨rfl, rfl, rfl⟩ := hq
  simp only [Option.toList_some, Option.toList_none, List.drop_succ_cons, List.drop_zero, List.drop_nil, List.cons_append, List.nil_append]
  dsimp only at h
  refine r_aload_n (i := 0) dX2_findRests_8 rfl rfl ?_
  refine r_getR f_X2_15 dX2_findRests_9 rfl rfl ?_
  refine r_iconst (v := 0) dX2_findRests_12 (by decide) ?_
  obtain ⟨⟨Ir3, Lr3⟩, hr, h⟩ := bind_some h
  refine r_S (d' := 0) k_X2_42 dX2_findRests_13 (by omega) rfl (Nat.le_of_ble_eq_true rfl) (Nat.le_of_ble_eq_true rfl) (ok_J7_fill_53178_62 (Nat.le_refl _) hr) (fun v I' L' hq => ?_)
  obtain ⟨rfl, rfl, rfl⟩ := hq
  simp only [Option.toList_some, Option.toList_none, List.drop_succ_cons, List.drop_zero, List.drop_nil, List.cons_append, List.nil_append]
  dsimp only at h
  refine r_aload_n (i := 0) dX2_findRests_16 rfl rfl ?_
  refine r_getR f_X2_22 dX2_findRests_17 rfl rfl ?_
  refine r_iload_n (i := 3) dX2_findRests_20 rfl rfl ?_
  obtain ⟨⟨Ir5, Lr5⟩, hr, h⟩ := bind_some h
  refine r_V (d' := 1) k_X2_26 dX2_findRests_21 (by omega) rfl rfl rfl (Nat.le_of_ble_eq_true rfl) (Nat.le_of_ble_eq_true rfl) (ok_X5_harness_48 (Nat.le_refl _) hr) (fun v I' L' hq => ?_)
  obtain ⟨rfl, rfl, rfl⟩ := hq
  simp only [Option.toList_some, Option.toList_none, List.drop_succ_cons, List.drop_zero, List.drop_nil, List.cons_append, List.nil_append]
  dsimp only at h
  refine r_iconst (v := 0) dX2_findRests_24 (by decide) ?_
  refine r_istore dX2_findRests_25 (by decide) rfl ?_
  simp only [List.set_cons_zero, List.set_cons_succ]
  exact RR.wk (ok_X2_findRests_60_l27 hd _ _ _ _ _ _ _ h) (And.intro rfl (And.intro rfl (And.intro rfl (And.intro rfl (trivial)))))
def f_X10_councils_0 (I : mI) (L : mL) (a1 : Int32) (a2 : Int32) (a3 : Int32) (a4 : Int32) : rI := (f_X3_hasParish_2 I L a1).bind (fun r1 => if r1 = 0 then (some ((-1), I, L)) else ((f_X3_hasParish_2 I L a2).bind (fun r2 => if r2 = 0 then (some ((-1), I, L)) else (if a1 = a2 then (some ((-1), I, L)) else ((f_X7_hasCart_1 I L a3).bind (fun r3 => if r3 = 0 then (some ((-1), I, L)) else ((f_X10_within I L a4 0 1).bind (fun r4 => if r4 = 0 then (some ((-1), I, L)) else (bndV (f_X2_findRests_60 I L a1 a2 a3) (fun Ir5 Lr5 => if a4 = 0 then (some (Ir5 60 4, Ir5, Lr5)) else (if (Ir5 60 4) ≤ 0 then (some ((-4), Ir5, Lr5)) else (some (Ir5 60 5, Ir5, Lr5)))))))))))))
theorem ok_X10_councils_0 {d : Nat} (hd : 6 ≤ d) {I : mI} {L : mL} {a1 : Int32} {a2 : Int32} {a3 : Int32} {a4 : Int32} {o : Int32 × mI × mL} (h : f_X10_councils_0 I L a1 a2 a3 a4 = some o) : RR mX10_councils d 0 [some (.ref 0), some (.int a1), some (.int a2), some (.int a3), some (.int a4)] [] I L (retQ (some (.int o.1)) o.2.1 o.2.2) := by
  unfold f_X10_councils_0 at h
  refine r_aload_n (i := 0) dX10_councils_0 rfl rfl ?_
  refine r_getR f_X10_10 dX10_councils_1 rfl rfl ?_
  refine r_getR f_X10_76 dX10_councils_4 rfl rfl ?_
  refine r_iload_n (i := 1) dX10_councils_7 rfl rfl ?_
  obtain ⟨r1, hr, h⟩ := bind_some h
  refine r_V (d' := 0) k_X10_90 dX10_councils_8 (by omega) rfl rfl rfl (Nat.le_of_ble_eq_true rfl) (Nat.le_of_ble_eq_true rfl) (ok_X3_hasParish_2 (Nat.le_refl _) hr) (fun v I' L' hq => ?_)
  obtain ⟨rfl, rfl, rfl⟩ := hq
  simp only [Option.toList_some, Option.toList_none, List.drop_succ_cons, List.drop_zero, List.drop_nil, List.cons_append, List.nil_append]
  refine r_if_eq (tgt := 54) dX10_councils_11 (by decide) (fun c => ?_) (fun c => ?_)
  · rw [if_pos c] at h
    refine r_iconst (v := (-1)) dX10_councils_54 (by decide) ?_
    refine r_iret (by first | rfl | decide) dX10_councils_55 ?_
    obtain rfl := Option.some.inj h
    exact ⟨rfl, rfl, rfl⟩
  · rw [if_neg c] at h
    refine r_aload_n (i := 0) dX10_councils_14 rfl rfl ?_
    refine r_getR f_X10_10 dX10_councils_15 rfl rfl ?_
    refine r_getR f_X10_76 dX10_councils_18 rfl rfl ?_
    refine r_iload_n (i := 2) dX10_councils_21 rfl rfl ?_
    obtain ⟨r2, hr, h⟩ := bind_some h
    refine r_V (d' := 0) k_X10_90 dX10_councils_22 (by omega) rfl rfl rfl (Nat.le_of_ble_eq_true rfl) (Nat.le_of_ble_eq_true rfl) (ok_X3_hasParish_2 (Nat.le_refl _) hr) (fun v I' L' hq => ?_)
    obtain ⟨rfl, rfl, rfl⟩ := hq
    simp only [Option.toList_some, Option.toList_none, List.drop_succ_cons, List.drop_zero, List.drop_nil, List.cons_append, List.nil_append]
    refine r_if_eq (tgt := 54) dX10_councils_25 (by decide) (fun c => ?_) (fun c => ?_)
    · rw [if_pos c] at h
      refine r_iconst (v := (-1)) dX10_councils_54 (by decide) ?_
      refine r_iret (by first | rfl | decide) dX10_councils_55 ?_
      obtain rfl := Option.some.inj h
      exact ⟨rfl, rfl, rfl⟩
    · rw [if_neg c] at h
      refine r_iload_n (i := 1) dX10_councils_28 rfl rfl ?_
      refine r_iload_n (i := 2) dX10_councils_29 rfl rfl ?_
      refine r_icmp_eq (tgt := 54) dX10_councils_30 (by decide) (fun c => ?_) (fun c => ?_)
      · rw [if_pos c] at h
        refine r_iconst (v := (-1)) dX10_councils_54 (by decide) ?_
        refine r_iret (by first | rfl | decide) dX10_councils_55 ?_
        obtain rfl := Option.some.inj h
        exact ⟨rfl, rfl, rfl⟩
      · rw [if_neg c] at h
        refine r_aload_n (i := 0) dX10_councils_33 rfl rfl ?_
        refine r_getR f_X10_10 dX10_councils_34 rfl rfl ?_
        refine r_iload_n (i := 3) dX10_councils_37 rfl rfl ?_
        obtain ⟨r3, hr, h⟩ := bind_some h
        refine r_V (d' := 0) k_X10_210 dX10_councils_38 (by omega) rfl rfl rfl (Nat.le_of_ble_eq_true rfl) (Nat.le_of_ble_eq_true rfl) (ok_X7_hasCart_1 (Nat.le_refl _) hr) (fun v I' L' hq => ?_)
        obtain ⟨rfl, rfl, rfl⟩ := hq
        simp only [Option.toList_some, Option.toList_none, List.drop_succ_cons, List.drop_zero, List.drop_nil, List.cons_append, List.nil_append]
        refine r_if_eq (tgt := 54) dX10_councils_41 (by decide) (fun c => ?_) (fun c => ?_)
        · rw [if_pos c] at h
          refine r_iconst (v := (-1)) dX10_councils_54 (by decide) ?_
          refine r_iret (by first | rfl | decide) dX10_councils_55 ?_
          obtain rfl := Option.some.inj h
          exact ⟨rfl, rfl, rfl⟩
        · rw [if_neg c] at h
          refine r_iload dX10_councils_44 rfl ?_
          refine r_iconst (v := 0) dX10_councils_46 (by decide) ?_
          refine r_iconst (v := 1) dX10_councils_47 (by decide) ?_
          obtain ⟨r4, hr, h⟩ := bind_some h
          refine r_S (d' := 0) k_X10_72 dX10_councils_48 (by omega) rfl (Nat.le_of_ble_eq_true rfl) (Nat.le_of_ble_eq_true rfl) (ok_X10_within (Nat.le_refl _) hr) (fun v I' L' hq => ?_)
          obtain ⟨rfl, rfl, rfl⟩ := hq
          simp only [Option.toList_some, Option.toList_none, List.drop_succ_cons, List.drop_zero, List.drop_nil, List.cons_append, List.nil_append]
          refine r_if_ne (tgt := 56) dX10_councils_51 (by decide) (fun c => ?_) (fun c => ?_)
          · rw [if_neg c] at h
            refine r_aload_n (i := 0) dX10_councils_56 rfl rfl ?_
            refine r_getR f_X10_54 dX10_councils_57 rfl rfl ?_
            refine r_iload_n (i := 1) dX10_councils_60 rfl rfl ?_
            refine r_iload_n (i := 2) dX10_councils_61 rfl rfl ?_
            refine r_iload_n (i := 3) dX10_councils_62 rfl rfl ?_
            obtain ⟨⟨Ir5, Lr5⟩, hr, h⟩ := bind_some h
            refine r_V (d' := 5) k_X10_265 dX10_councils_63 (by omega) rfl rfl rfl (Nat.le_of_ble_eq_true rfl) (Nat.le_of_ble_eq_true rfl) (ok_X2_findRests_60 (Nat.le_refl _) hr) (fun v I' L' hq => ?_)
            obtain ⟨rfl, rfl, rfl⟩ := hq
            simp only [Option.toList_some, Option.toList_none, List.drop_succ_cons, List.drop_zero, List.drop_nil, List.cons_append, List.nil_append]
            dsimp only at h
            refine r_iload dX10_councils_66 rfl ?_
            refine r_if_ne (tgt := 79) dX10_councils_68 (by decide) (fun c => ?_) (fun c => ?_)
            · rw [if_neg c] at h
              refine r_aload_n (i := 0) dX10_councils_79 rfl rfl ?_
              refine r_getR f_X10_54 dX10_councils_80 rfl rfl ?_
              refine r_getI f_X10_269 dX10_councils_83 rfl rfl ?_
              refine r_if_le (tgt := 99) dX10_councils_86 (by decide) (fun c => ?_) (fun c => ?_)
              · rw [if_pos c] at h
                refine r_bipush (v := (-4)) dX10_councils_99 (by decide) ?_
                refine r_iret (by first | rfl | decide) dX10_councils_101 ?_
                obtain rfl := Option.some.inj h
                exact ⟨rfl, rfl, rfl⟩
              · rw [if_neg c] at h
                refine r_aload_n (i := 0) dX10_councils_89 rfl rfl ?_
                refine r_getR f_X10_54 dX10_councils_90 rfl rfl ?_
                refine r_getI f_X10_272 dX10_councils_93 rfl rfl ?_
                refine r_goto (tgt := 101) dX10_councils_96 (by decide) ?_
                refine r_iret (by first | rfl | decide) dX10_councils_101 ?_
                obtain rfl := Option.some.inj h
                exact ⟨rfl, rfl, rfl⟩
            · rw [if_pos c] at h
              refine r_aload_n (i := 0) dX10_councils_71 rfl rfl ?_
              refine r_getR f_X10_54 dX10_councils_72 rfl rfl ?_
              refine r_getI f_X10_269 dX10_councils_75 rfl rfl ?_
              refine r_iret (by first | rfl | decide) dX10_councils_78 ?_
              obtain rfl := Option.some.inj h
              exact ⟨rfl, rfl, rfl⟩
          · rw [if_pos c] at h
            refine r_iconst (v := (-1)) dX10_councils_54 (by decide) ?_
            refine r_iret (by first | rfl | decide) dX10_councils_55 ?_
            obtain rfl := Option.some.inj h
            exact ⟨rfl, rfl, rfl⟩
def f_X3_hasSet_2 (I : mI) (L : mL) (a1 : Int32) : Option Int32 := if a1 < 0 then (some 0) else (if ((1 : Int32) <<< ((I 2 5) &&& 31)) ≤ a1 then (some 0) else (some 1))
theorem ok_X3_hasSet_2 {d : Nat} (hd : 0 ≤ d) {I : mI} {L : mL} {a1 : Int32} {o : Int32} (h : f_X3_hasSet_2 I L a1 = some o) : RR mX3_hasSet d 0 [some (.ref 2), some (.int a1)] [] I L (retQ (some (.int o)) I L) := by
  unfold f_X3_hasSet_2 at h
  refine r_iload_n (i := 1) dX3_hasSet_0 rfl rfl ?_
  refine r_if_lt (tgt := 18) dX3_hasSet_1 (by decide) (fun c => ?_) (fun c => ?_)
  · rw [if_pos c] at h
    refine r_iconst (v := 0) dX3_hasSet_18 (by decide) ?_
    refine r_iret (by first | rfl | decide) dX3_hasSet_19 ?_
    obtain rfl := Option.some.inj h
    exact ⟨rfl, rfl, rfl⟩
  · rw [if_neg c] at h
    refine r_iload_n (i := 1) dX3_hasSet_4 rfl rfl ?_
    refine r_iconst (v := 1) dX3_hasSet_5 (by decide) ?_
    refine r_aload_n (i := 0) dX3_hasSet_6 rfl rfl ?_
    refine r_getI f_X3_27 dX3_hasSet_7 rfl rfl ?_
    refine r_ishl dX3_hasSet_10 ?_
    refine r_icmp_ge (tgt := 18) dX3_hasSet_11 (by decide) (fun c => ?_) (fun c => ?_)
    · rw [if_pos c] at h
      refine r_iconst (v := 0) dX3_hasSet_18 (by decide) ?_
      refine r_iret (by first | rfl | decide) dX3_hasSet_19 ?_
      obtain rfl := Option.some.inj h
      exact ⟨rfl, rfl, rfl⟩
    · rw [if_neg c] at h
      refine r_iconst (v := 1) dX3_hasSet_14 (by decide) ?_
      refine r_goto (tgt := 19) dX3_hasSet_15 (by decide) ?_
      refine r_iret (by first | rfl | decide) dX3_hasSet_19 ?_
      obtain rfl := Option.some.inj h
      exact ⟨rfl, rfl, rfl⟩
def f_X4_addTotal_63 (I : mI) (L : mL) (a1 : Int32) (a2 : Int32) : rV := lt (uI I 48 11 a2) (fun M1 => ck (inb a1 6) (ck (inb a1 6) (bndI (f_X5_bestPlace_48 M1 L (M1 12 a1.toNatClampNeg) (M1 11 a1.toNatClampNeg)) (fun r2 Ir2 Lr2 => if r2 < 0 then (some (Ir2, Lr2)) else (ck (inb a2 256) (ck (inb a2 256) (lt (uI Ir2 64 a2.toNatClampNeg ((Ir2 64 a2.toNatClampNeg) + (Ir2 48 13))) (fun M4 => some (M4, Lr2)))))))))
theorem ok_X4_addTotal_63 {d : Nat} (hd : 3 ≤ d) {I : mI} {L : mL} {a1 : Int32} {a2 : Int32} {o : mI × mL} (h : f_X4_addTotal_63 I L a1 a2 = some o) : RR mX4_addTotal d 0 [some (.ref 63), some (.int a1), some (.int a2)] [] I L (retQ none o.1 o.2) := by
  unfold f_X4_addTotal_63 at h
  refine r_aload_n (i := 0) dX4_addTotal_0 rfl rfl ?_
  refine r_getR f_X4_19 dX4_addTotal_1 rfl rfl ?_
  refine r_iload_n (i := 2) dX4_addTotal_4 rfl rfl ?_
  refine r_putI f_X4_75 rfl rfl dX4_addTotal_5 rfl rfl ?_
  replace h := lt_some h
  refine r_aload_n (i := 0) dX4_addTotal_8 rfl rfl ?_
  refine r_getR f_X4_19 dX4_addTotal_9 rfl rfl ?_
  refine r_aload_n (i := 0) dX4_addTotal_12 rfl rfl ?_
  refine r_getR f_X4_15 dX4_addTotal_13 rfl rfl ?_
  refine r_getR f_X4_78 dX4_addTotal_16 rfl rfl ?_
  refine r_iload_n (i := 1) dX4_addTotal_19 rfl rfl ?_
  obtain ⟨hb, h⟩ := ck_some h
  refine r_iald rfl (inb_vp hb) dX4_addTotal_20 ?_
  refine r_aload_n (i := 0) dX4_addTotal_21 rfl rfl ?_
  refine r_getR f_X4_15 dX4_addTotal_22 rfl rfl ?_
  refine r_getR f_X4_81 dX4_addTotal_25 rfl rfl ?_
  refine r_iload_n (i := 1) dX4_addTotal_28 rfl rfl ?_
  obtain ⟨hb, h⟩ := ck_some h
  refine r_iald rfl (inb_vp hb) dX4_addTotal_29 ?_
  obtain ⟨⟨r2, Ir2, Lr2⟩, hr, h⟩ := bind_some h
  refine r_V (d' := 2) k_X4_84 dX4_addTotal_30 (by omega) rfl rfl rfl (Nat.le_of_ble_eq_true rfl) (Nat.le_of_ble_eq_true rfl) (ok_X5_bestPlace_48 (Nat.le_refl _) hr) (fun v I' L' hq => ?_)
  obtain ⟨rfl, rfl, rfl⟩ := hq
  simp only [Option.toList_some, Option.toList_none, List.drop_succ_cons, List.drop_zero, List.drop_nil, List.cons_append, List.nil_append]
  dsimp only at h
  refine r_if_lt (tgt := 52) dX4_addTotal_33 (by decide) (fun c => ?_) (fun c => ?_)
  · rw [if_pos c] at h
    refine r_vret dX4_addTotal_52 ?_
    obtain rfl := Option.some.inj h
    exact ⟨rfl, rfl, rfl⟩
  · rw [if_neg c] at h
    refine r_aload_n (i := 0) dX4_addTotal_36 rfl rfl ?_
    refine r_getR f_X4_9 dX4_addTotal_37 rfl rfl ?_
    refine r_iload_n (i := 2) dX4_addTotal_40 rfl rfl ?_
    refine r_dup2 dX4_addTotal_41 rfl rfl ?_
    obtain ⟨hb, h⟩ := ck_some h
    refine r_iald rfl (inb_vp hb) dX4_addTotal_42 ?_
    refine r_aload_n (i := 0) dX4_addTotal_43 rfl rfl ?_
    refine r_getR f_X4_19 dX4_addTotal_44 rfl rfl ?_
    refine r_getI f_X4_88 dX4_addTotal_47 rfl rfl ?_
    refine r_iadd dX4_addTotal_50 ?_
    obtain ⟨hb, h⟩ := ck_some h
    refine r_iast rfl (inb_vp hb) dX4_addTotal_51 ?_
    replace h := lt_some h
    refine r_vret dX4_addTotal_52 ?_
    obtain rfl := Option.some.inj h
    exact ⟨rfl, rfl, rfl⟩
def f_X4_worth_63_l24 : Nat → Int32 → Int32 → mI → mL → rI
  | 0, _, _, _, _ => none
  | n + 1, x1, x3, I, L => if (I 1 10) ≤ x3 then (ck (inb x1 256) (some ((I 64 x1.toNatClampNeg) - (I 64 (0 : Int32).toNatClampNeg), I, L))) else (ck (inb x3 6) (bndV (f_X5_weigh_48 I L (I 10 x3.toNatClampNeg)) (fun Ir5 Lr5 => bndV (f_X4_addTotal_63 Ir5 Lr5 x3 0) (fun Ir7 Lr7 => if x1 = 0 then (lt (x3 + Int32.ofInt 1) (fun v9 => f_X4_worth_63_l24 n x1 v9 Ir7 Lr7)) else (bndV (f_X4_addTotal_63 Ir7 Lr7 x3 x1) (fun Ir10 Lr10 => lt (x3 + Int32.ofInt 1) (fun v12 => f_X4_worth_63_l24 n x1 v12 Ir10 Lr10)))))))
theorem ok_X4_worth_63_l24 {d : Nat} (hd : 4 ≤ d) : ∀ (n : Nat) (x1 : Int32) (x3 : Int32) (I : mI) (L : mL) (o : Int32 × mI × mL), f_X4_worth_63_l24 n x1 x3 I L = some o → RR mX4_worth d 24 [some (.ref 63), some (.int x1), none, some (.int x3)] [] I L (retQ (some (.int o.1)) o.2.1 o.2.2) := by
  intro n
  induction n with
  | zero => intro x1 x3 I L o h; rw [f_X4_worth_63_l24] at h; cases h
  | succ n ih =>
    intro x1 x3 I L o h
    rw [f_X4_worth_63_l24] at h
    refine r_iload_n (i := 3) dX4_worth_24 rfl rfl ?_
    refine r_aload_n (i := 0) dX4_worth_25 rfl rfl ?_
    refine r_getR f_X4_15 dX4_worth_26 rfl rfl ?_
    refine r_getI f_X4_29 dX4_worth_29 rfl rfl ?_
    refine r_icmp_ge (tgt := 73) dX4_worth_32 (by decide) (fun c => ?_) (fun c => ?_)
    · rw [if_pos c] at h
      refine r_aload_n (i := 0) dX4_worth_73 rfl rfl ?_
      refine r_getR f_X4_9 dX4_worth_74 rfl rfl ?_
      refine r_iload_n (i := 1) dX4_worth_77 rfl rfl ?_
      obtain ⟨hb, h⟩ := ck_some h
      refine r_iald rfl (inb_vp hb) dX4_worth_78 ?_
      refine r_aload_n (i := 0) dX4_worth_79 rfl rfl ?_
      refine r_getR f_X4_9 dX4_worth_80 rfl rfl ?_
      refine r_iconst (v := 0) dX4_worth_83 (by decide) ?_
      refine r_iald rfl (vp_lit (by decide)) dX4_worth_84 ?_
      refine r_isub dX4_worth_85 ?_
      refine r_iret (by first | rfl | decide) dX4_worth_86 ?_
      obtain rfl := Option.some.inj h
      exact ⟨rfl, rfl, rfl⟩
    · rw [if_neg c] at h
      refine r_aload_n (i := 0) dX4_worth_35 rfl rfl ?_
      refine r_getR f_X4_19 dX4_worth_36 rfl rfl ?_
      refine r_aload_n (i := 0) dX4_worth_39 rfl rfl ?_
      refine r_getR f_X4_15 dX4_worth_40 rfl rfl ?_
      refine r_getR f_X4_35 dX4_worth_43 rfl rfl ?_
      refine r_iload_n (i := 3) dX4_worth_46 rfl rfl ?_
      obtain ⟨hb, h⟩ := ck_some h
      refine r_iald rfl (inb_vp hb) dX4_worth_47 ?_
      obtain ⟨⟨Ir5, Lr5⟩, hr, h⟩ := bind_some h
      refine r_V (d' := 3) k_X4_38 dX4_worth_48 (by omega) rfl rfl rfl (Nat.le_of_ble_eq_true rfl) (Nat.le_of_ble_eq_true rfl) (ok_X5_weigh_48 (Nat.le_refl _) hr) (fun v I' L' hq => ?_)
      obtain ⟨rfl, rfl, rfl⟩ := hq
      simp only [Option.toList_some, Option.toList_none, List.drop_succ_cons, List.drop_zero, List.drop_nil, List.cons_append, List.nil_append]
      dsimp only at h
      refine r_aload_n (i := 0) dX4_worth_51 rfl rfl ?_
      refine r_iload_n (i := 3) dX4_worth_52 rfl rfl ?_
      refine r_iconst (v := 0) dX4_worth_53 (by decide) ?_
      obtain ⟨⟨Ir7, Lr7⟩, hr, h⟩ := bind_some h
      refine r_V (d' := 3) k_X4_41 dX4_worth_54 (by omega) rfl rfl rfl (Nat.le_of_ble_eq_true rfl) (Nat.le_of_ble_eq_true rfl) (ok_X4_addTotal_63 (Nat.le_refl _) hr) (fun v I' L' hq => ?_)
      obtain ⟨rfl, rfl, rfl⟩ := hq
      simp only [Option.toList_some, Option.toList_none, List.drop_succ_cons, List.drop_zero, List.drop_nil, List.cons_append, List.nil_append]
      dsimp only at h
      refine r_iload_n (i := 1) dX4_worth_57 rfl rfl ?_
      refine r_if_eq (tgt := 67) dX4_worth_58 (by decide) (fun c => ?_) (fun c => ?_)
      · rw [if_pos c] at h
        refine r_iinc (v := _) dX4_worth_67 rfl rfl (by decide) rfl ?_
        simp only [List.set_cons_zero, List.set_cons_succ]
        replace h := lt_some h
        refine r_goto (tgt := 24) dX4_worth_70 (by decide) ?_
        exact RR.wk (ih _ _ _ _ _ h) (And.intro rfl (And.intro rfl (And.intro rfl (trivial))))
      · rw [if_neg c] at h
        refine r_aload_n (i := 0) dX4_worth_61 rfl rfl ?_
        refine r_iload_n (i := 3) dX4_worth_62 rfl rfl ?_
        refine r_iload_n (i := 1) dX4_worth_63 rfl rfl ?_
        obtain ⟨⟨Ir10, Lr10⟩, hr, h⟩ := bind_some h
        refine r_V (d' := 3) k_X4_41 dX4_worth_64 (by omega) rfl rfl rfl (Nat.le_of_ble_eq_true rfl) (Nat.le_of_ble_eq_true rfl) (ok_X4_addTotal_63 (Nat.le_refl _) hr) (fun v I' L' hq => ?_)
        obtain ⟨rfl, rfl, rfl⟩ := hq
        simp only [Option.toList_some, Option.toList_none, List.drop_succ_cons, List.drop_zero, List.drop_nil, List.cons_append, List.nil_append]
        dsimp only at h
        refine r_iinc (v := _) dX4_worth_67 rfl rfl (by decide) rfl ?_
        simp only [List.set_cons_zero, List.set_cons_succ]
        replace h := lt_some h
        refine r_goto (tgt := 24) dX4_worth_70 (by decide) ?_
        exact RR.wk (ih _ _ _ _ _ h) (And.intro rfl (And.intro rfl (And.intro rfl (trivial))))
def f_X4_worth_63 (I : mI) (L : mL) (a1 : Int32) (a2 : Int32) : rI := lt (uI I 64 (0 : Int32).toNatClampNeg 0) (fun M1 => ck (inb a1 256) (lt (uI M1 64 a1.toNatClampNeg 0) (fun M2 => bndV (f_X5_harness_48 M2 L a2) (fun Ir3 Lr3 => f_X4_worth_63_l24 fuel a1 0 Ir3 Lr3))))
theorem ok_X4_worth_63 {d : Nat} (hd : 4 ≤ d) {I : mI} {L : mL} {a1 : Int32} {a2 : Int32} {o : Int32 × mI × mL} (h : f_X4_worth_63 I L a1 a2 = some o) : RR mX4_worth d 0 [some (.ref 63), some (.int a1), some (.int a2), none] [] I L (retQ (some (.int o.1)) o.2.1 o.2.2) := by
  unfold f_X4_worth_63 at h
  refine r_aload_n (i := 0) dX4_worth_0 rfl rfl ?_
  refine r_getR f_X4_9 dX4_worth_1 rfl rfl ?_
  refine r_iconst (v := 0) dX4_worth_4 (by decide) ?_
  refine r_iconst (v := 0) dX4_worth_5 (by decide) ?_
  refine r_iast rfl (vp_lit (by decide)) dX4_worth_6 ?_
  replace h := lt_some h
  refine r_aload_n (i := 0) dX4_worth_7 rfl rfl ?_
  refine r_getR f_X4_9 dX4_worth_8 rfl rfl ?_
  refine r_iload_n (i := 1) dX4_worth_11 rfl rfl ?_
  refine r_iconst (v := 0) dX4_worth_12 (by decide) ?_
  obtain ⟨hb, h⟩ := ck_some h
  refine r_iast rfl (inb_vp hb) dX4_worth_13 ?_
  replace h := lt_some h
  refine r_aload_n (i := 0) dX4_worth_14 rfl rfl ?_
  refine r_getR f_X4_19 dX4_worth_15 rfl rfl ?_
  refine r_iload_n (i := 2) dX4_worth_18 rfl rfl ?_
  obtain ⟨⟨Ir3, Lr3⟩, hr, h⟩ := bind_some h
  refine r_V (d' := 1) k_X4_23 dX4_worth_19 (by omega) rfl rfl rfl (Nat.le_of_ble_eq_true rfl) (Nat.le_of_ble_eq_true rfl) (ok_X5_harness_48 (Nat.le_refl _) hr) (fun v I' L' hq => ?_)
  obtain ⟨rfl, rfl, rfl⟩ := hq
  simp only [Option.toList_some, Option.toList_none, List.drop_succ_cons, List.drop_zero, List.drop_nil, List.cons_append, List.nil_append]
  dsimp only at h
  refine r_iconst (v := 0) dX4_worth_22 (by decide) ?_
  refine r_istore_n (i := 3) dX4_worth_23 rfl (by decide) rfl ?_
  simp only [List.set_cons_zero, List.set_cons_succ]
  exact RR.wk (ok_X4_worth_63_l24 hd _ _ _ _ _ _ h) (And.intro rfl (And.intro rfl (And.intro rfl (trivial))))
def f_X10_league_0 (I : mI) (L : mL) (a1 : Int32) (a2 : Int32) : rI := (f_X3_hasSet_2 I L a1).bind (fun r1 => if r1 = 0 then (some ((-1000001), I, L)) else ((f_X7_hasCart_1 I L a2).bind (fun r2 => if r2 = 0 then (some ((-1000001), I, L)) else (bndI (f_X4_worth_63 I L a1 a2) (fun r3 Ir3 Lr3 => some (r3, Ir3, Lr3))))))
theorem ok_X10_league_0 {d : Nat} (hd : 5 ≤ d) {I : mI} {L : mL} {a1 : Int32} {a2 : Int32} {o : Int32 × mI × mL} (h : f_X10_league_0 I L a1 a2 = some o) : RR mX10_league d 0 [some (.ref 0), some (.int a1), some (.int a2)] [] I L (retQ (some (.int o.1)) o.2.1 o.2.2) := by
  unfold f_X10_league_0 at h
  refine r_aload_n (i := 0) dX10_league_0 rfl rfl ?_
  refine r_getR f_X10_10 dX10_league_1 rfl rfl ?_
  refine r_getR f_X10_76 dX10_league_4 rfl rfl ?_
  refine r_iload_n (i := 1) dX10_league_7 rfl rfl ?_
  obtain ⟨r1, hr, h⟩ := bind_some h
  refine r_V (d' := 0) k_X10_275 dX10_league_8 (by omega) rfl rfl rfl (Nat.le_of_ble_eq_true rfl) (Nat.le_of_ble_eq_true rfl) (ok_X3_hasSet_2 (Nat.le_refl _) hr) (fun v I' L' hq => ?_)
  obtain ⟨rfl, rfl, rfl⟩ := hq
  simp only [Option.toList_some, Option.toList_none, List.drop_succ_cons, List.drop_zero, List.drop_nil, List.cons_append, List.nil_append]
  refine r_if_eq (tgt := 25) dX10_league_11 (by decide) (fun c => ?_) (fun c => ?_)
  · rw [if_pos c] at h
    refine r_ldc n_X10_232 dX10_league_25 ?_
    refine r_iret (by first | rfl | decide) dX10_league_27 ?_
    obtain rfl := Option.some.inj h
    exact ⟨rfl, rfl, rfl⟩
  · rw [if_neg c] at h
    refine r_aload_n (i := 0) dX10_league_14 rfl rfl ?_
    refine r_getR f_X10_10 dX10_league_15 rfl rfl ?_
    refine r_iload_n (i := 2) dX10_league_18 rfl rfl ?_
    obtain ⟨r2, hr, h⟩ := bind_some h
    refine r_V (d' := 0) k_X10_210 dX10_league_19 (by omega) rfl rfl rfl (Nat.le_of_ble_eq_true rfl) (Nat.le_of_ble_eq_true rfl) (ok_X7_hasCart_1 (Nat.le_refl _) hr) (fun v I' L' hq => ?_)
    obtain ⟨rfl, rfl, rfl⟩ := hq
    simp only [Option.toList_some, Option.toList_none, List.drop_succ_cons, List.drop_zero, List.drop_nil, List.cons_append, List.nil_append]
    refine r_if_ne (tgt := 28) dX10_league_22 (by decide) (fun c => ?_) (fun c => ?_)
    · rw [if_neg c] at h
      refine r_aload_n (i := 0) dX10_league_28 rfl rfl ?_
      refine r_getR f_X10_61 dX10_league_29 rfl rfl ?_
      refine r_iload_n (i := 1) dX10_league_32 rfl rfl ?_
      refine r_iload_n (i := 2) dX10_league_33 rfl rfl ?_
      obtain ⟨⟨r3, Ir3, Lr3⟩, hr, h⟩ := bind_some h
      refine r_V (d' := 4) k_X10_278 dX10_league_34 (by omega) rfl rfl rfl (Nat.le_of_ble_eq_true rfl) (Nat.le_of_ble_eq_true rfl) (ok_X4_worth_63 (Nat.le_refl _) hr) (fun v I' L' hq => ?_)
      obtain ⟨rfl, rfl, rfl⟩ := hq
      simp only [Option.toList_some, Option.toList_none, List.drop_succ_cons, List.drop_zero, List.drop_nil, List.cons_append, List.nil_append]
      dsimp only at h
      refine r_iret (by first | rfl | decide) dX10_league_37 ?_
      obtain rfl := Option.some.inj h
      exact ⟨rfl, rfl, rfl⟩
    · rw [if_pos c] at h
      refine r_ldc n_X10_232 dX10_league_25 ?_
      refine r_iret (by first | rfl | decide) dX10_league_27 ?_
      obtain rfl := Option.some.inj h
      exact ⟨rfl, rfl, rfl⟩
def f_X10_isMember_0 (I : mI) (L : mL) (a1 : Int32) (a2 : Int32) : Option Int32 := (f_X3_hasSet_2 I L a2).bind (fun r1 => if r1 = 0 then (some 0) else ((f_X3_hasParish_2 I L a1).bind (fun r2 => if r2 = 0 then (some 0) else (if ((a2 >>> (a1 &&& 31)) &&& 1) = 0 then (some 0) else (some 1)))))
theorem ok_X10_isMember_0 {d : Nat} (hd : 1 ≤ d) {I : mI} {L : mL} {a1 : Int32} {a2 : Int32} {o : Int32} (h : f_X10_isMember_0 I L a1 a2 = some o) : RR mX10_isMember d 0 [some (.ref 0), some (.int a1), some (.int a2)] [] I L (retQ (some (.int o)) I L) := by
  unfold f_X10_isMember_0 at h
  refine r_aload_n (i := 0) dX10_isMember_0 rfl rfl ?_
  refine r_getR f_X10_10 dX10_isMember_1 rfl rfl ?_
  refine r_getR f_X10_76 dX10_isMember_4 rfl rfl ?_
  refine r_iload_n (i := 2) dX10_isMember_7 rfl rfl ?_
  obtain ⟨r1, hr, h⟩ := bind_some h
  refine r_V (d' := 0) k_X10_275 dX10_isMember_8 (by omega) rfl rfl rfl (Nat.le_of_ble_eq_true rfl) (Nat.le_of_ble_eq_true rfl) (ok_X3_hasSet_2 (Nat.le_refl _) hr) (fun v I' L' hq => ?_)
  obtain ⟨rfl, rfl, rfl⟩ := hq
  simp only [Option.toList_some, Option.toList_none, List.drop_succ_cons, List.drop_zero, List.drop_nil, List.cons_append, List.nil_append]
  refine r_if_eq (tgt := 40) dX10_isMember_11 (by decide) (fun c => ?_) (fun c => ?_)
  · rw [if_pos c] at h
    refine r_iconst (v := 0) dX10_isMember_40 (by decide) ?_
    refine r_iret (by first | rfl | decide) dX10_isMember_41 ?_
    obtain rfl := Option.some.inj h
    exact ⟨rfl, rfl, rfl⟩
  · rw [if_neg c] at h
    refine r_aload_n (i := 0) dX10_isMember_14 rfl rfl ?_
    refine r_getR f_X10_10 dX10_isMember_15 rfl rfl ?_
    refine r_getR f_X10_76 dX10_isMember_18 rfl rfl ?_
    refine r_iload_n (i := 1) dX10_isMember_21 rfl rfl ?_
    obtain ⟨r2, hr, h⟩ := bind_some h
    refine r_V (d' := 0) k_X10_90 dX10_isMember_22 (by omega) rfl rfl rfl (Nat.le_of_ble_eq_true rfl) (Nat.le_of_ble_eq_true rfl) (ok_X3_hasParish_2 (Nat.le_refl _) hr) (fun v I' L' hq => ?_)
    obtain ⟨rfl, rfl, rfl⟩ := hq
    simp only [Option.toList_some, Option.toList_none, List.drop_succ_cons, List.drop_zero, List.drop_nil, List.cons_append, List.nil_append]
    refine r_if_eq (tgt := 40) dX10_isMember_25 (by decide) (fun c => ?_) (fun c => ?_)
    · rw [if_pos c] at h
      refine r_iconst (v := 0) dX10_isMember_40 (by decide) ?_
      refine r_iret (by first | rfl | decide) dX10_isMember_41 ?_
      obtain rfl := Option.some.inj h
      exact ⟨rfl, rfl, rfl⟩
    · rw [if_neg c] at h
      refine r_iload_n (i := 2) dX10_isMember_28 rfl rfl ?_
      refine r_iload_n (i := 1) dX10_isMember_29 rfl rfl ?_
      refine r_ishr dX10_isMember_30 ?_
      refine r_iconst (v := 1) dX10_isMember_31 (by decide) ?_
      refine r_iand dX10_isMember_32 ?_
      refine r_if_eq (tgt := 40) dX10_isMember_33 (by decide) (fun c => ?_) (fun c => ?_)
      · rw [if_pos c] at h
        refine r_iconst (v := 0) dX10_isMember_40 (by decide) ?_
        refine r_iret (by first | rfl | decide) dX10_isMember_41 ?_
        obtain rfl := Option.some.inj h
        exact ⟨rfl, rfl, rfl⟩
      · rw [if_neg c] at h
        refine r_iconst (v := 1) dX10_isMember_36 (by decide) ?_
        refine r_goto (tgt := 41) dX10_isMember_37 (by decide) ?_
        refine r_iret (by first | rfl | decide) dX10_isMember_41 ?_
        obtain rfl := Option.some.inj h
        exact ⟨rfl, rfl, rfl⟩
def f_J7_fill_53178_64_l5 : Nat → Int32 → Int32 → Int32 → mI → mL → rV
  | 0, _, _, _, _, _ => none
  | n + 1, x1, x2, x3, I, L => if x3 ≤ x2 then (some (I, L)) else (ck (inb x2 256) (lt (uI I 64 x2.toNatClampNeg x1) (fun M1 => lt (x2 + Int32.ofInt 1) (fun v2 => f_J7_fill_53178_64_l5 n x1 v2 x3 M1 L))))
theorem ok_J7_fill_53178_64_l5 {d : Nat} (hd : 0 ≤ d) : ∀ (n : Nat) (x1 : Int32) (x2 : Int32) (x3 : Int32) (I : mI) (L : mL) (o : mI × mL), f_J7_fill_53178_64_l5 n x1 x2 x3 I L = some o → RR mJ7_fill_53178 d 5 [some (.ref 64), some (.int x1), some (.int x2), some (.int x3)] [] I L (retQ none o.1 o.2) := by
  intro n
  induction n with
  | zero => intro x1 x2 x3 I L o h; rw [f_J7_fill_53178_64_l5] at h; cases h
  | succ n ih =>
    intro x1 x2 x3 I L o h
    rw [f_J7_fill_53178_64_l5] at h
    refine r_iload_n (i := 2) dJ7_fill_53178_5 rfl rfl ?_
    refine r_iload_n (i := 3) dJ7_fill_53178_6 rfl rfl ?_
    refine r_icmp_ge (tgt := 20) dJ7_fill_53178_7 (by decide) (fun c => ?_) (fun c => ?_)
    · rw [if_pos c] at h
      refine r_vret dJ7_fill_53178_20 ?_
      obtain rfl := Option.some.inj h
      exact ⟨rfl, rfl, rfl⟩
    · rw [if_neg c] at h
      refine r_aload_n (i := 0) dJ7_fill_53178_10 rfl rfl ?_
      refine r_iload_n (i := 2) dJ7_fill_53178_11 rfl rfl ?_
      refine r_iload_n (i := 1) dJ7_fill_53178_12 rfl rfl ?_
      obtain ⟨hb, h⟩ := ck_some h
      refine r_iast rfl (inb_vp hb) dJ7_fill_53178_13 ?_
      replace h := lt_some h
      refine r_iinc (v := _) dJ7_fill_53178_14 rfl rfl (by decide) rfl ?_
      simp only [List.set_cons_zero, List.set_cons_succ]
      replace h := lt_some h
      refine r_goto (tgt := 5) dJ7_fill_53178_17 (by decide) ?_
      exact RR.wk (ih _ _ _ _ _ _ h) (And.intro rfl (And.intro rfl (And.intro rfl (And.intro rfl (trivial)))))
def f_J7_fill_53178_64 (I : mI) (L : mL) (a1 : Int32) : rV := f_J7_fill_53178_64_l5 fuel a1 0 256 I L
theorem ok_J7_fill_53178_64 {d : Nat} (hd : 0 ≤ d) {I : mI} {L : mL} {a1 : Int32} {o : mI × mL} (h : f_J7_fill_53178_64 I L a1 = some o) : RR mJ7_fill_53178 d 0 [some (.ref 64), some (.int a1), none, none] [] I L (retQ none o.1 o.2) := by
  unfold f_J7_fill_53178_64 at h
  refine r_iconst (v := 0) dJ7_fill_53178_0 (by decide) ?_
  refine r_istore_n (i := 2) dJ7_fill_53178_1 rfl (by decide) rfl ?_
  simp only [List.set_cons_zero, List.set_cons_succ]
  refine r_aload_n (i := 0) dJ7_fill_53178_2 rfl rfl ?_
  refine r_alenI (v := 256) rfl (by decide) dJ7_fill_53178_3 ?_
  refine r_istore_n (i := 3) dJ7_fill_53178_4 rfl (by decide) rfl ?_
  simp only [List.set_cons_zero, List.set_cons_succ]
  exact RR.wk (ok_J7_fill_53178_64_l5 hd _ _ _ _ _ _ _ h) (And.intro rfl (And.intro rfl (And.intro rfl (And.intro rfl (trivial)))))
def f_X4_findTotals_63_l48 (k18 : Int32 → Int32 → mI → mL → rV) : Nat → Int32 → Int32 → Int32 → mI → mL → rV
  | 0, _, _, _, _, _ => none
  | n + 1, x1, x3, x4, I, L => if x1 < x4 then (lt (x3 + Int32.ofInt 1) (fun v7 => k18 x1 v7 I L)) else (if (x4 &&& (x1 ^^^ (-1))) = 0 then (bndV (f_X4_addTotal_63 I L x3 x4) (fun Ir9 Lr9 => lt (x4 + Int32.ofInt 1) (fun v11 => f_X4_findTotals_63_l48 k18 n x1 x3 v11 Ir9 Lr9))) else (lt (x4 + Int32.ofInt 1) (fun v8 => f_X4_findTotals_63_l48 k18 n x1 x3 v8 I L)))
theorem ok_X4_findTotals_63_l48 {d : Nat} (hd : 4 ≤ d) {k18 : Int32 → Int32 → mI → mL → rV} (hk18 : ∀ (x1 : Int32) (x3 : Int32) (I : mI) (L : mL) (o : mI × mL), k18 x1 x3 I L = some o → RR mX4_findTotals d 18 [some (.ref 63), some (.int x1), none, some (.int x3), none] [] I L (retQ none o.1 o.2)) : ∀ (n : Nat) (x1 : Int32) (x3 : Int32) (x4 : Int32) (I : mI) (L : mL) (o : mI × mL), f_X4_findTotals_63_l48 k18 n x1 x3 x4 I L = some o → RR mX4_findTotals d 48 [some (.ref 63), some (.int x1), none, some (.int x3), some (.int x4)] [] I L (retQ none o.1 o.2) := by
  intro n
  induction n with
  | zero => intro x1 x3 x4 I L o h; rw [f_X4_findTotals_63_l48] at h; cases h
  | succ n ih =>
    intro x1 x3 x4 I L o h
    rw [f_X4_findTotals_63_l48] at h
    refine r_iload dX4_findTotals_48 rfl ?_
    refine r_iload_n (i := 1) dX4_findTotals_50 rfl rfl ?_
    refine r_icmp_gt (tgt := 76) dX4_findTotals_51 (by decide) (fun c => ?_) (fun c => ?_)
    · rw [if_pos c] at h
      refine r_iinc (v := _) dX4_findTotals_76 rfl rfl (by decide) rfl ?_
      simp only [List.set_cons_zero, List.set_cons_succ]
      replace h := lt_some h
      refine r_goto (tgt := 18) dX4_findTotals_79 (by decide) ?_
      exact RR.wk (hk18 _ _ _ _ _ h) (And.intro rfl (And.intro rfl (And.intro rfl (trivial))))
    · rw [if_neg c] at h
      refine r_iload dX4_findTotals_54 rfl ?_
      refine r_iload_n (i := 1) dX4_findTotals_56 rfl rfl ?_
      refine r_iconst (v := (-1)) dX4_findTotals_57 (by decide) ?_
      refine r_ixor dX4_findTotals_58 ?_
      refine r_iand dX4_findTotals_59 ?_
      refine r_if_ne (tgt := 70) dX4_findTotals_60 (by decide) (fun c => ?_) (fun c => ?_)
      · rw [if_neg c] at h
        refine r_iinc (v := _) dX4_findTotals_70 rfl rfl (by decide) rfl ?_
        simp only [List.set_cons_zero, List.set_cons_succ]
        replace h := lt_some h
        refine r_goto (tgt := 48) dX4_findTotals_73 (by decide) ?_
        exact RR.wk (ih _ _ _ _ _ _ h) (And.intro rfl (And.intro rfl (And.intro rfl (And.intro rfl (trivial)))))
      · rw [if_pos c] at h
        refine r_aload_n (i := 0) dX4_findTotals_63 rfl rfl ?_
        refine r_iload_n (i := 3) dX4_findTotals_64 rfl rfl ?_
        refine r_iload dX4_findTotals_65 rfl ?_
        obtain ⟨⟨Ir9, Lr9⟩, hr, h⟩ := bind_some h
        refine r_V (d' := 3) k_X4_41 dX4_findTotals_67 (by omega) rfl rfl rfl (Nat.le_of_ble_eq_true rfl) (Nat.le_of_ble_eq_true rfl) (ok_X4_addTotal_63 (Nat.le_refl _) hr) (fun v I' L' hq => ?_)
        obtain ⟨rfl, rfl, rfl⟩ := hq
        simp only [Option.toList_some, Option.toList_none, List.drop_succ_cons, List.drop_zero, List.drop_nil, List.cons_append, List.nil_append]
        dsimp only at h
        refine r_iinc (v := _) dX4_findTotals_70 rfl rfl (by decide) rfl ?_
        simp only [List.set_cons_zero, List.set_cons_succ]
        replace h := lt_some h
        refine r_goto (tgt := 48) dX4_findTotals_73 (by decide) ?_
        exact RR.wk (ih _ _ _ _ _ _ h) (And.intro rfl (And.intro rfl (And.intro rfl (And.intro rfl (trivial)))))
def f_X4_findTotals_63_l18 : Nat → Int32 → Int32 → mI → mL → rV
  | 0, _, _, _, _ => none
  | n + 1, x1, x3, I, L => if (I 1 10) ≤ x3 then (some (I, L)) else (ck (inb x3 6) (bndV (f_X5_weigh_48 I L (I 10 x3.toNatClampNeg)) (fun Ir5 Lr5 => f_X4_findTotals_63_l48 (f_X4_findTotals_63_l18 n) fuel x1 x3 0 Ir5 Lr5)))
theorem ok_X4_findTotals_63_l18 {d : Nat} (hd : 4 ≤ d) : ∀ (n : Nat) (x1 : Int32) (x3 : Int32) (I : mI) (L : mL) (o : mI × mL), f_X4_findTotals_63_l18 n x1 x3 I L = some o → RR mX4_findTotals d 18 [some (.ref 63), some (.int x1), none, some (.int x3), none] [] I L (retQ none o.1 o.2) := by
  intro n
  induction n with
  | zero => intro x1 x3 I L o h; rw [f_X4_findTotals_63_l18] at h; cases h
  | succ n ih =>
    intro x1 x3 I L o h
    rw [f_X4_findTotals_63_l18] at h
    refine r_iload_n (i := 3) dX4_findTotals_18 rfl rfl ?_
    refine r_aload_n (i := 0) dX4_findTotals_19 rfl rfl ?_
    refine r_getR f_X4_15 dX4_findTotals_20 rfl rfl ?_
    refine r_getI f_X4_29 dX4_findTotals_23 rfl rfl ?_
    refine r_icmp_ge (tgt := 82) dX4_findTotals_26 (by decide) (fun c => ?_) (fun c => ?_)
    · rw [if_pos c] at h
      refine r_vret dX4_findTotals_82 ?_
      obtain rfl := Option.some.inj h
      exact ⟨rfl, rfl, rfl⟩
    · rw [if_neg c] at h
      refine r_aload_n (i := 0) dX4_findTotals_29 rfl rfl ?_
      refine r_getR f_X4_19 dX4_findTotals_30 rfl rfl ?_
      refine r_aload_n (i := 0) dX4_findTotals_33 rfl rfl ?_
      refine r_getR f_X4_15 dX4_findTotals_34 rfl rfl ?_
      refine r_getR f_X4_35 dX4_findTotals_37 rfl rfl ?_
      refine r_iload_n (i := 3) dX4_findTotals_40 rfl rfl ?_
      obtain ⟨hb, h⟩ := ck_some h
      refine r_iald rfl (inb_vp hb) dX4_findTotals_41 ?_
      obtain ⟨⟨Ir5, Lr5⟩, hr, h⟩ := bind_some h
      refine r_V (d' := 3) k_X4_38 dX4_findTotals_42 (by omega) rfl rfl rfl (Nat.le_of_ble_eq_true rfl) (Nat.le_of_ble_eq_true rfl) (ok_X5_weigh_48 (Nat.le_refl _) hr) (fun v I' L' hq => ?_)
      obtain ⟨rfl, rfl, rfl⟩ := hq
      simp only [Option.toList_some, Option.toList_none, List.drop_succ_cons, List.drop_zero, List.drop_nil, List.cons_append, List.nil_append]
      dsimp only at h
      refine r_iconst (v := 0) dX4_findTotals_45 (by decide) ?_
      refine r_istore dX4_findTotals_46 (by decide) rfl ?_
      simp only [List.set_cons_zero, List.set_cons_succ]
      exact RR.wk (ok_X4_findTotals_63_l48 hd ih _ _ _ _ _ _ _ h) (And.intro rfl (And.intro rfl (And.intro rfl (And.intro rfl (trivial)))))
def f_X4_findTotals_63 (I : mI) (L : mL) (a1 : Int32) (a2 : Int32) : rV := bndV (f_J7_fill_53178_64 I L 0) (fun Ir1 Lr1 => bndV (f_X5_harness_48 Ir1 Lr1 a2) (fun Ir3 Lr3 => f_X4_findTotals_63_l18 fuel a1 0 Ir3 Lr3))
theorem ok_X4_findTotals_63 {d : Nat} (hd : 4 ≤ d) {I : mI} {L : mL} {a1 : Int32} {a2 : Int32} {o : mI × mL} (h : f_X4_findTotals_63 I L a1 a2 = some o) : RR mX4_findTotals d 0 [some (.ref 63), some (.int a1), some (.int a2), none, none] [] I L (retQ none o.1 o.2) := by
  unfold f_X4_findTotals_63 at h
  refine r_aload_n (i := 0) dX4_findTotals_0 rfl rfl ?_
  refine r_getR f_X4_9 dX4_findTotals_1 rfl rfl ?_
  refine r_iconst (v := 0) dX4_findTotals_4 (by decide) ?_
  obtain ⟨⟨Ir1, Lr1⟩, hr, h⟩ := bind_some h
  refine r_S (d' := 0) k_X4_69 dX4_findTotals_5 (by omega) rfl (Nat.le_of_ble_eq_true rfl) (Nat.le_of_ble_eq_true rfl) (ok_J7_fill_53178_64 (Nat.le_refl _) hr) (fun v I' L' hq => ?_)
  obtain ⟨rfl, rfl, rfl⟩ := hq
  simp only [Option.toList_some, Option.toList_none, List.drop_succ_cons, List.drop_zero, List.drop_nil, List.cons_append, List.nil_append]
  dsimp only at h
  refine r_aload_n (i := 0) dX4_findTotals_8 rfl rfl ?_
  refine r_getR f_X4_19 dX4_findTotals_9 rfl rfl ?_
  refine r_iload_n (i := 2) dX4_findTotals_12 rfl rfl ?_
  obtain ⟨⟨Ir3, Lr3⟩, hr, h⟩ := bind_some h
  refine r_V (d' := 1) k_X4_23 dX4_findTotals_13 (by omega) rfl rfl rfl (Nat.le_of_ble_eq_true rfl) (Nat.le_of_ble_eq_true rfl) (ok_X5_harness_48 (Nat.le_refl _) hr) (fun v I' L' hq => ?_)
  obtain ⟨rfl, rfl, rfl⟩ := hq
  simp only [Option.toList_some, Option.toList_none, List.drop_succ_cons, List.drop_zero, List.drop_nil, List.cons_append, List.nil_append]
  dsimp only at h
  refine r_iconst (v := 0) dX4_findTotals_16 (by decide) ?_
  refine r_istore_n (i := 3) dX4_findTotals_17 rfl (by decide) rfl ?_
  simp only [List.set_cons_zero, List.set_cons_succ]
  exact RR.wk (ok_X4_findTotals_63_l18 hd _ _ _ _ _ _ h) (And.intro rfl (And.intro rfl (And.intro rfl (trivial))))
def f_X4_commonDivisor_l9 (I : mI) (L : mL) : Nat → Int64 → Int64 → Int32 → Option Int64
  | 0, _, _, _ => none
  | n + 1, x4, x6, x8 => if 100 ≤ x8 then (some x4) else (if (lg_cmp x6 0) = 0 then (some x4) else (ck (nzL x6) (lt (x4 - x4 / x6 * x6) (fun v1 => lt (x8 + Int32.ofInt 1) (fun v2 => f_X4_commonDivisor_l9 I L n x6 v1 v2)))))
theorem ok_X4_commonDivisor_l9 {d : Nat} (hd : 0 ≤ d){I : mI} {L : mL} : ∀ (n : Nat) (x4 : Int64) (x6 : Int64) (x8 : Int32) (o : Int64), f_X4_commonDivisor_l9 I L n x4 x6 x8 = some o → RR mX4_commonDivisor d 9 [none, none, none, none, some (.long x4), none, some (.long x6), none, some (.int x8), none, none] [] I L (retQ (some (.long o)) I L) := by
  intro n
  induction n with
  | zero => intro x4 x6 x8 o h; rw [f_X4_commonDivisor_l9] at h; cases h
  | succ n ih =>
    intro x4 x6 x8 o h
    rw [f_X4_commonDivisor_l9] at h
    refine r_iload dX4_commonDivisor_9 rfl ?_
    refine r_bipush (v := 100) dX4_commonDivisor_11 (by decide) ?_
    refine r_icmp_ge (tgt := 44) dX4_commonDivisor_13 (by decide) (fun c => ?_) (fun c => ?_)
    · rw [if_pos c] at h
      refine r_lload dX4_commonDivisor_44 rfl ?_
      refine r_lret dX4_commonDivisor_46 ?_
      obtain rfl := Option.some.inj h
      exact ⟨rfl, rfl, rfl⟩
    · rw [if_neg c] at h
      refine r_lload dX4_commonDivisor_16 rfl ?_
      refine r_lconst (v := 0) dX4_commonDivisor_18 (by decide) ?_
      refine r_lcmp dX4_commonDivisor_19 ?_
      refine r_if_eq (tgt := 44) dX4_commonDivisor_20 (by decide) (fun c => ?_) (fun c => ?_)
      · rw [if_pos c] at h
        refine r_lload dX4_commonDivisor_44 rfl ?_
        refine r_lret dX4_commonDivisor_46 ?_
        obtain rfl := Option.some.inj h
        exact ⟨rfl, rfl, rfl⟩
      · rw [if_neg c] at h
        refine r_lload dX4_commonDivisor_23 rfl ?_
        refine r_lload dX4_commonDivisor_25 rfl ?_
        obtain ⟨hb, h⟩ := ck_some h
        refine r_lrem dX4_commonDivisor_27 (nzL_ne hb) ?_
        refine r_lstore dX4_commonDivisor_28 (by decide) rfl ?_
        simp only [List.set_cons_zero, List.set_cons_succ]
        replace h := lt_some h
        refine r_lload dX4_commonDivisor_30 rfl ?_
        refine r_lstore dX4_commonDivisor_32 (by decide) rfl ?_
        simp only [List.set_cons_zero, List.set_cons_succ]
        refine r_lload dX4_commonDivisor_34 rfl ?_
        refine r_lstore dX4_commonDivisor_36 (by decide) rfl ?_
        simp only [List.set_cons_zero, List.set_cons_succ]
        refine r_iinc (v := _) dX4_commonDivisor_38 rfl rfl (by decide) rfl ?_
        simp only [List.set_cons_zero, List.set_cons_succ]
        replace h := lt_some h
        refine r_goto (tgt := 9) dX4_commonDivisor_41 (by decide) ?_
        exact RR.wk (ih _ _ _ _ h) (And.intro rfl (And.intro rfl (And.intro rfl (trivial))))
def f_X4_commonDivisor (I : mI) (L : mL) (a0 : Int64) (a1 : Int64) : Option Int64 := f_X4_commonDivisor_l9 I L fuel a1 a0 0
theorem ok_X4_commonDivisor {d : Nat} (hd : 0 ≤ d) {I : mI} {L : mL} {a0 : Int64} {a1 : Int64} {o : Int64} (h : f_X4_commonDivisor I L a0 a1 = some o) : RR mX4_commonDivisor d 0 [some (.long a0), none, some (.long a1), none, none, none, none, none, none, none, none] [] I L (retQ (some (.long o)) I L) := by
  unfold f_X4_commonDivisor at h
  refine r_lload_n (i := 2) dX4_commonDivisor_0 rfl rfl ?_
  refine r_lstore dX4_commonDivisor_1 (by decide) rfl ?_
  simp only [List.set_cons_zero, List.set_cons_succ]
  refine r_lload_n (i := 0) dX4_commonDivisor_3 rfl rfl ?_
  refine r_lstore dX4_commonDivisor_4 (by decide) rfl ?_
  simp only [List.set_cons_zero, List.set_cons_succ]
  refine r_iconst (v := 0) dX4_commonDivisor_6 (by decide) ?_
  refine r_istore dX4_commonDivisor_7 (by decide) rfl ?_
  simp only [List.set_cons_zero, List.set_cons_succ]
  exact RR.wk (ok_X4_commonDivisor_l9 hd _ _ _ _ _ h) (And.intro rfl (And.intro rfl (And.intro rfl (trivial))))
