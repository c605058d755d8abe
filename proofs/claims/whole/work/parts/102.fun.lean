def f_X5_roadCost_48_b23 (I : mI) (L : mL) (x1 : Int32) (x2 : Int32) (s0 : Int32) : Option Int32 := if s0 = 0 then (ck (inb ((x1 * 8) + x2) 64) (ck (inb x1 8) (some ((I 48 10) + (((I 49 ((x1 * 8) + x2).toNatClampNeg) * (I 51 x1.toNatClampNeg)) / 10))))) else (some (I 48 10))
theorem ok_X5_roadCost_48_b23 {d : Nat} (hd : 0 ≤ d){I : mI} {L : mL} (x1 : Int32) (x2 : Int32) (s0 : Int32) {o : Int32} (h : f_X5_roadCost_48_b23 I L x1 x2 s0 = some o) : RR mX5_roadCost d 23 [some (.ref 48), some (.int x1), some (.int x2), none] [.int s0] I L (retQ (some (.int o)) I L) := by
  unfold f_X5_roadCost_48_b23 at h
  refine r_istore_n (i := 3) dX5_roadCost_23 rfl (by decide) rfl ?_
  simp only [List.set_cons_zero, List.set_cons_succ]
  refine r_iload_n (i := 3) dX5_roadCost_24 rfl rfl ?_
  refine r_if_eq (tgt := 35) dX5_roadCost_25 (by decide) (fun c => ?_) (fun c => ?_)
  · rw [if_pos c] at h
    refine r_aload_n (i := 0) dX5_roadCost_35 rfl rfl ?_
    refine r_getI f_X5_54 dX5_roadCost_36 rfl rfl ?_
    refine r_aload_n (i := 0) dX5_roadCost_39 rfl rfl ?_
    refine r_getR f_X5_11 dX5_roadCost_40 rfl rfl ?_
    refine r_iload_n (i := 1) dX5_roadCost_43 rfl rfl ?_
    refine r_bipush (v := 8) dX5_roadCost_44 (by decide) ?_
    refine r_imul dX5_roadCost_46 ?_
    refine r_iload_n (i := 2) dX5_roadCost_47 rfl rfl ?_
    refine r_iadd dX5_roadCost_48 ?_
    obtain ⟨hb, h⟩ := ck_some h
    refine r_iald rfl (inb_vp hb) dX5_roadCost_49 ?_
    refine r_aload_n (i := 0) dX5_roadCost_50 rfl rfl ?_
    refine r_getR f_X5_18 dX5_roadCost_51 rfl rfl ?_
    refine r_iload_n (i := 1) dX5_roadCost_54 rfl rfl ?_
    obtain ⟨hb, h⟩ := ck_some h
    refine r_iald rfl (inb_vp hb) dX5_roadCost_55 ?_
    refine r_imul dX5_roadCost_56 ?_
    refine r_bipush (v := 10) dX5_roadCost_57 (by decide) ?_
    refine r_idiv dX5_roadCost_59 (by decide) ?_
    refine r_iadd dX5_roadCost_60 ?_
    refine r_iret (by first | rfl | decide) dX5_roadCost_61 ?_
    obtain rfl := Option.some.inj h
    exact ⟨rfl, rfl, rfl⟩
  · rw [if_neg c] at h
    refine r_aload_n (i := 0) dX5_roadCost_28 rfl rfl ?_
    refine r_getI f_X5_54 dX5_roadCost_29 rfl rfl ?_
    refine r_goto (tgt := 61) dX5_roadCost_32 (by decide) ?_
    refine r_iret (by first | rfl | decide) dX5_roadCost_61 ?_
    obtain rfl := Option.some.inj h
    exact ⟨rfl, rfl, rfl⟩
def f_X5_roadCost_48 (I : mI) (L : mL) (a1 : Int32) (a2 : Int32) : Option Int32 := if ((((I 48 11) >>> (a1 &&& 31)) &&& ((I 48 11) >>> (a2 &&& 31))) &&& 1) = 0 then (f_X5_roadCost_48_b23 I L a1 a2 0) else (f_X5_roadCost_48_b23 I L a1 a2 1)
theorem ok_X5_roadCost_48 {d : Nat} (hd : 0 ≤ d) {I : mI} {L : mL} {a1 : Int32} {a2 : Int32} {o : Int32} (h : f_X5_roadCost_48 I L a1 a2 = some o) : RR mX5_roadCost d 0 [some (.ref 48), some (.int a1), some (.int a2), none] [] I L (retQ (some (.int o)) I L) := by
  unfold f_X5_roadCost_48 at h
  refine r_aload_n (i := 0) dX5_roadCost_0 rfl rfl ?_
  refine r_getI f_X5_57 dX5_roadCost_1 rfl rfl ?_
  refine r_iload_n (i := 1) dX5_roadCost_4 rfl rfl ?_
  refine r_ishr dX5_roadCost_5 ?_
  refine r_aload_n (i := 0) dX5_roadCost_6 rfl rfl ?_
  refine r_getI f_X5_57 dX5_roadCost_7 rfl rfl ?_
  refine r_iload_n (i := 2) dX5_roadCost_10 rfl rfl ?_
  refine r_ishr dX5_roadCost_11 ?_
  refine r_iand dX5_roadCost_12 ?_
  refine r_iconst (v := 1) dX5_roadCost_13 (by decide) ?_
  refine r_iand dX5_roadCost_14 ?_
  refine r_if_eq (tgt := 22) dX5_roadCost_15 (by decide) (fun c => ?_) (fun c => ?_)
  · rw [if_pos c] at h
    refine r_iconst (v := 0) dX5_roadCost_22 (by decide) ?_
    exact RR.wk (ok_X5_roadCost_48_b23 hd _ _ _ h) (And.intro rfl (And.intro rfl (And.intro rfl (trivial))))
  · rw [if_neg c] at h
    refine r_iconst (v := 1) dX5_roadCost_18 (by decide) ?_
    refine r_goto (tgt := 23) dX5_roadCost_19 (by decide) ?_
    exact RR.wk (ok_X5_roadCost_48_b23 hd _ _ _ h) (And.intro rfl (And.intro rfl (And.intro rfl (trivial))))
def f_X5_leave_48_l16 : Nat → Int32 → Int32 → mI → mL → rV
  | 0, _, _, _, _ => none
  | n + 1, x1, x2, I, L => if (I 48 8) ≤ x2 then (some (I, L)) else (if (((I 48 12) >>> (x2 &&& 31)) &&& 1) = 0 then (lt (x2 + Int32.ofInt 1) (fun v2 => f_X5_leave_48_l16 n x1 v2 I L)) else (ck (inb ((x1 * 8) + x2) 64) (if (I 49 ((x1 * 8) + x2).toNatClampNeg) = (-1) then (lt (x2 + Int32.ofInt 1) (fun v3 => f_X5_leave_48_l16 n x1 v3 I L)) else (ck (inb x1 8) ((f_X5_roadCost_48 I L x1 x2).bind (fun r4 => lt ((I 52 x1.toNatClampNeg) + r4) (fun v5 => ck (inb x2 8) (if (I 52 x2.toNatClampNeg) ≤ v5 then (lt (x2 + Int32.ofInt 1) (fun v6 => f_X5_leave_48_l16 n x1 v6 I L)) else (ck (inb x2 8) (lt (uI I 52 x2.toNatClampNeg v5) (fun M7 => lt (x2 + Int32.ofInt 1) (fun v8 => f_X5_leave_48_l16 n x1 v8 M7 L))))))))))))
theorem ok_X5_leave_48_l16 {d : Nat} (hd : 1 ≤ d) : ∀ (n : Nat) (x1 : Int32) (x2 : Int32) (I : mI) (L : mL) (o : mI × mL), f_X5_leave_48_l16 n x1 x2 I L = some o → RR mX5_leave d 16 [some (.ref 48), some (.int x1), some (.int x2), none] [] I L (retQ none o.1 o.2) := by
  intro n
  induction n with
  | zero => intro x1 x2 I L o h; rw [f_X5_leave_48_l16] at h; cases h
  | succ n ih =>
    intro x1 x2 I L o h
    rw [f_X5_leave_48_l16] at h
    refine r_iload_n (i := 2) dX5_leave_16 rfl rfl ?_
    refine r_aload_n (i := 0) dX5_leave_17 rfl rfl ?_
    refine r_getI f_X5_46 dX5_leave_18 rfl rfl ?_
    refine r_icmp_ge (tgt := 87) dX5_leave_21 (by decide) (fun c => ?_) (fun c => ?_)
    · rw [if_pos c] at h
      refine r_vret dX5_leave_87 ?_
      obtain rfl := Option.some.inj h
      exact ⟨rfl, rfl, rfl⟩
    · rw [if_neg c] at h
      refine r_aload_n (i := 0) dX5_leave_24 rfl rfl ?_
      refine r_getI f_X5_113 dX5_leave_25 rfl rfl ?_
      refine r_iload_n (i := 2) dX5_leave_28 rfl rfl ?_
      refine r_ishr dX5_leave_29 ?_
      refine r_iconst (v := 1) dX5_leave_30 (by decide) ?_
      refine r_iand dX5_leave_31 ?_
      refine r_if_eq (tgt := 81) dX5_leave_32 (by decide) (fun c => ?_) (fun c => ?_)
      · rw [if_pos c] at h
        refine r_iinc (v := _) dX5_leave_81 rfl rfl (by decide) rfl ?_
        simp only [List.set_cons_zero, List.set_cons_succ]
        replace h := lt_some h
        refine r_goto (tgt := 16) dX5_leave_84 (by decide) ?_
        exact RR.wk (ih _ _ _ _ _ h) (And.intro rfl (And.intro rfl (And.intro rfl (trivial))))
      · rw [if_neg c] at h
        refine r_aload_n (i := 0) dX5_leave_35 rfl rfl ?_
        refine r_getR f_X5_11 dX5_leave_36 rfl rfl ?_
        refine r_iload_n (i := 1) dX5_leave_39 rfl rfl ?_
        refine r_bipush (v := 8) dX5_leave_40 (by decide) ?_
        refine r_imul dX5_leave_42 ?_
        refine r_iload_n (i := 2) dX5_leave_43 rfl rfl ?_
        refine r_iadd dX5_leave_44 ?_
        obtain ⟨hb, h⟩ := ck_some h
        refine r_iald rfl (inb_vp hb) dX5_leave_45 ?_
        refine r_iconst (v := (-1)) dX5_leave_46 (by decide) ?_
        refine r_icmp_eq (tgt := 81) dX5_leave_47 (by decide) (fun c => ?_) (fun c => ?_)
        · rw [if_pos c] at h
          refine r_iinc (v := _) dX5_leave_81 rfl rfl (by decide) rfl ?_
          simp only [List.set_cons_zero, List.set_cons_succ]
          replace h := lt_some h
          refine r_goto (tgt := 16) dX5_leave_84 (by decide) ?_
          exact RR.wk (ih _ _ _ _ _ h) (And.intro rfl (And.intro rfl (And.intro rfl (trivial))))
        · rw [if_neg c] at h
          refine r_aload_n (i := 0) dX5_leave_50 rfl rfl ?_
          refine r_getR f_X5_21 dX5_leave_51 rfl rfl ?_
          refine r_iload_n (i := 1) dX5_leave_54 rfl rfl ?_
          obtain ⟨hb, h⟩ := ck_some h
          refine r_iald rfl (inb_vp hb) dX5_leave_55 ?_
          refine r_aload_n (i := 0) dX5_leave_56 rfl rfl ?_
          refine r_iload_n (i := 1) dX5_leave_57 rfl rfl ?_
          refine r_iload_n (i := 2) dX5_leave_58 rfl rfl ?_
          obtain ⟨r4, hr, h⟩ := bind_some h
          refine r_V (d' := 0) k_X5_116 dX5_leave_59 (by omega) rfl rfl rfl (Nat.le_of_ble_eq_true rfl) (Nat.le_of_ble_eq_true rfl) (ok_X5_roadCost_48 (Nat.le_refl _) hr) (fun v I' L' hq => ?_)
          obtain ⟨rfl, rfl, rfl⟩ := hq
          simp only [Option.toList_some, Option.toList_none, List.drop_succ_cons, List.drop_zero, List.drop_nil, List.cons_append, List.nil_append]
          refine r_iadd dX5_leave_62 ?_
          refine r_istore_n (i := 3) dX5_leave_63 rfl (by decide) rfl ?_
          simp only [List.set_cons_zero, List.set_cons_succ]
          replace h := lt_some h
          refine r_iload_n (i := 3) dX5_leave_64 rfl rfl ?_
          refine r_aload_n (i := 0) dX5_leave_65 rfl rfl ?_
          refine r_getR f_X5_21 dX5_leave_66 rfl rfl ?_
          refine r_iload_n (i := 2) dX5_leave_69 rfl rfl ?_
          obtain ⟨hb, h⟩ := ck_some h
          refine r_iald rfl (inb_vp hb) dX5_leave_70 ?_
          refine r_icmp_ge (tgt := 81) dX5_leave_71 (by decide) (fun c => ?_) (fun c => ?_)
          · rw [if_pos c] at h
            refine r_iinc (v := _) dX5_leave_81 rfl rfl (by decide) rfl ?_
            simp only [List.set_cons_zero, List.set_cons_succ]
            replace h := lt_some h
            refine r_goto (tgt := 16) dX5_leave_84 (by decide) ?_
            exact RR.wk (ih _ _ _ _ _ h) (And.intro rfl (And.intro rfl (And.intro rfl (trivial))))
          · rw [if_neg c] at h
            refine r_aload_n (i := 0) dX5_leave_74 rfl rfl ?_
            refine r_getR f_X5_21 dX5_leave_75 rfl rfl ?_
            refine r_iload_n (i := 2) dX5_leave_78 rfl rfl ?_
            refine r_iload_n (i := 3) dX5_leave_79 rfl rfl ?_
            obtain ⟨hb, h⟩ := ck_some h
            refine r_iast rfl (inb_vp hb) dX5_leave_80 ?_
            replace h := lt_some h
            refine r_iinc (v := _) dX5_leave_81 rfl rfl (by decide) rfl ?_
            simp only [List.set_cons_zero, List.set_cons_succ]
            replace h := lt_some h
            refine r_goto (tgt := 16) dX5_leave_84 (by decide) ?_
            exact RR.wk (ih _ _ _ _ _ h) (And.intro rfl (And.intro rfl (And.intro rfl (trivial))))
def f_X5_leave_48 (I : mI) (L : mL) (a1 : Int32) : rV := lt (uI I 48 12 ((I 48 12) &&& (((1 : Int32) <<< (a1 &&& 31)) ^^^ (-1)))) (fun M1 => f_X5_leave_48_l16 fuel a1 0 M1 L)
theorem ok_X5_leave_48 {d : Nat} (hd : 1 ≤ d) {I : mI} {L : mL} {a1 : Int32} {o : mI × mL} (h : f_X5_leave_48 I L a1 = some o) : RR mX5_leave d 0 [some (.ref 48), some (.int a1), none, none] [] I L (retQ none o.1 o.2) := by
  unfold f_X5_leave_48 at h
  refine r_aload_n (i := 0) dX5_leave_0 rfl rfl ?_
  refine r_dup dX5_leave_1 rfl ?_
  refine r_getI f_X5_113 dX5_leave_2 rfl rfl ?_
  refine r_iconst (v := 1) dX5_leave_5 (by decide) ?_
  refine r_iload_n (i := 1) dX5_leave_6 rfl rfl ?_
  refine r_ishl dX5_leave_7 ?_
  refine r_iconst (v := (-1)) dX5_leave_8 (by decide) ?_
  refine r_ixor dX5_leave_9 ?_
  refine r_iand dX5_leave_10 ?_
  refine r_putI f_X5_113 rfl rfl dX5_leave_11 rfl rfl ?_
  replace h := lt_some h
  refine r_iconst (v := 0) dX5_leave_14 (by decide) ?_
  refine r_istore_n (i := 2) dX5_leave_15 rfl (by decide) rfl ?_
  simp only [List.set_cons_zero, List.set_cons_succ]
  exact RR.wk (ok_X5_leave_48_l16 hd _ _ _ _ _ _ h) (And.intro rfl (And.intro rfl (And.intro rfl (trivial))))
def f_X5_spread_48_l7 : Nat → Int32 → mI → mL → rV
  | 0, _, _, _ => none
  | n + 1, x2, I, L => if (I 48 8) ≤ x2 then (some (I, L)) else ((f_X5_nearest_48 I L).bind (fun r3 => if 0 ≤ r3 then (bndV (f_X5_leave_48 I L r3) (fun Ir4 Lr4 => lt (x2 + Int32.ofInt 1) (fun v6 => f_X5_spread_48_l7 n v6 Ir4 Lr4))) else (some (I, L))))
theorem ok_X5_spread_48_l7 {d : Nat} (hd : 2 ≤ d) : ∀ (n : Nat) (x2 : Int32) (I : mI) (L : mL) (o : mI × mL), f_X5_spread_48_l7 n x2 I L = some o → RR mX5_spread d 7 [some (.ref 48), none, some (.int x2), none] [] I L (retQ none o.1 o.2) := by
  intro n
  induction n with
  | zero => intro x2 I L o h; rw [f_X5_spread_48_l7] at h; cases h
  | succ n ih =>
    intro x2 I L o h
    rw [f_X5_spread_48_l7] at h
    refine r_iload_n (i := 2) dX5_spread_7 rfl rfl ?_
    refine r_aload_n (i := 0) dX5_spread_8 rfl rfl ?_
    refine r_getI f_X5_46 dX5_spread_9 rfl rfl ?_
    refine r_icmp_ge (tgt := 36) dX5_spread_12 (by decide) (fun c => ?_) (fun c => ?_)
    · rw [if_pos c] at h
      refine r_vret dX5_spread_36 ?_
      obtain rfl := Option.some.inj h
      exact ⟨rfl, rfl, rfl⟩
    · rw [if_neg c] at h
      refine r_aload_n (i := 0) dX5_spread_15 rfl rfl ?_
      obtain ⟨r3, hr, h⟩ := bind_some h
      refine r_V (d' := 0) k_X5_84 dX5_spread_16 (by omega) rfl rfl rfl (Nat.le_of_ble_eq_true rfl) (Nat.le_of_ble_eq_true rfl) (ok_X5_nearest_48 (Nat.le_refl _) hr) (fun v I' L' hq => ?_)
      obtain ⟨rfl, rfl, rfl⟩ := hq
      simp only [Option.toList_some, Option.toList_none, List.drop_succ_cons, List.drop_zero, List.drop_nil, List.cons_append, List.nil_append]
      refine r_istore_n (i := 3) dX5_spread_19 rfl (by decide) rfl ?_
      simp only [List.set_cons_zero, List.set_cons_succ]
      refine r_iload_n (i := 3) dX5_spread_20 rfl rfl ?_
      refine r_if_ge (tgt := 25) dX5_spread_21 (by decide) (fun c => ?_) (fun c => ?_)
      · rw [if_pos c] at h
        refine r_aload_n (i := 0) dX5_spread_25 rfl rfl ?_
        refine r_iload_n (i := 3) dX5_spread_26 rfl rfl ?_
        obtain ⟨⟨Ir4, Lr4⟩, hr, h⟩ := bind_some h
        refine r_V (d' := 1) k_X5_88 dX5_spread_27 (by omega) rfl rfl rfl (Nat.le_of_ble_eq_true rfl) (Nat.le_of_ble_eq_true rfl) (ok_X5_leave_48 (Nat.le_refl _) hr) (fun v I' L' hq => ?_)
        obtain ⟨rfl, rfl, rfl⟩ := hq
        simp only [Option.toList_some, Option.toList_none, List.drop_succ_cons, List.drop_zero, List.drop_nil, List.cons_append, List.nil_append]
        dsimp only at h
        refine r_iinc (v := _) dX5_spread_30 rfl rfl (by decide) rfl ?_
        simp only [List.set_cons_zero, List.set_cons_succ]
        replace h := lt_some h
        refine r_goto (tgt := 7) dX5_spread_33 (by decide) ?_
        exact RR.wk (ih _ _ _ _ h) (And.intro rfl (And.intro rfl (trivial)))
      · rw [if_neg c] at h
        refine r_vret dX5_spread_24 ?_
        obtain rfl := Option.some.inj h
        exact ⟨rfl, rfl, rfl⟩
def f_X5_spread_48 (I : mI) (L : mL) (a1 : Int32) : rV := bndV (f_X5_start_48 I L a1) (fun Ir1 Lr1 => f_X5_spread_48_l7 fuel 0 Ir1 Lr1)
theorem ok_X5_spread_48 {d : Nat} (hd : 2 ≤ d) {I : mI} {L : mL} {a1 : Int32} {o : mI × mL} (h : f_X5_spread_48 I L a1 = some o) : RR mX5_spread d 0 [some (.ref 48), some (.int a1), none, none] [] I L (retQ none o.1 o.2) := by
  unfold f_X5_spread_48 at h
  refine r_aload_n (i := 0) dX5_spread_0 rfl rfl ?_
  refine r_iload_n (i := 1) dX5_spread_1 rfl rfl ?_
  obtain ⟨⟨Ir1, Lr1⟩, hr, h⟩ := bind_some h
  refine r_V (d' := 1) k_X5_80 dX5_spread_2 (by omega) rfl rfl rfl (Nat.le_of_ble_eq_true rfl) (Nat.le_of_ble_eq_true rfl) (ok_X5_start_48 (Nat.le_refl _) hr) (fun v I' L' hq => ?_)
  obtain ⟨rfl, rfl, rfl⟩ := hq
  simp only [Option.toList_some, Option.toList_none, List.drop_succ_cons, List.drop_zero, List.drop_nil, List.cons_append, List.nil_append]
  dsimp only at h
  refine r_iconst (v := 0) dX5_spread_5 (by decide) ?_
  refine r_istore_n (i := 2) dX5_spread_6 rfl (by decide) rfl ?_
  simp only [List.set_cons_zero, List.set_cons_succ]
  exact RR.wk (ok_X5_spread_48_l7 hd _ _ _ _ _ h) (And.intro rfl (And.intro rfl (trivial)))
def f_X5_spreadAll_48_l2 : Nat → Int32 → mI → mL → rV
  | 0, _, _, _ => none
  | n + 1, x1, I, L => if (I 48 8) ≤ x1 then (some (I, L)) else (bndV (f_X5_spread_48 I L x1) (fun Ir1 Lr1 => ck (cpk 0 (x1 * 8) 8 8 64) (lt (pI Ir1 50 (va_cpy (Ir1 52) (Ir1 50) (0 : Int32).toNatClampNeg (x1 * 8).toNatClampNeg (8 : Int32).toNatClampNeg)) (fun M3 => lt (x1 + Int32.ofInt 1) (fun v4 => f_X5_spreadAll_48_l2 n v4 M3 Lr1)))))
theorem ok_X5_spreadAll_48_l2 {d : Nat} (hd : 3 ≤ d) : ∀ (n : Nat) (x1 : Int32) (I : mI) (L : mL) (o : mI × mL), f_X5_spreadAll_48_l2 n x1 I L = some o → RR mX5_spreadAll d 2 [some (.ref 48), some (.int x1)] [] I L (retQ none o.1 o.2) := by
  intro n
  induction n with
  | zero => intro x1 I L o h; rw [f_X5_spreadAll_48_l2] at h; cases h
  | succ n ih =>
    intro x1 I L o h
    rw [f_X5_spreadAll_48_l2] at h
    refine r_iload_n (i := 1) dX5_spreadAll_2 rfl rfl ?_
    refine r_aload_n (i := 0) dX5_spreadAll_3 rfl rfl ?_
    refine r_getI f_X5_46 dX5_spreadAll_4 rfl rfl ?_
    refine r_icmp_ge (tgt := 39) dX5_spreadAll_7 (by decide) (fun c => ?_) (fun c => ?_)
    · rw [if_pos c] at h
      refine r_vret dX5_spreadAll_39 ?_
      obtain rfl := Option.some.inj h
      exact ⟨rfl, rfl, rfl⟩
    · rw [if_neg c] at h
      refine r_aload_n (i := 0) dX5_spreadAll_10 rfl rfl ?_
      refine r_iload_n (i := 1) dX5_spreadAll_11 rfl rfl ?_
      obtain ⟨⟨Ir1, Lr1⟩, hr, h⟩ := bind_some h
      refine r_V (d' := 2) k_X5_119 dX5_spreadAll_12 (by omega) rfl rfl rfl (Nat.le_of_ble_eq_true rfl) (Nat.le_of_ble_eq_true rfl) (ok_X5_spread_48 (Nat.le_refl _) hr) (fun v I' L' hq => ?_)
      obtain ⟨rfl, rfl, rfl⟩ := hq
      simp only [Option.toList_some, Option.toList_none, List.drop_succ_cons, List.drop_zero, List.drop_nil, List.cons_append, List.nil_append]
      dsimp only at h
      refine r_aload_n (i := 0) dX5_spreadAll_15 rfl rfl ?_
      refine r_getR f_X5_21 dX5_spreadAll_16 rfl rfl ?_
      refine r_iconst (v := 0) dX5_spreadAll_19 (by decide) ?_
      refine r_aload_n (i := 0) dX5_spreadAll_20 rfl rfl ?_
      refine r_getR f_X5_15 dX5_spreadAll_21 rfl rfl ?_
      refine r_iload_n (i := 1) dX5_spreadAll_24 rfl rfl ?_
      refine r_bipush (v := 8) dX5_spreadAll_25 (by decide) ?_
      refine r_imul dX5_spreadAll_27 ?_
      refine r_bipush (v := 8) dX5_spreadAll_28 (by decide) ?_
      obtain ⟨hb, h⟩ := ck_some h
      obtain ⟨hc1, hc2, hc3, hc4, hc5⟩ := cpk_spec hb
      refine r_copyI k_X5_122 rfl rfl hc1 hc2 hc3 hc4 hc5 dX5_spreadAll_30 (by omega) (Nat.le_of_ble_eq_true rfl) ?_
      replace h := lt_some h
      refine r_iinc (v := _) dX5_spreadAll_33 rfl rfl (by decide) rfl ?_
      simp only [List.set_cons_zero, List.set_cons_succ]
      replace h := lt_some h
      refine r_goto (tgt := 2) dX5_spreadAll_36 (by decide) ?_
      exact RR.wk (ih _ _ _ _ h) (And.intro rfl (And.intro rfl (trivial)))
def f_X5_spreadAll_48 (I : mI) (L : mL) : rV := f_X5_spreadAll_48_l2 fuel 0 I L
theorem ok_X5_spreadAll_48 {d : Nat} (hd : 3 ≤ d) {I : mI} {L : mL} {o : mI × mL} (h : f_X5_spreadAll_48 I L = some o) : RR mX5_spreadAll d 0 [some (.ref 48), none] [] I L (retQ none o.1 o.2) := by
  unfold f_X5_spreadAll_48 at h
  refine r_iconst (v := 0) dX5_spreadAll_0 (by decide) ?_
  refine r_istore_n (i := 1) dX5_spreadAll_1 rfl (by decide) rfl ?_
  simp only [List.set_cons_zero, List.set_cons_succ]
  exact RR.wk (ok_X5_spreadAll_48_l2 hd _ _ _ _ _ h) (And.intro rfl (And.intro rfl (trivial)))
def f_X5_findNext_48_l32 (k2 : Int32 → Int32 → mI → mL → rV) : Nat → Int32 → Int32 → Int32 → Int32 → mI → mL → rV
  | 0, _, _, _, _, _, _ => none
  | n + 1, x1, x2, x3, x4, I, L => if (I 48 8) ≤ x4 then (lt (x2 + Int32.ofInt 1) (fun v3 => k2 x1 v3 I L)) else (if 536870912 ≤ x3 then (lt (x4 + Int32.ofInt 1) (fun v4 => f_X5_findNext_48_l32 k2 n x1 x2 x3 v4 I L)) else (ck (inb ((x2 * 8) + x4) 64) (if (I 49 ((x2 * 8) + x4).toNatClampNeg) = (-1) then (lt (x4 + Int32.ofInt 1) (fun v5 => f_X5_findNext_48_l32 k2 n x1 x2 x3 v5 I L)) else ((f_X5_roadCost_48 I L x2 x4).bind (fun r6 => ck (inb ((x4 * 8) + x1) 64) (if (r6 + (I 50 ((x4 * 8) + x1).toNatClampNeg)) = x3 then (ck (inb x2 8) (ck (inb x2 8) (lt (uI I 53 x2.toNatClampNeg ((I 53 x2.toNatClampNeg) ||| ((1 : Int32) <<< (x4 &&& 31)))) (fun M8 => lt (x4 + Int32.ofInt 1) (fun v9 => f_X5_findNext_48_l32 k2 n x1 x2 x3 v9 M8 L))))) else (lt (x4 + Int32.ofInt 1) (fun v7 => f_X5_findNext_48_l32 k2 n x1 x2 x3 v7 I L))))))))
theorem ok_X5_findNext_48_l32 {d : Nat} (hd : 1 ≤ d) {k2 : Int32 → Int32 → mI → mL → rV} (hk2 : ∀ (x1 : Int32) (x2 : Int32) (I : mI) (L : mL) (o : mI × mL), k2 x1 x2 I L = some o → RR mX5_findNext d 2 [some (.ref 48), some (.int x1), some (.int x2), none, none] [] I L (retQ none o.1 o.2)) : ∀ (n : Nat) (x1 : Int32) (x2 : Int32) (x3 : Int32) (x4 : Int32) (I : mI) (L : mL) (o : mI × mL), f_X5_findNext_48_l32 k2 n x1 x2 x3 x4 I L = some o → RR mX5_findNext d 32 [some (.ref 48), some (.int x1), some (.int x2), some (.int x3), some (.int x4)] [] I L (retQ none o.1 o.2) := by
  intro n
  induction n with
  | zero => intro x1 x2 x3 x4 I L o h; rw [f_X5_findNext_48_l32] at h; cases h
  | succ n ih =>
    intro x1 x2 x3 x4 I L o h
    rw [f_X5_findNext_48_l32] at h
    refine r_iload dX5_findNext_32 rfl ?_
    refine r_aload_n (i := 0) dX5_findNext_34 rfl rfl ?_
    refine r_getI f_X5_46 dX5_findNext_35 rfl rfl ?_
    refine r_icmp_ge (tgt := 106) dX5_findNext_38 (by decide) (fun c => ?_) (fun c => ?_)
    · rw [if_pos c] at h
      refine r_iinc (v := _) dX5_findNext_106 rfl rfl (by decide) rfl ?_
      simp only [List.set_cons_zero, List.set_cons_succ]
      replace h := lt_some h
      refine r_goto (tgt := 2) dX5_findNext_109 (by decide) ?_
      exact RR.wk (hk2 _ _ _ _ _ h) (And.intro rfl (And.intro rfl (And.intro rfl (trivial))))
    · rw [if_neg c] at h
      refine r_iload_n (i := 3) dX5_findNext_41 rfl rfl ?_
      refine r_ldc n_X5_112 dX5_findNext_42 ?_
      refine r_icmp_ge (tgt := 100) dX5_findNext_44 (by decide) (fun c => ?_) (fun c => ?_)
      · rw [if_pos c] at h
        refine r_iinc (v := _) dX5_findNext_100 rfl rfl (by decide) rfl ?_
        simp only [List.set_cons_zero, List.set_cons_succ]
        replace h := lt_some h
        refine r_goto (tgt := 32) dX5_findNext_103 (by decide) ?_
        exact RR.wk (ih _ _ _ _ _ _ _ h) (And.intro rfl (And.intro rfl (And.intro rfl (And.intro rfl (And.intro rfl (trivial))))))
      · rw [if_neg c] at h
        refine r_aload_n (i := 0) dX5_findNext_47 rfl rfl ?_
        refine r_getR f_X5_11 dX5_findNext_48 rfl rfl ?_
        refine r_iload_n (i := 2) dX5_findNext_51 rfl rfl ?_
        refine r_bipush (v := 8) dX5_findNext_52 (by decide) ?_
        refine r_imul dX5_findNext_54 ?_
        refine r_iload dX5_findNext_55 rfl ?_
        refine r_iadd dX5_findNext_57 ?_
        obtain ⟨hb, h⟩ := ck_some h
        refine r_iald rfl (inb_vp hb) dX5_findNext_58 ?_
        refine r_iconst (v := (-1)) dX5_findNext_59 (by decide) ?_
        refine r_icmp_eq (tgt := 100) dX5_findNext_60 (by decide) (fun c => ?_) (fun c => ?_)
        · rw [if_pos c] at h
          refine r_iinc (v := _) dX5_findNext_100 rfl rfl (by decide) rfl ?_
          simp only [List.set_cons_zero, List.set_cons_succ]
          replace h := lt_some h
          refine r_goto (tgt := 32) dX5_findNext_103 (by decide) ?_
          exact RR.wk (ih _ _ _ _ _ _ _ h) (And.intro rfl (And.intro rfl (And.intro rfl (And.intro rfl (And.intro rfl (trivial))))))
        · rw [if_neg c] at h
          refine r_aload_n (i := 0) dX5_findNext_63 rfl rfl ?_
          refine r_iload_n (i := 2) dX5_findNext_64 rfl rfl ?_
          refine r_iload dX5_findNext_65 rfl ?_
          obtain ⟨r6, hr, h⟩ := bind_some h
          refine r_V (d' := 0) k_X5_116 dX5_findNext_67 (by omega) rfl rfl rfl (Nat.le_of_ble_eq_true rfl) (Nat.le_of_ble_eq_true rfl) (ok_X5_roadCost_48 (Nat.le_refl _) hr) (fun v I' L' hq => ?_)
          obtain ⟨rfl, rfl, rfl⟩ := hq
          simp only [Option.toList_some, Option.toList_none, List.drop_succ_cons, List.drop_zero, List.drop_nil, List.cons_append, List.nil_append]
          refine r_aload_n (i := 0) dX5_findNext_70 rfl rfl ?_
          refine r_getR f_X5_15 dX5_findNext_71 rfl rfl ?_
          refine r_iload dX5_findNext_74 rfl ?_
          refine r_bipush (v := 8) dX5_findNext_76 (by decide) ?_
          refine r_imul dX5_findNext_78 ?_
          refine r_iload_n (i := 1) dX5_findNext_79 rfl rfl ?_
          refine r_iadd dX5_findNext_80 ?_
          obtain ⟨hb, h⟩ := ck_some h
          refine r_iald rfl (inb_vp hb) dX5_findNext_81 ?_
          refine r_iadd dX5_findNext_82 ?_
          refine r_iload_n (i := 3) dX5_findNext_83 rfl rfl ?_
          refine r_icmp_ne (tgt := 100) dX5_findNext_84 (by decide) (fun c => ?_) (fun c => ?_)
          · rw [if_neg c] at h
            refine r_iinc (v := _) dX5_findNext_100 rfl rfl (by decide) rfl ?_
            simp only [List.set_cons_zero, List.set_cons_succ]
            replace h := lt_some h
            refine r_goto (tgt := 32) dX5_findNext_103 (by decide) ?_
            exact RR.wk (ih _ _ _ _ _ _ _ h) (And.intro rfl (And.intro rfl (And.intro rfl (And.intro rfl (And.intro rfl (trivial))))))
          · rw [if_pos c] at h
            refine r_aload_n (i := 0) dX5_findNext_87 rfl rfl ?_
            refine r_getR f_X5_24 dX5_findNext_88 rfl rfl ?_
            refine r_iload_n (i := 2) dX5_findNext_91 rfl rfl ?_
            refine r_dup2 dX5_findNext_92 rfl rfl ?_
            obtain ⟨hb, h⟩ := ck_some h
            refine r_iald rfl (inb_vp hb) dX5_findNext_93 ?_
            refine r_iconst (v := 1) dX5_findNext_94 (by decide) ?_
            refine r_iload dX5_findNext_95 rfl ?_
            refine r_ishl dX5_findNext_97 ?_
            refine r_ior dX5_findNext_98 ?_
            obtain ⟨hb, h⟩ := ck_some h
            refine r_iast rfl (inb_vp hb) dX5_findNext_99 ?_
            replace h := lt_some h
            refine r_iinc (v := _) dX5_findNext_100 rfl rfl (by decide) rfl ?_
            simp only [List.set_cons_zero, List.set_cons_succ]
            replace h := lt_some h
            refine r_goto (tgt := 32) dX5_findNext_103 (by decide) ?_
            exact RR.wk (ih _ _ _ _ _ _ _ h) (And.intro rfl (And.intro rfl (And.intro rfl (And.intro rfl (And.intro rfl (trivial))))))
def f_X5_findNext_48_l2 : Nat → Int32 → Int32 → mI → mL → rV
  | 0, _, _, _, _ => none
  | n + 1, x1, x2, I, L => if (I 48 8) ≤ x2 then (some (I, L)) else (ck (inb x2 8) (lt (uI I 53 x2.toNatClampNeg 0) (fun M1 => ck (inb ((x2 * 8) + x1) 64) (lt (M1 50 ((x2 * 8) + x1).toNatClampNeg) (fun v2 => f_X5_findNext_48_l32 (f_X5_findNext_48_l2 n) fuel x1 x2 v2 0 M1 L)))))
theorem ok_X5_findNext_48_l2 {d : Nat} (hd : 1 ≤ d) : ∀ (n : Nat) (x1 : Int32) (x2 : Int32) (I : mI) (L : mL) (o : mI × mL), f_X5_findNext_48_l2 n x1 x2 I L = some o → RR mX5_findNext d 2 [some (.ref 48), some (.int x1), some (.int x2), none, none] [] I L (retQ none o.1 o.2) := by
  intro n
  induction n with
  | zero => intro x1 x2 I L o h; rw [f_X5_findNext_48_l2] at h; cases h
  | succ n ih =>
    intro x1 x2 I L o h
    rw [f_X5_findNext_48_l2] at h
    refine r_iload_n (i := 2) dX5_findNext_2 rfl rfl ?_
    refine r_aload_n (i := 0) dX5_findNext_3 rfl rfl ?_
    refine r_getI f_X5_46 dX5_findNext_4 rfl rfl ?_
    refine r_icmp_ge (tgt := 112) dX5_findNext_7 (by decide) (fun c => ?_) (fun c => ?_)
    · rw [if_pos c] at h
      refine r_vret dX5_findNext_112 ?_
      obtain rfl := Option.some.inj h
      exact ⟨rfl, rfl, rfl⟩
    · rw [if_neg c] at h
      refine r_aload_n (i := 0) dX5_findNext_10 rfl rfl ?_
      refine r_getR f_X5_24 dX5_findNext_11 rfl rfl ?_
      refine r_iload_n (i := 2) dX5_findNext_14 rfl rfl ?_
      refine r_iconst (v := 0) dX5_findNext_15 (by decide) ?_
      obtain ⟨hb, h⟩ := ck_some h
      refine r_iast rfl (inb_vp hb) dX5_findNext_16 ?_
      replace h := lt_some h
      refine r_aload_n (i := 0) dX5_findNext_17 rfl rfl ?_
      refine r_getR f_X5_15 dX5_findNext_18 rfl rfl ?_
      refine r_iload_n (i := 2) dX5_findNext_21 rfl rfl ?_
      refine r_bipush (v := 8) dX5_findNext_22 (by decide) ?_
      refine r_imul dX5_findNext_24 ?_
      refine r_iload_n (i := 1) dX5_findNext_25 rfl rfl ?_
      refine r_iadd dX5_findNext_26 ?_
      obtain ⟨hb, h⟩ := ck_some h
      refine r_iald rfl (inb_vp hb) dX5_findNext_27 ?_
      refine r_istore_n (i := 3) dX5_findNext_28 rfl (by decide) rfl ?_
      simp only [List.set_cons_zero, List.set_cons_succ]
      replace h := lt_some h
      refine r_iconst (v := 0) dX5_findNext_29 (by decide) ?_
      refine r_istore dX5_findNext_30 (by decide) rfl ?_
      simp only [List.set_cons_zero, List.set_cons_succ]
      exact RR.wk (ok_X5_findNext_48_l32 hd ih _ _ _ _ _ _ _ _ h) (And.intro rfl (And.intro rfl (And.intro rfl (And.intro rfl (And.intro rfl (trivial))))))
def f_X5_findNext_48 (I : mI) (L : mL) (a1 : Int32) : rV := f_X5_findNext_48_l2 fuel a1 0 I L
theorem ok_X5_findNext_48 {d : Nat} (hd : 1 ≤ d) {I : mI} {L : mL} {a1 : Int32} {o : mI × mL} (h : f_X5_findNext_48 I L a1 = some o) : RR mX5_findNext d 0 [some (.ref 48), some (.int a1), none, none, none] [] I L (retQ none o.1 o.2) := by
  unfold f_X5_findNext_48 at h
  refine r_iconst (v := 0) dX5_findNext_0 (by decide) ?_
  refine r_istore_n (i := 2) dX5_findNext_1 rfl (by decide) rfl ?_
  simp only [List.set_cons_zero, List.set_cons_succ]
  exact RR.wk (ok_X5_findNext_48_l2 hd _ _ _ _ _ _ h) (And.intro rfl (And.intro rfl (And.intro rfl (trivial))))
def f_X5_reaches_48_l20 (I : mI) (L : mL) (k8 : Int32 → Int32 → Int32 → Int32 → Option Int32) : Nat → Int32 → Int32 → Int32 → Int32 → Int32 → Option Int32
  | 0, _, _, _, _, _ => none
  | n + 1, x2, x3, x4, x5, x6 => if (I 48 8) ≤ x6 then (lt (x5 + Int32.ofInt 1) (fun v2 => k8 x2 x3 x4 v2)) else (if ((x4 >>> (x6 &&& 31)) &&& 1) = 0 then (lt (x6 + Int32.ofInt 1) (fun v3 => f_X5_reaches_48_l20 I L k8 n x2 x3 x4 x5 v3)) else (ck (inb x6 8) (lt (x4 ||| ((I 53 x6.toNatClampNeg) &&& x3)) (fun v4 => lt (x6 + Int32.ofInt 1) (fun v5 => f_X5_reaches_48_l20 I L k8 n x2 x3 v4 x5 v5)))))
theorem ok_X5_reaches_48_l20 {d : Nat} (hd : 0 ≤ d){I : mI} {L : mL} {k8 : Int32 → Int32 → Int32 → Int32 → Option Int32} (hk8 : ∀ (x2 : Int32) (x3 : Int32) (x4 : Int32) (x5 : Int32) (o : Int32), k8 x2 x3 x4 x5 = some o → RR mX5_reaches d 8 [some (.ref 48), none, some (.int x2), some (.int x3), some (.int x4), some (.int x5), none] [] I L (retQ (some (.int o)) I L)) : ∀ (n : Nat) (x2 : Int32) (x3 : Int32) (x4 : Int32) (x5 : Int32) (x6 : Int32) (o : Int32), f_X5_reaches_48_l20 I L k8 n x2 x3 x4 x5 x6 = some o → RR mX5_reaches d 20 [some (.ref 48), none, some (.int x2), some (.int x3), some (.int x4), some (.int x5), some (.int x6)] [] I L (retQ (some (.int o)) I L) := by
  intro n
  induction n with
  | zero => intro x2 x3 x4 x5 x6 o h; rw [f_X5_reaches_48_l20] at h; cases h
  | succ n ih =>
    intro x2 x3 x4 x5 x6 o h
    rw [f_X5_reaches_48_l20] at h
    refine r_iload dX5_reaches_20 rfl ?_
    refine r_aload_n (i := 0) dX5_reaches_22 rfl rfl ?_
    refine r_getI f_X5_46 dX5_reaches_23 rfl rfl ?_
    refine r_icmp_ge (tgt := 59) dX5_reaches_26 (by decide) (fun c => ?_) (fun c => ?_)
    · rw [if_pos c] at h
      refine r_iinc (v := _) dX5_reaches_59 rfl rfl (by decide) rfl ?_
      simp only [List.set_cons_zero, List.set_cons_succ]
      replace h := lt_some h
      refine r_goto (tgt := 8) dX5_reaches_62 (by decide) ?_
      exact RR.wk (hk8 _ _ _ _ _ h) (And.intro rfl (And.intro rfl (And.intro rfl (And.intro rfl (And.intro rfl (trivial))))))
    · rw [if_neg c] at h
      refine r_iload dX5_reaches_29 rfl ?_
      refine r_iload dX5_reaches_31 rfl ?_
      refine r_ishr dX5_reaches_33 ?_
      refine r_iconst (v := 1) dX5_reaches_34 (by decide) ?_
      refine r_iand dX5_reaches_35 ?_
      refine r_if_eq (tgt := 53) dX5_reaches_36 (by decide) (fun c => ?_) (fun c => ?_)
      · rw [if_pos c] at h
        refine r_iinc (v := _) dX5_reaches_53 rfl rfl (by decide) rfl ?_
        simp only [List.set_cons_zero, List.set_cons_succ]
        replace h := lt_some h
        refine r_goto (tgt := 20) dX5_reaches_56 (by decide) ?_
        exact RR.wk (ih _ _ _ _ _ _ h) (And.intro rfl (And.intro rfl (And.intro rfl (And.intro rfl (And.intro rfl (And.intro rfl (trivial)))))))
      · rw [if_neg c] at h
        refine r_iload dX5_reaches_39 rfl ?_
        refine r_aload_n (i := 0) dX5_reaches_41 rfl rfl ?_
        refine r_getR f_X5_24 dX5_reaches_42 rfl rfl ?_
        refine r_iload dX5_reaches_45 rfl ?_
        obtain ⟨hb, h⟩ := ck_some h
        refine r_iald rfl (inb_vp hb) dX5_reaches_47 ?_
        refine r_iload_n (i := 3) dX5_reaches_48 rfl rfl ?_
        refine r_iand dX5_reaches_49 ?_
        refine r_ior dX5_reaches_50 ?_
        refine r_istore dX5_reaches_51 (by decide) rfl ?_
        simp only [List.set_cons_zero, List.set_cons_succ]
        replace h := lt_some h
        refine r_iinc (v := _) dX5_reaches_53 rfl rfl (by decide) rfl ?_
        simp only [List.set_cons_zero, List.set_cons_succ]
        replace h := lt_some h
        refine r_goto (tgt := 20) dX5_reaches_56 (by decide) ?_
        exact RR.wk (ih _ _ _ _ _ _ h) (And.intro rfl (And.intro rfl (And.intro rfl (And.intro rfl (And.intro rfl (And.intro rfl (trivial)))))))
def f_X5_reaches_48_l8 (I : mI) (L : mL) : Nat → Int32 → Int32 → Int32 → Int32 → Option Int32
  | 0, _, _, _, _ => none
  | n + 1, x2, x3, x4, x5 => if (I 48 8) ≤ x5 then (if ((x4 >>> (x2 &&& 31)) &&& 1) = 0 then (some 0) else (some 1)) else (f_X5_reaches_48_l20 I L (f_X5_reaches_48_l8 I L n) fuel x2 x3 x4 x5 0)
theorem ok_X5_reaches_48_l8 {d : Nat} (hd : 0 ≤ d){I : mI} {L : mL} : ∀ (n : Nat) (x2 : Int32) (x3 : Int32) (x4 : Int32) (x5 : Int32) (o : Int32), f_X5_reaches_48_l8 I L n x2 x3 x4 x5 = some o → RR mX5_reaches d 8 [some (.ref 48), none, some (.int x2), some (.int x3), some (.int x4), some (.int x5), none] [] I L (retQ (some (.int o)) I L) := by
  intro n
  induction n with
  | zero => intro x2 x3 x4 x5 o h; rw [f_X5_reaches_48_l8] at h; cases h
  | succ n ih =>
    intro x2 x3 x4 x5 o h
    rw [f_X5_reaches_48_l8] at h
    refine r_iload dX5_reaches_8 rfl ?_
    refine r_aload_n (i := 0) dX5_reaches_10 rfl rfl ?_
    refine r_getI f_X5_46 dX5_reaches_11 rfl rfl ?_
    refine r_icmp_ge (tgt := 65) dX5_reaches_14 (by decide) (fun c => ?_) (fun c => ?_)
    · rw [if_pos c] at h
      refine r_iload dX5_reaches_65 rfl ?_
      refine r_iload_n (i := 2) dX5_reaches_67 rfl rfl ?_
      refine r_ishr dX5_reaches_68 ?_
      refine r_iconst (v := 1) dX5_reaches_69 (by decide) ?_
      refine r_iand dX5_reaches_70 ?_
      refine r_if_eq (tgt := 78) dX5_reaches_71 (by decide) (fun c => ?_) (fun c => ?_)
      · rw [if_pos c] at h
        refine r_iconst (v := 0) dX5_reaches_78 (by decide) ?_
        refine r_iret (by first | rfl | decide) dX5_reaches_79 ?_
        obtain rfl := Option.some.inj h
        exact ⟨rfl, rfl, rfl⟩
      · rw [if_neg c] at h
        refine r_iconst (v := 1) dX5_reaches_74 (by decide) ?_
        refine r_goto (tgt := 79) dX5_reaches_75 (by decide) ?_
        refine r_iret (by first | rfl | decide) dX5_reaches_79 ?_
        obtain rfl := Option.some.inj h
        exact ⟨rfl, rfl, rfl⟩
    · rw [if_neg c] at h
      refine r_iconst (v := 0) dX5_reaches_17 (by decide) ?_
      refine r_istore dX5_reaches_18 (by decide) rfl ?_
      simp only [List.set_cons_zero, List.set_cons_succ]
      exact RR.wk (ok_X5_reaches_48_l20 hd ih _ _ _ _ _ _ _ h) (And.intro rfl (And.intro rfl (And.intro rfl (And.intro rfl (And.intro rfl (And.intro rfl (trivial)))))))
def f_X5_reaches_48 (I : mI) (L : mL) (a1 : Int32) (a2 : Int32) (a3 : Int32) : Option Int32 := lt ((1 : Int32) <<< (a1 &&& 31)) (fun v1 => f_X5_reaches_48_l8 I L fuel a2 a3 v1 0)
theorem ok_X5_reaches_48 {d : Nat} (hd : 0 ≤ d) {I : mI} {L : mL} {a1 : Int32} {a2 : Int32} {a3 : Int32} {o : Int32} (h : f_X5_reaches_48 I L a1 a2 a3 = some o) : RR mX5_reaches d 0 [some (.ref 48), some (.int a1), some (.int a2), some (.int a3), none, none, none] [] I L (retQ (some (.int o)) I L) := by
  unfold f_X5_reaches_48 at h
  refine r_iconst (v := 1) dX5_reaches_0 (by decide) ?_
  refine r_iload_n (i := 1) dX5_reaches_1 rfl rfl ?_
  refine r_ishl dX5_reaches_2 ?_
  refine r_istore dX5_reaches_3 (by decide) rfl ?_
  simp only [List.set_cons_zero, List.set_cons_succ]
  replace h := lt_some h
  refine r_iconst (v := 0) dX5_reaches_5 (by decide) ?_
  refine r_istore dX5_reaches_6 (by decide) rfl ?_
  simp only [List.set_cons_zero, List.set_cons_succ]
  exact RR.wk (ok_X5_reaches_48_l8 hd _ _ _ _ _ _ h) (And.intro rfl (And.intro rfl (And.intro rfl (And.intro rfl (And.intro rfl (trivial))))))
def f_X5_firstStep_48_l13 (I : mI) (L : mL) : Nat → Int32 → Int32 → Int32 → Int32 → Option Int32
  | 0, _, _, _, _ => none
  | n + 1, x2, x3, x4, x5 => if (I 48 8) ≤ x5 then (some (-1)) else (if ((x4 >>> (x5 &&& 31)) &&& 1) = 0 then (lt (x5 + Int32.ofInt 1) (fun v2 => f_X5_firstStep_48_l13 I L n x2 x3 x4 v2)) else ((f_X5_reaches_48 I L x5 x2 x3).bind (fun r3 => if r3 = 0 then (lt (x5 + Int32.ofInt 1) (fun v4 => f_X5_firstStep_48_l13 I L n x2 x3 x4 v4)) else (some x5))))
theorem ok_X5_firstStep_48_l13 {d : Nat} (hd : 1 ≤ d){I : mI} {L : mL} : ∀ (n : Nat) (x2 : Int32) (x3 : Int32) (x4 : Int32) (x5 : Int32) (o : Int32), f_X5_firstStep_48_l13 I L n x2 x3 x4 x5 = some o → RR mX5_firstStep d 13 [some (.ref 48), none, some (.int x2), some (.int x3), some (.int x4), some (.int x5)] [] I L (retQ (some (.int o)) I L) := by
  intro n
  induction n with
  | zero => intro x2 x3 x4 x5 o h; rw [f_X5_firstStep_48_l13] at h; cases h
  | succ n ih =>
    intro x2 x3 x4 x5 o h
    rw [f_X5_firstStep_48_l13] at h
    refine r_iload dX5_firstStep_13 rfl ?_
    refine r_aload_n (i := 0) dX5_firstStep_15 rfl rfl ?_
    refine r_getI f_X5_46 dX5_firstStep_16 rfl rfl ?_
    refine r_icmp_ge (tgt := 52) dX5_firstStep_19 (by decide) (fun c => ?_) (fun c => ?_)
    · rw [if_pos c] at h
      refine r_iconst (v := (-1)) dX5_firstStep_52 (by decide) ?_
      refine r_iret (by first | rfl | decide) dX5_firstStep_53 ?_
      obtain rfl := Option.some.inj h
      exact ⟨rfl, rfl, rfl⟩
    · rw [if_neg c] at h
      refine r_iload dX5_firstStep_22 rfl ?_
      refine r_iload dX5_firstStep_24 rfl ?_
      refine r_ishr dX5_firstStep_26 ?_
      refine r_iconst (v := 1) dX5_firstStep_27 (by decide) ?_
      refine r_iand dX5_firstStep_28 ?_
      refine r_if_eq (tgt := 46) dX5_firstStep_29 (by decide) (fun c => ?_) (fun c => ?_)
      · rw [if_pos c] at h
        refine r_iinc (v := _) dX5_firstStep_46 rfl rfl (by decide) rfl ?_
        simp only [List.set_cons_zero, List.set_cons_succ]
        replace h := lt_some h
        refine r_goto (tgt := 13) dX5_firstStep_49 (by decide) ?_
        exact RR.wk (ih _ _ _ _ _ h) (And.intro rfl (And.intro rfl (And.intro rfl (And.intro rfl (And.intro rfl (trivial))))))
      · rw [if_neg c] at h
        refine r_aload_n (i := 0) dX5_firstStep_32 rfl rfl ?_
        refine r_iload dX5_firstStep_33 rfl ?_
        refine r_iload_n (i := 2) dX5_firstStep_35 rfl rfl ?_
        refine r_iload_n (i := 3) dX5_firstStep_36 rfl rfl ?_
        obtain ⟨r3, hr, h⟩ := bind_some h
        refine r_V (d' := 0) k_X5_141 dX5_firstStep_37 (by omega) rfl rfl rfl (Nat.le_of_ble_eq_true rfl) (Nat.le_of_ble_eq_true rfl) (ok_X5_reaches_48 (Nat.le_refl _) hr) (fun v I' L' hq => ?_)
        obtain ⟨rfl, rfl, rfl⟩ := hq
        simp only [Option.toList_some, Option.toList_none, List.drop_succ_cons, List.drop_zero, List.drop_nil, List.cons_append, List.nil_append]
        refine r_if_eq (tgt := 46) dX5_firstStep_40 (by decide) (fun c => ?_) (fun c => ?_)
        · rw [if_pos c] at h
          refine r_iinc (v := _) dX5_firstStep_46 rfl rfl (by decide) rfl ?_
          simp only [List.set_cons_zero, List.set_cons_succ]
          replace h := lt_some h
          refine r_goto (tgt := 13) dX5_firstStep_49 (by decide) ?_
          exact RR.wk (ih _ _ _ _ _ h) (And.intro rfl (And.intro rfl (And.intro rfl (And.intro rfl (And.intro rfl (trivial))))))
        · rw [if_neg c] at h
          refine r_iload dX5_firstStep_43 rfl ?_
          refine r_iret (by first | rfl | decide) dX5_firstStep_45 ?_
          obtain rfl := Option.some.inj h
          exact ⟨rfl, rfl, rfl⟩
def f_X5_firstStep_48 (I : mI) (L : mL) (a1 : Int32) (a2 : Int32) (a3 : Int32) : Option Int32 := ck (inb a1 8) (lt ((I 53 a1.toNatClampNeg) &&& a3) (fun v1 => f_X5_firstStep_48_l13 I L fuel a2 a3 v1 0))
theorem ok_X5_firstStep_48 {d : Nat} (hd : 1 ≤ d) {I : mI} {L : mL} {a1 : Int32} {a2 : Int32} {a3 : Int32} {o : Int32} (h : f_X5_firstStep_48 I L a1 a2 a3 = some o) : RR mX5_firstStep d 0 [some (.ref 48), some (.int a1), some (.int a2), some (.int a3), none, none] [] I L (retQ (some (.int o)) I L) := by
  unfold f_X5_firstStep_48 at h
  refine r_aload_n (i := 0) dX5_firstStep_0 rfl rfl ?_
  refine r_getR f_X5_24 dX5_firstStep_1 rfl rfl ?_
  refine r_iload_n (i := 1) dX5_firstStep_4 rfl rfl ?_
  obtain ⟨hb, h⟩ := ck_some h
  refine r_iald rfl (inb_vp hb) dX5_firstStep_5 ?_
  refine r_iload_n (i := 3) dX5_firstStep_6 rfl rfl ?_
  refine r_iand dX5_firstStep_7 ?_
  refine r_istore dX5_firstStep_8 (by decide) rfl ?_
  simp only [List.set_cons_zero, List.set_cons_succ]
  replace h := lt_some h
  refine r_iconst (v := 0) dX5_firstStep_10 (by decide) ?_
  refine r_istore dX5_firstStep_11 (by decide) rfl ?_
  simp only [List.set_cons_zero, List.set_cons_succ]
  exact RR.wk (ok_X5_firstStep_48_l13 hd _ _ _ _ _ _ h) (And.intro rfl (And.intro rfl (And.intro rfl (And.intro rfl (And.intro rfl (trivial))))))
def f_X5_trace_48_l60 : Nat → Int32 → Int32 → Int32 → Int32 → mI → mL → rI
  | 0, _, _, _, _, _, _ => none
  | n + 1, x2, x3, x4, x5, I, L => if (I 48 8) ≤ x5 then (if x4 = x2 then (some (1, I, L)) else (some (0, I, L))) else (if x4 = x2 then (if x4 = x2 then (some (1, I, L)) else (some (0, I, L))) else ((f_X5_firstStep_48 I L x4 x2 x3).bind (fun r8 => if 0 ≤ r8 then (lt (x3 &&& (((1 : Int32) <<< (r8 &&& 31)) ^^^ (-1))) (fun v9 => ck (inb x5 8) (lt (uI I 54 x5.toNatClampNeg r8) (fun M10 => lt (uI M10 48 7 (x5 + 1)) (fun M11 => lt (x5 + Int32.ofInt 1) (fun v12 => f_X5_trace_48_l60 n x2 v9 r8 v12 M11 L)))))) else (some (0, I, L)))))
theorem ok_X5_trace_48_l60 {d : Nat} (hd : 4 ≤ d) : ∀ (n : Nat) (x2 : Int32) (x3 : Int32) (x4 : Int32) (x5 : Int32) (I : mI) (L : mL) (o : Int32 × mI × mL), f_X5_trace_48_l60 n x2 x3 x4 x5 I L = some o → RR mX5_trace d 60 [some (.ref 48), none, some (.int x2), some (.int x3), some (.int x4), some (.int x5)] [] I L (retQ (some (.int o.1)) o.2.1 o.2.2) := by
  intro n
  induction n with
  | zero => intro x2 x3 x4 x5 I L o h; rw [f_X5_trace_48_l60] at h; cases h
  | succ n ih =>
    intro x2 x3 x4 x5 I L o h
    rw [f_X5_trace_48_l60] at h
    refine r_iload dX5_trace_60 rfl ?_
    refine r_aload_n (i := 0) dX5_trace_62 rfl rfl ?_
    refine r_getI f_X5_46 dX5_trace_63 rfl rfl ?_
    refine r_icmp_ge (tgt := 124) dX5_trace_66 (by decide) (fun c => ?_) (fun c => ?_)
    · rw [if_pos c] at h
      refine r_iload dX5_trace_124 rfl ?_
      refine r_iload_n (i := 2) dX5_trace_126 rfl rfl ?_
      refine r_icmp_ne (tgt := 134) dX5_trace_127 (by decide) (fun c => ?_) (fun c => ?_)
      · rw [if_neg c] at h
        refine r_iconst (v := 0) dX5_trace_134 (by decide) ?_
        refine r_iret (by first | rfl | decide) dX5_trace_135 ?_
        obtain rfl := Option.some.inj h
        exact ⟨rfl, rfl, rfl⟩
      · rw [if_pos c] at h
        refine r_iconst (v := 1) dX5_trace_130 (by decide) ?_
        refine r_goto (tgt := 135) dX5_trace_131 (by decide) ?_
        refine r_iret (by first | rfl | decide) dX5_trace_135 ?_
        obtain rfl := Option.some.inj h
        exact ⟨rfl, rfl, rfl⟩
    · rw [if_neg c] at h
      refine r_iload dX5_trace_69 rfl ?_
      refine r_iload_n (i := 2) dX5_trace_71 rfl rfl ?_
      refine r_icmp_eq (tgt := 124) dX5_trace_72 (by decide) (fun c => ?_) (fun c => ?_)
      · rw [if_pos c] at h
        refine r_iload dX5_trace_124 rfl ?_
        refine r_iload_n (i := 2) dX5_trace_126 rfl rfl ?_
        refine r_icmp_ne (tgt := 134) dX5_trace_127 (by decide) (fun c => ?_) (fun c => ?_)
        · rw [if_neg c] at h
          refine r_iconst (v := 0) dX5_trace_134 (by decide) ?_
          refine r_iret (by first | rfl | decide) dX5_trace_135 ?_
          obtain rfl := Option.some.inj h
          exact ⟨rfl, rfl, rfl⟩
        · rw [if_pos c] at h
          refine r_iconst (v := 1) dX5_trace_130 (by decide) ?_
          refine r_goto (tgt := 135) dX5_trace_131 (by decide) ?_
          refine r_iret (by first | rfl | decide) dX5_trace_135 ?_
          obtain rfl := Option.some.inj h
          exact ⟨rfl, rfl, rfl⟩
      · rw [if_neg c] at h
        refine r_aload_n (i := 0) dX5_trace_75 rfl rfl ?_
        refine r_iload dX5_trace_76 rfl ?_
        refine r_iload_n (i := 2) dX5_trace_78 rfl rfl ?_
        refine r_iload_n (i := 3) dX5_trace_79 rfl rfl ?_
        obtain ⟨r8, hr, h⟩ := bind_some h
        refine r_V (d' := 1) k_X5_137 dX5_trace_80 (by omega) rfl rfl rfl (Nat.le_of_ble_eq_true rfl) (Nat.le_of_ble_eq_true rfl) (ok_X5_firstStep_48 (Nat.le_refl _) hr) (fun v I' L' hq => ?_)
        obtain ⟨rfl, rfl, rfl⟩ := hq
        simp only [Option.toList_some, Option.toList_none, List.drop_succ_cons, List.drop_zero, List.drop_nil, List.cons_append, List.nil_append]
        refine r_istore dX5_trace_83 (by decide) rfl ?_
        simp only [List.set_cons_zero, List.set_cons_succ]
        refine r_iload dX5_trace_85 rfl ?_
        refine r_if_ge (tgt := 92) dX5_trace_87 (by decide) (fun c => ?_) (fun c => ?_)
        · rw [if_pos c] at h
          refine r_iload_n (i := 3) dX5_trace_92 rfl rfl ?_
          refine r_iconst (v := 1) dX5_trace_93 (by decide) ?_
          refine r_iload dX5_trace_94 rfl ?_
          refine r_ishl dX5_trace_96 ?_
          refine r_iconst (v := (-1)) dX5_trace_97 (by decide) ?_
          refine r_ixor dX5_trace_98 ?_
          refine r_iand dX5_trace_99 ?_
          refine r_istore_n (i := 3) dX5_trace_100 rfl (by decide) rfl ?_
          simp only [List.set_cons_zero, List.set_cons_succ]
          replace h := lt_some h
          refine r_aload_n (i := 0) dX5_trace_101 rfl rfl ?_
          refine r_getR f_X5_27 dX5_trace_102 rfl rfl ?_
          refine r_iload dX5_trace_105 rfl ?_
          refine r_iload dX5_trace_107 rfl ?_
          obtain ⟨hb, h⟩ := ck_some h
          refine r_iast rfl (inb_vp hb) dX5_trace_109 ?_
          replace h := lt_some h
          refine r_aload_n (i := 0) dX5_trace_110 rfl rfl ?_
          refine r_iload dX5_trace_111 rfl ?_
          refine r_iconst (v := 1) dX5_trace_113 (by decide) ?_
          refine r_iadd dX5_trace_114 ?_
          refine r_putI f_X5_134 rfl rfl dX5_trace_115 rfl rfl ?_
          replace h := lt_some h
          refine r_iinc (v := _) dX5_trace_118 rfl rfl (by decide) rfl ?_
          simp only [List.set_cons_zero, List.set_cons_succ]
          replace h := lt_some h
          refine r_goto (tgt := 60) dX5_trace_121 (by decide) ?_
          exact RR.wk (ih _ _ _ _ _ _ _ h) (And.intro rfl (And.intro rfl (And.intro rfl (And.intro rfl (And.intro rfl (trivial))))))
        · rw [if_neg c] at h
          refine r_iconst (v := 0) dX5_trace_90 (by decide) ?_
          refine r_iret (by first | rfl | decide) dX5_trace_91 ?_
          obtain rfl := Option.some.inj h
          exact ⟨rfl, rfl, rfl⟩
def f_X5_trace_48 (I : mI) (L : mL) (a1 : Int32) (a2 : Int32) : rI := bndV (f_X5_spreadAll_48 I L) (fun Ir1 Lr1 => ck (inb ((a1 * 8) + a2) 64) (if (Ir1 50 ((a1 * 8) + a2).toNatClampNeg) < 536870912 then (bndV (f_X5_findNext_48 Ir1 Lr1 a2) (fun Ir3 Lr3 => lt (uI Ir3 54 (0 : Int32).toNatClampNeg a1) (fun M5 => lt (uI M5 48 7 1) (fun M6 => lt ((((1 : Int32) <<< ((M6 48 8) &&& 31)) - 1) &&& (((1 : Int32) <<< (a1 &&& 31)) ^^^ (-1))) (fun v7 => f_X5_trace_48_l60 fuel a2 v7 a1 1 M6 Lr3))))) else (some (0, Ir1, Lr1))))
theorem ok_X5_trace_48 {d : Nat} (hd : 4 ≤ d) {I : mI} {L : mL} {a1 : Int32} {a2 : Int32} {o : Int32 × mI × mL} (h : f_X5_trace_48 I L a1 a2 = some o) : RR mX5_trace d 0 [some (.ref 48), some (.int a1), some (.int a2), none, none, none] [] I L (retQ (some (.int o.1)) o.2.1 o.2.2) := by
  unfold f_X5_trace_48 at h
  refine r_aload_n (i := 0) dX5_trace_0 rfl rfl ?_
  obtain ⟨⟨Ir1, Lr1⟩, hr, h⟩ := bind_some h
  refine r_V (d' := 3) k_X5_128 dX5_trace_1 (by omega) rfl rfl rfl (Nat.le_of_ble_eq_true rfl) (Nat.le_of_ble_eq_true rfl) (ok_X5_spreadAll_48 (Nat.le_refl _) hr) (fun v I' L' hq => ?_)
  obtain ⟨rfl, rfl, rfl⟩ := hq
  simp only [Option.toList_some, Option.toList_none, List.drop_succ_cons, List.drop_zero, List.drop_nil, List.cons_append, List.nil_append]
  dsimp only at h
  refine r_aload_n (i := 0) dX5_trace_4 rfl rfl ?_
  refine r_getR f_X5_15 dX5_trace_5 rfl rfl ?_
  refine r_iload_n (i := 1) dX5_trace_8 rfl rfl ?_
  refine r_bipush (v := 8) dX5_trace_9 (by decide) ?_
  refine r_imul dX5_trace_11 ?_
  refine r_iload_n (i := 2) dX5_trace_12 rfl rfl ?_
  refine r_iadd dX5_trace_13 ?_
  obtain ⟨hb, h⟩ := ck_some h
  refine r_iald rfl (inb_vp hb) dX5_trace_14 ?_
  refine r_ldc n_X5_112 dX5_trace_15 ?_
  refine r_icmp_lt (tgt := 22) dX5_trace_17 (by decide) (fun c => ?_) (fun c => ?_)
  · rw [if_pos c] at h
    refine r_aload_n (i := 0) dX5_trace_22 rfl rfl ?_
    refine r_iload_n (i := 2) dX5_trace_23 rfl rfl ?_
    obtain ⟨⟨Ir3, Lr3⟩, hr, h⟩ := bind_some h
    refine r_V (d' := 1) k_X5_131 dX5_trace_24 (by omega) rfl rfl rfl (Nat.le_of_ble_eq_true rfl) (Nat.le_of_ble_eq_true rfl) (ok_X5_findNext_48 (Nat.le_refl _) hr) (fun v I' L' hq => ?_)
    obtain ⟨rfl, rfl, rfl⟩ := hq
    simp only [Option.toList_some, Option.toList_none, List.drop_succ_cons, List.drop_zero, List.drop_nil, List.cons_append, List.nil_append]
    dsimp only at h
    refine r_aload_n (i := 0) dX5_trace_27 rfl rfl ?_
    refine r_getR f_X5_27 dX5_trace_28 rfl rfl ?_
    refine r_iconst (v := 0) dX5_trace_31 (by decide) ?_
    refine r_iload_n (i := 1) dX5_trace_32 rfl rfl ?_
    refine r_iast rfl (vp_lit (by decide)) dX5_trace_33 ?_
    replace h := lt_some h
    refine r_aload_n (i := 0) dX5_trace_34 rfl rfl ?_
    refine r_iconst (v := 1) dX5_trace_35 (by decide) ?_
    refine r_putI f_X5_134 rfl rfl dX5_trace_36 rfl rfl ?_
    replace h := lt_some h
    refine r_iconst (v := 1) dX5_trace_39 (by decide) ?_
    refine r_aload_n (i := 0) dX5_trace_40 rfl rfl ?_
    refine r_getI f_X5_46 dX5_trace_41 rfl rfl ?_
    refine r_ishl dX5_trace_44 ?_
    refine r_iconst (v := 1) dX5_trace_45 (by decide) ?_
    refine r_isub dX5_trace_46 ?_
    refine r_iconst (v := 1) dX5_trace_47 (by decide) ?_
    refine r_iload_n (i := 1) dX5_trace_48 rfl rfl ?_
    refine r_ishl dX5_trace_49 ?_
    refine r_iconst (v := (-1)) dX5_trace_50 (by decide) ?_
    refine r_ixor dX5_trace_51 ?_
    refine r_iand dX5_trace_52 ?_
    refine r_istore_n (i := 3) dX5_trace_53 rfl (by decide) rfl ?_
    simp only [List.set_cons_zero, List.set_cons_succ]
    replace h := lt_some h
    refine r_iload_n (i := 1) dX5_trace_54 rfl rfl ?_
    refine r_istore dX5_trace_55 (by decide) rfl ?_
    simp only [List.set_cons_zero, List.set_cons_succ]
    refine r_iconst (v := 1) dX5_trace_57 (by decide) ?_
    refine r_istore dX5_trace_58 (by decide) rfl ?_
    simp only [List.set_cons_zero, List.set_cons_succ]
    exact RR.wk (ok_X5_trace_48_l60 hd _ _ _ _ _ _ _ _ h) (And.intro rfl (And.intro rfl (And.intro rfl (And.intro rfl (And.intro rfl (trivial))))))
  · rw [if_neg c] at h
    refine r_iconst (v := 0) dX5_trace_20 (by decide) ?_
    refine r_iret (by first | rfl | decide) dX5_trace_21 ?_
    obtain rfl := Option.some.inj h
    exact ⟨rfl, rfl, rfl⟩
def f_X10_way_0 (I : mI) (L : mL) (a1 : Int32) (a2 : Int32) (a3 : Int32) (a4 : Int32) (a5 : Int32) : rI := (f_X7_hasCart_1 I L a1).bind (fun r1 => if r1 = 0 then (some ((-1), I, L)) else ((f_X10_within I L a2 1 99).bind (fun r2 => if r2 = 0 then (some ((-1), I, L)) else ((f_X3_hasParish_2 I L a3).bind (fun r3 => if r3 = 0 then (some ((-1), I, L)) else ((f_X3_hasParish_2 I L a4).bind (fun r4 => if r4 = 0 then (some ((-1), I, L)) else ((f_X10_within I L a5 (-1) 7).bind (fun r5 => if r5 = 0 then (some ((-1), I, L)) else (bndV (f_X5_harness_48 I L a1) (fun Ir6 Lr6 => bndV (f_X5_weigh_48 Ir6 Lr6 a2) (fun Ir8 Lr8 => bndI (f_X5_trace_48 Ir8 Lr8 a3 a4) (fun r10 Ir10 Lr10 => if r10 = 0 then (some ((-4), Ir10, Lr10)) else (if 0 ≤ a5 then (if (Ir10 48 7) ≤ a5 then (some ((-4), Ir10, Lr10)) else (ck (inb a5 8) (some (Ir10 54 a5.toNatClampNeg, Ir10, Lr10)))) else (ck (inb ((a3 * 8) + a4) 64) (some (Ir10 50 ((a3 * 8) + a4).toNatClampNeg, Ir10, Lr10)))))))))))))))))
theorem ok_X10_way_0 {d : Nat} (hd : 5 ≤ d) {I : mI} {L : mL} {a1 : Int32} {a2 : Int32} {a3 : Int32} {a4 : Int32} {a5 : Int32} {o : Int32 × mI × mL} (h : f_X10_way_0 I L a1 a2 a3 a4 a5 = some o) : RR mX10_way d 0 [some (.ref 0), some (.int a1), some (.int a2), some (.int a3), some (.int a4), some (.int a5)] [] I L (retQ (some (.int o.1)) o.2.1 o.2.2) := by
  unfold f_X10_way_0 at h
  refine r_aload_n (i := 0) dX10_way_0 rfl rfl ?_
  refine r_getR f_X10_10 dX10_way_1 rfl rfl ?_
  refine r_iload_n (i := 1) dX10_way_4 rfl rfl ?_
  obtain ⟨r1, hr, h⟩ := bind_some h
  refine r_V (d' := 0) k_X10_210 dX10_way_5 (by omega) rfl rfl rfl (Nat.le_of_ble_eq_true rfl) (Nat.le_of_ble_eq_true rfl) (ok_X7_hasCart_1 (Nat.le_refl _) hr) (fun v I' L' hq => ?_)
  obtain ⟨rfl, rfl, rfl⟩ := hq
  simp only [Option.toList_some, Option.toList_none, List.drop_succ_cons, List.drop_zero, List.drop_nil, List.cons_append, List.nil_append]
  refine r_if_eq (tgt := 61) dX10_way_8 (by decide) (fun c => ?_) (fun c => ?_)
  · rw [if_pos c] at h
    refine r_iconst (v := (-1)) dX10_way_61 (by decide) ?_
    refine r_iret (by first | rfl | decide) dX10_way_62 ?_
    obtain rfl := Option.some.inj h
    exact ⟨rfl, rfl, rfl⟩
  · rw [if_neg c] at h
    refine r_iload_n (i := 2) dX10_way_11 rfl rfl ?_
    refine r_iconst (v := 1) dX10_way_12 (by decide) ?_
    refine r_bipush (v := 99) dX10_way_13 (by decide) ?_
    obtain ⟨r2, hr, h⟩ := bind_some h
    refine r_S (d' := 0) k_X10_72 dX10_way_15 (by omega) rfl (Nat.le_of_ble_eq_true rfl) (Nat.le_of_ble_eq_true rfl) (ok_X10_within (Nat.le_refl _) hr) (fun v I' L' hq => ?_)
    obtain ⟨rfl, rfl, rfl⟩ := hq
    simp only [Option.toList_some, Option.toList_none, List.drop_succ_cons, List.drop_zero, List.drop_nil, List.cons_append, List.nil_append]
    refine r_if_eq (tgt := 61) dX10_way_18 (by decide) (fun c => ?_) (fun c => ?_)
    · rw [if_pos c] at h
      refine r_iconst (v := (-1)) dX10_way_61 (by decide) ?_
      refine r_iret (by first | rfl | decide) dX10_way_62 ?_
      obtain rfl := Option.some.inj h
      exact ⟨rfl, rfl, rfl⟩
    · rw [if_neg c] at h
      refine r_aload_n (i := 0) dX10_way_21 rfl rfl ?_
      refine r_getR f_X10_10 dX10_way_22 rfl rfl ?_
      refine r_getR f_X10_76 dX10_way_25 rfl rfl ?_
      refine r_iload_n (i := 3) dX10_way_28 rfl rfl ?_
      obtain ⟨r3, hr, h⟩ := bind_some h
      refine r_V (d' := 0) k_X10_90 dX10_way_29 (by omega) rfl rfl rfl (Nat.le_of_ble_eq_true rfl) (Nat.le_of_ble_eq_true rfl) (ok_X3_hasParish_2 (Nat.le_refl _) hr) (fun v I' L' hq => ?_)
      obtain ⟨rfl, rfl, rfl⟩ := hq
      simp only [Option.toList_some, Option.toList_none, List.drop_succ_cons, List.drop_zero, List.drop_nil, List.cons_append, List.nil_append]
      refine r_if_eq (tgt := 61) dX10_way_32 (by decide) (fun c => ?_) (fun c => ?_)
      · rw [if_pos c] at h
        refine r_iconst (v := (-1)) dX10_way_61 (by decide) ?_
        refine r_iret (by first | rfl | decide) dX10_way_62 ?_
        obtain rfl := Option.some.inj h
        exact ⟨rfl, rfl, rfl⟩
      · rw [if_neg c] at h
        refine r_aload_n (i := 0) dX10_way_35 rfl rfl ?_
        refine r_getR f_X10_10 dX10_way_36 rfl rfl ?_
        refine r_getR f_X10_76 dX10_way_39 rfl rfl ?_
        refine r_iload dX10_way_42 rfl ?_
        obtain ⟨r4, hr, h⟩ := bind_some h
        refine r_V (d' := 0) k_X10_90 dX10_way_44 (by omega) rfl rfl rfl (Nat.le_of_ble_eq_true rfl) (Nat.le_of_ble_eq_true rfl) (ok_X3_hasParish_2 (Nat.le_refl _) hr) (fun v I' L' hq => ?_)
        obtain ⟨rfl, rfl, rfl⟩ := hq
        simp only [Option.toList_some, Option.toList_none, List.drop_succ_cons, List.drop_zero, List.drop_nil, List.cons_append, List.nil_append]
        refine r_if_eq (tgt := 61) dX10_way_47 (by decide) (fun c => ?_) (fun c => ?_)
        · rw [if_pos c] at h
          refine r_iconst (v := (-1)) dX10_way_61 (by decide) ?_
          refine r_iret (by first | rfl | decide) dX10_way_62 ?_
          obtain rfl := Option.some.inj h
          exact ⟨rfl, rfl, rfl⟩
        · rw [if_neg c] at h
          refine r_iload dX10_way_50 rfl ?_
          refine r_iconst (v := (-1)) dX10_way_52 (by decide) ?_
          refine r_bipush (v := 7) dX10_way_53 (by decide) ?_
          obtain ⟨r5, hr, h⟩ := bind_some h
          refine r_S (d' := 0) k_X10_72 dX10_way_55 (by omega) rfl (Nat.le_of_ble_eq_true rfl) (Nat.le_of_ble_eq_true rfl) (ok_X10_within (Nat.le_refl _) hr) (fun v I' L' hq => ?_)
          obtain ⟨rfl, rfl, rfl⟩ := hq
          simp only [Option.toList_some, Option.toList_none, List.drop_succ_cons, List.drop_zero, List.drop_nil, List.cons_append, List.nil_append]
          refine r_if_ne (tgt := 63) dX10_way_58 (by decide) (fun c => ?_) (fun c => ?_)
          · rw [if_neg c] at h
            refine r_aload_n (i := 0) dX10_way_63 rfl rfl ?_
            refine r_getR f_X10_38 dX10_way_64 rfl rfl ?_
            refine r_iload_n (i := 1) dX10_way_67 rfl rfl ?_
            obtain ⟨⟨Ir6, Lr6⟩, hr, h⟩ := bind_some h
            refine r_V (d' := 1) k_X10_213 dX10_way_68 (by omega) rfl rfl rfl (Nat.le_of_ble_eq_true rfl) (Nat.le_of_ble_eq_true rfl) (ok_X5_harness_48 (Nat.le_refl _) hr) (fun v I' L' hq => ?_)
            obtain ⟨rfl, rfl, rfl⟩ := hq
            simp only [Option.toList_some, Option.toList_none, List.drop_succ_cons, List.drop_zero, List.drop_nil, List.cons_append, List.nil_append]
            dsimp only at h
            refine r_aload_n (i := 0) dX10_way_71 rfl rfl ?_
            refine r_getR f_X10_38 dX10_way_72 rfl rfl ?_
            refine r_iload_n (i := 2) dX10_way_75 rfl rfl ?_
            obtain ⟨⟨Ir8, Lr8⟩, hr, h⟩ := bind_some h
            refine r_V (d' := 3) k_X10_217 dX10_way_76 (by omega) rfl rfl rfl (Nat.le_of_ble_eq_true rfl) (Nat.le_of_ble_eq_true rfl) (ok_X5_weigh_48 (Nat.le_refl _) hr) (fun v I' L' hq => ?_)
            obtain ⟨rfl, rfl, rfl⟩ := hq
            simp only [Option.toList_some, Option.toList_none, List.drop_succ_cons, List.drop_zero, List.drop_nil, List.cons_append, List.nil_append]
            dsimp only at h
            refine r_aload_n (i := 0) dX10_way_79 rfl rfl ?_
            refine r_getR f_X10_38 dX10_way_80 rfl rfl ?_
            refine r_iload_n (i := 3) dX10_way_83 rfl rfl ?_
            refine r_iload dX10_way_84 rfl ?_
            obtain ⟨⟨r10, Ir10, Lr10⟩, hr, h⟩ := bind_some h
            refine r_V (d' := 4) k_X10_220 dX10_way_86 (by omega) rfl rfl rfl (Nat.le_of_ble_eq_true rfl) (Nat.le_of_ble_eq_true rfl) (ok_X5_trace_48 (Nat.le_refl _) hr) (fun v I' L' hq => ?_)
            obtain ⟨rfl, rfl, rfl⟩ := hq
            simp only [Option.toList_some, Option.toList_none, List.drop_succ_cons, List.drop_zero, List.drop_nil, List.cons_append, List.nil_append]
            dsimp only at h
            refine r_if_ne (tgt := 95) dX10_way_89 (by decide) (fun c => ?_) (fun c => ?_)
            · rw [if_neg c] at h
              refine r_iload dX10_way_95 rfl ?_
              refine r_if_ge (tgt := 116) dX10_way_97 (by decide) (fun c => ?_) (fun c => ?_)
              · rw [if_pos c] at h
                refine r_iload dX10_way_116 rfl ?_
                refine r_aload_n (i := 0) dX10_way_118 rfl rfl ?_
                refine r_getR f_X10_38 dX10_way_119 rfl rfl ?_
                refine r_getI f_X10_226 dX10_way_122 rfl rfl ?_
                refine r_icmp_ge (tgt := 141) dX10_way_125 (by decide) (fun c => ?_) (fun c => ?_)
                · rw [if_pos c] at h
                  refine r_bipush (v := (-4)) dX10_way_141 (by decide) ?_
                  refine r_iret (by first | rfl | decide) dX10_way_143 ?_
                  obtain rfl := Option.some.inj h
                  exact ⟨rfl, rfl, rfl⟩
                · rw [if_neg c] at h
                  refine r_aload_n (i := 0) dX10_way_128 rfl rfl ?_
                  refine r_getR f_X10_38 dX10_way_129 rfl rfl ?_
                  refine r_getR f_X10_229 dX10_way_132 rfl rfl ?_
                  refine r_iload dX10_way_135 rfl ?_
                  obtain ⟨hb, h⟩ := ck_some h
                  refine r_iald rfl (inb_vp hb) dX10_way_137 ?_
                  refine r_goto (tgt := 143) dX10_way_138 (by decide) ?_
                  refine r_iret (by first | rfl | decide) dX10_way_143 ?_
                  obtain rfl := Option.some.inj h
                  exact ⟨rfl, rfl, rfl⟩
              · rw [if_neg c] at h
                refine r_aload_n (i := 0) dX10_way_100 rfl rfl ?_
                refine r_getR f_X10_38 dX10_way_101 rfl rfl ?_
                refine r_getR f_X10_223 dX10_way_104 rfl rfl ?_
                refine r_iload_n (i := 3) dX10_way_107 rfl rfl ?_
                refine r_bipush (v := 8) dX10_way_108 (by decide) ?_
                refine r_imul dX10_way_110 ?_
                refine r_iload dX10_way_111 rfl ?_
                refine r_iadd dX10_way_113 ?_
                obtain ⟨hb, h⟩ := ck_some h
                refine r_iald rfl (inb_vp hb) dX10_way_114 ?_
                refine r_iret (by first | rfl | decide) dX10_way_115 ?_
                obtain rfl := Option.some.inj h
                exact ⟨rfl, rfl, rfl⟩
            · rw [if_pos c] at h
              refine r_bipush (v := (-4)) dX10_way_92 (by decide) ?_
              refine r_iret (by first | rfl | decide) dX10_way_94 ?_
              obtain rfl := Option.some.inj h
              exact ⟨rfl, rfl, rfl⟩
          · rw [if_pos c] at h
            refine r_iconst (v := (-1)) dX10_way_61 (by decide) ?_
            refine r_iret (by first | rfl | decide) dX10_way_62 ?_
            obtain rfl := Option.some.inj h
            exact ⟨rfl, rfl, rfl⟩
def f_X10_net_0 (I : mI) (L : mL) (a1 : Int32) (a2 : Int32) (a3 : Int32) : rI := (f_X7_hasGood_1 I L a1).bind (fun r1 => if r1 = 0 then (some ((-1000001), I, L)) else ((f_X3_hasParish_2 I L a2).bind (fun r2 => if r2 = 0 then (some ((-1000001), I, L)) else ((f_X7_hasCart_1 I L a3).bind (fun r3 => if r3 = 0 then (some ((-1000001), I, L)) else (bndV (f_X5_harness_48 I L a3) (fun Ir4 Lr4 => ck (inb a1 6) (bndV (f_X5_weigh_48 Ir4 Lr4 (Ir4 10 a1.toNatClampNeg)) (fun Ir6 Lr6 => ck (inb a1 6) (bndV (f_X5_spread_48 Ir6 Lr6 (Ir6 12 a1.toNatClampNeg)) (fun Ir8 Lr8 => ck (inb a2 8) (if (Ir8 52 a2.toNatClampNeg) < 536870912 then (ck (inb a1 6) (ck (inb a2 8) (ck (inb a2 8) (some (((Ir8 11 a1.toNatClampNeg) * (Ir8 51 a2.toNatClampNeg)) - (Ir8 52 a2.toNatClampNeg), Ir8, Lr8))))) else (some ((-1000004), Ir8, Lr8))))))))))))))
theorem ok_X10_net_0 {d : Nat} (hd : 4 ≤ d) {I : mI} {L : mL} {a1 : Int32} {a2 : Int32} {a3 : Int32} {o : Int32 × mI × mL} (h : f_X10_net_0 I L a1 a2 a3 = some o) : RR mX10_net d 0 [some (.ref 0), some (.int a1), some (.int a2), some (.int a3)] [] I L (retQ (some (.int o.1)) o.2.1 o.2.2) := by
  unfold f_X10_net_0 at h
  refine r_aload_n (i := 0) dX10_net_0 rfl rfl ?_
  refine r_getR f_X10_10 dX10_net_1 rfl rfl ?_
  refine r_iload_n (i := 1) dX10_net_4 rfl rfl ?_
  obtain ⟨r1, hr, h⟩ := bind_some h
  refine r_V (d' := 0) k_X10_128 dX10_net_5 (by omega) rfl rfl rfl (Nat.le_of_ble_eq_true rfl) (Nat.le_of_ble_eq_true rfl) (ok_X7_hasGood_1 (Nat.le_refl _) hr) (fun v I' L' hq => ?_)
  obtain ⟨rfl, rfl, rfl⟩ := hq
  simp only [Option.toList_some, Option.toList_none, List.drop_succ_cons, List.drop_zero, List.drop_nil, List.cons_append, List.nil_append]
  refine r_if_eq (tgt := 36) dX10_net_8 (by decide) (fun c => ?_) (fun c => ?_)
  · rw [if_pos c] at h
    refine r_ldc n_X10_232 dX10_net_36 ?_
    refine r_iret (by first | rfl | decide) dX10_net_38 ?_
    obtain rfl := Option.some.inj h
    exact ⟨rfl, rfl, rfl⟩
  · rw [if_neg c] at h
    refine r_aload_n (i := 0) dX10_net_11 rfl rfl ?_
    refine r_getR f_X10_10 dX10_net_12 rfl rfl ?_
    refine r_getR f_X10_76 dX10_net_15 rfl rfl ?_
    refine r_iload_n (i := 2) dX10_net_18 rfl rfl ?_
    obtain ⟨r2, hr, h⟩ := bind_some h
    refine r_V (d' := 0) k_X10_90 dX10_net_19 (by omega) rfl rfl rfl (Nat.le_of_ble_eq_true rfl) (Nat.le_of_ble_eq_true rfl) (ok_X3_hasParish_2 (Nat.le_refl _) hr) (fun v I' L' hq => ?_)
    obtain ⟨rfl, rfl, rfl⟩ := hq
    simp only [Option.toList_some, Option.toList_none, List.drop_succ_cons, List.drop_zero, List.drop_nil, List.cons_append, List.nil_append]
    refine r_if_eq (tgt := 36) dX10_net_22 (by decide) (fun c => ?_) (fun c => ?_)
    · rw [if_pos c] at h
      refine r_ldc n_X10_232 dX10_net_36 ?_
      refine r_iret (by first | rfl | decide) dX10_net_38 ?_
      obtain rfl := Option.some.inj h
      exact ⟨rfl, rfl, rfl⟩
    · rw [if_neg c] at h
      refine r_aload_n (i := 0) dX10_net_25 rfl rfl ?_
      refine r_getR f_X10_10 dX10_net_26 rfl rfl ?_
      refine r_iload_n (i := 3) dX10_net_29 rfl rfl ?_
      obtain ⟨r3, hr, h⟩ := bind_some h
      refine r_V (d' := 0) k_X10_210 dX10_net_30 (by omega) rfl rfl rfl (Nat.le_of_ble_eq_true rfl) (Nat.le_of_ble_eq_true rfl) (ok_X7_hasCart_1 (Nat.le_refl _) hr) (fun v I' L' hq => ?_)
      obtain ⟨rfl, rfl, rfl⟩ := hq
      simp only [Option.toList_some, Option.toList_none, List.drop_succ_cons, List.drop_zero, List.drop_nil, List.cons_append, List.nil_append]
      refine r_if_ne (tgt := 39) dX10_net_33 (by decide) (fun c => ?_) (fun c => ?_)
      · rw [if_neg c] at h
        refine r_aload_n (i := 0) dX10_net_39 rfl rfl ?_
        refine r_getR f_X10_38 dX10_net_40 rfl rfl ?_
        refine r_iload_n (i := 3) dX10_net_43 rfl rfl ?_
        obtain ⟨⟨Ir4, Lr4⟩, hr, h⟩ := bind_some h
        refine r_V (d' := 1) k_X10_213 dX10_net_44 (by omega) rfl rfl rfl (Nat.le_of_ble_eq_true rfl) (Nat.le_of_ble_eq_true rfl) (ok_X5_harness_48 (Nat.le_refl _) hr) (fun v I' L' hq => ?_)
        obtain ⟨rfl, rfl, rfl⟩ := hq
        simp only [Option.toList_some, Option.toList_none, List.drop_succ_cons, List.drop_zero, List.drop_nil, List.cons_append, List.nil_append]
        dsimp only at h
        refine r_aload_n (i := 0) dX10_net_47 rfl rfl ?_
        refine r_getR f_X10_38 dX10_net_48 rfl rfl ?_
        refine r_aload_n (i := 0) dX10_net_51 rfl rfl ?_
        refine r_getR f_X10_10 dX10_net_52 rfl rfl ?_
        refine r_getR f_X10_233 dX10_net_55 rfl rfl ?_
        refine r_iload_n (i := 1) dX10_net_58 rfl rfl ?_
        obtain ⟨hb, h⟩ := ck_some h
        refine r_iald rfl (inb_vp hb) dX10_net_59 ?_
        obtain ⟨⟨Ir6, Lr6⟩, hr, h⟩ := bind_some h
        refine r_V (d' := 3) k_X10_217 dX10_net_60 (by omega) rfl rfl rfl (Nat.le_of_ble_eq_true rfl) (Nat.le_of_ble_eq_true rfl) (ok_X5_weigh_48 (Nat.le_refl _) hr) (fun v I' L' hq => ?_)
        obtain ⟨rfl, rfl, rfl⟩ := hq
        simp only [Option.toList_some, Option.toList_none, List.drop_succ_cons, List.drop_zero, List.drop_nil, List.cons_append, List.nil_append]
        dsimp only at h
        refine r_aload_n (i := 0) dX10_net_63 rfl rfl ?_
        refine r_getR f_X10_38 dX10_net_64 rfl rfl ?_
        refine r_aload_n (i := 0) dX10_net_67 rfl rfl ?_
        refine r_getR f_X10_10 dX10_net_68 rfl rfl ?_
        refine r_getR f_X10_149 dX10_net_71 rfl rfl ?_
        refine r_iload_n (i := 1) dX10_net_74 rfl rfl ?_
        obtain ⟨hb, h⟩ := ck_some h
        refine r_iald rfl (inb_vp hb) dX10_net_75 ?_
        obtain ⟨⟨Ir8, Lr8⟩, hr, h⟩ := bind_some h
        refine r_V (d' := 2) k_X10_236 dX10_net_76 (by omega) rfl rfl rfl (Nat.le_of_ble_eq_true rfl) (Nat.le_of_ble_eq_true rfl) (ok_X5_spread_48 (Nat.le_refl _) hr) (fun v I' L' hq => ?_)
        obtain ⟨rfl, rfl, rfl⟩ := hq
        simp only [Option.toList_some, Option.toList_none, List.drop_succ_cons, List.drop_zero, List.drop_nil, List.cons_append, List.nil_append]
        dsimp only at h
        refine r_aload_n (i := 0) dX10_net_79 rfl rfl ?_
        refine r_getR f_X10_38 dX10_net_80 rfl rfl ?_
        refine r_getR f_X10_239 dX10_net_83 rfl rfl ?_
        refine r_iload_n (i := 2) dX10_net_86 rfl rfl ?_
        obtain ⟨hb, h⟩ := ck_some h
        refine r_iald rfl (inb_vp hb) dX10_net_87 ?_
        refine r_ldc n_X10_242 dX10_net_88 ?_
        refine r_icmp_lt (tgt := 96) dX10_net_90 (by decide) (fun c => ?_) (fun c => ?_)
        · rw [if_pos c] at h
          refine r_aload_n (i := 0) dX10_net_96 rfl rfl ?_
          refine r_getR f_X10_10 dX10_net_97 rfl rfl ?_
          refine r_getR f_X10_244 dX10_net_100 rfl rfl ?_
          refine r_iload_n (i := 1) dX10_net_103 rfl rfl ?_
          obtain ⟨hb, h⟩ := ck_some h
          refine r_iald rfl (inb_vp hb) dX10_net_104 ?_
          refine r_aload_n (i := 0) dX10_net_105 rfl rfl ?_
          refine r_getR f_X10_38 dX10_net_106 rfl rfl ?_
          refine r_getR f_X10_247 dX10_net_109 rfl rfl ?_
          refine r_iload_n (i := 2) dX10_net_112 rfl rfl ?_
          obtain ⟨hb, h⟩ := ck_some h
          refine r_iald rfl (inb_vp hb) dX10_net_113 ?_
          refine r_imul dX10_net_114 ?_
          refine r_aload_n (i := 0) dX10_net_115 rfl rfl ?_
          refine r_getR f_X10_38 dX10_net_116 rfl rfl ?_
          refine r_getR f_X10_239 dX10_net_119 rfl rfl ?_
          refine r_iload_n (i := 2) dX10_net_122 rfl rfl ?_
          obtain ⟨hb, h⟩ := ck_some h
          refine r_iald rfl (inb_vp hb) dX10_net_123 ?_
          refine r_isub dX10_net_124 ?_
          refine r_iret (by first | rfl | decide) dX10_net_125 ?_
          obtain rfl := Option.some.inj h
          exact ⟨rfl, rfl, rfl⟩
        · rw [if_neg c] at h
          refine r_ldc n_X10_243 dX10_net_93 ?_
          refine r_iret (by first | rfl | decide) dX10_net_95 ?_
          obtain rfl := Option.some.inj h
          exact ⟨rfl, rfl, rfl⟩
      · rw [if_pos c] at h
        refine r_ldc n_X10_232 dX10_net_36 ?_
        refine r_iret (by first | rfl | decide) dX10_net_38 ?_
        obtain rfl := Option.some.inj h
        exact ⟨rfl, rfl, rfl⟩
def f_X5_heaviestOpen_48_l4 (I : mI) (L : mL) : Nat → Int32 → Int32 → Option Int32
  | 0, _, _ => none
  | n + 1, x1, x2 => if (I 48 8) ≤ x2 then (some x1) else (ck (inb x2 8) (if (I 48 9) < (I 51 x2.toNatClampNeg) then (lt (x2 + Int32.ofInt 1) (fun v1 => f_X5_heaviestOpen_48_l4 I L n x1 v1)) else (ck (inb x2 8) (if (I 51 x2.toNatClampNeg) ≤ x1 then (lt (x2 + Int32.ofInt 1) (fun v2 => f_X5_heaviestOpen_48_l4 I L n x1 v2)) else (ck (inb x2 8) (lt (I 51 x2.toNatClampNeg) (fun v3 => lt (x2 + Int32.ofInt 1) (fun v4 => f_X5_heaviestOpen_48_l4 I L n v3 v4))))))))
theorem ok_X5_heaviestOpen_48_l4 {d : Nat} (hd : 0 ≤ d){I : mI} {L : mL} : ∀ (n : Nat) (x1 : Int32) (x2 : Int32) (o : Int32), f_X5_heaviestOpen_48_l4 I L n x1 x2 = some o → RR mX5_heaviestOpen d 4 [some (.ref 48), some (.int x1), some (.int x2)] [] I L (retQ (some (.int o)) I L) := by
  intro n
  induction n with
  | zero => intro x1 x2 o h; rw [f_X5_heaviestOpen_48_l4] at h; cases h
  | succ n ih =>
    intro x1 x2 o h
    rw [f_X5_heaviestOpen_48_l4] at h
    refine r_iload_n (i := 2) dX5_heaviestOpen_4 rfl rfl ?_
    refine r_aload_n (i := 0) dX5_heaviestOpen_5 rfl rfl ?_
    refine r_getI f_X5_46 dX5_heaviestOpen_6 rfl rfl ?_
    refine r_icmp_ge (tgt := 48) dX5_heaviestOpen_9 (by decide) (fun c => ?_) (fun c => ?_)
    · rw [if_pos c] at h
      refine r_iload_n (i := 1) dX5_heaviestOpen_48 rfl rfl ?_
      refine r_iret (by first | rfl | decide) dX5_heaviestOpen_49 ?_
      obtain rfl := Option.some.inj h
      exact ⟨rfl, rfl, rfl⟩
    · rw [if_neg c] at h
      refine r_aload_n (i := 0) dX5_heaviestOpen_12 rfl rfl ?_
      refine r_getR f_X5_18 dX5_heaviestOpen_13 rfl rfl ?_
      refine r_iload_n (i := 2) dX5_heaviestOpen_16 rfl rfl ?_
      obtain ⟨hb, h⟩ := ck_some h
      refine r_iald rfl (inb_vp hb) dX5_heaviestOpen_17 ?_
      refine r_aload_n (i := 0) dX5_heaviestOpen_18 rfl rfl ?_
      refine r_getI f_X5_50 dX5_heaviestOpen_19 rfl rfl ?_
      refine r_icmp_gt (tgt := 42) dX5_heaviestOpen_22 (by decide) (fun c => ?_) (fun c => ?_)
      · rw [if_pos c] at h
        refine r_iinc (v := _) dX5_heaviestOpen_42 rfl rfl (by decide) rfl ?_
        simp only [List.set_cons_zero, List.set_cons_succ]
        replace h := lt_some h
        refine r_goto (tgt := 4) dX5_heaviestOpen_45 (by decide) ?_
        exact RR.wk (ih _ _ _ h) (And.intro rfl (And.intro rfl (And.intro rfl (trivial))))
      · rw [if_neg c] at h
        refine r_aload_n (i := 0) dX5_heaviestOpen_25 rfl rfl ?_
        refine r_getR f_X5_18 dX5_heaviestOpen_26 rfl rfl ?_
        refine r_iload_n (i := 2) dX5_heaviestOpen_29 rfl rfl ?_
        obtain ⟨hb, h⟩ := ck_some h
        refine r_iald rfl (inb_vp hb) dX5_heaviestOpen_30 ?_
        refine r_iload_n (i := 1) dX5_heaviestOpen_31 rfl rfl ?_
        refine r_icmp_le (tgt := 42) dX5_heaviestOpen_32 (by decide) (fun c => ?_) (fun c => ?_)
        · rw [if_pos c] at h
          refine r_iinc (v := _) dX5_heaviestOpen_42 rfl rfl (by decide) rfl ?_
          simp only [List.set_cons_zero, List.set_cons_succ]
          replace h := lt_some h
          refine r_goto (tgt := 4) dX5_heaviestOpen_45 (by decide) ?_
          exact RR.wk (ih _ _ _ h) (And.intro rfl (And.intro rfl (And.intro rfl (trivial))))
        · rw [if_neg c] at h
          refine r_aload_n (i := 0) dX5_heaviestOpen_35 rfl rfl ?_
          refine r_getR f_X5_18 dX5_heaviestOpen_36 rfl rfl ?_
          refine r_iload_n (i := 2) dX5_heaviestOpen_39 rfl rfl ?_
          obtain ⟨hb, h⟩ := ck_some h
          refine r_iald rfl (inb_vp hb) dX5_heaviestOpen_40 ?_
          refine r_istore_n (i := 1) dX5_heaviestOpen_41 rfl (by decide) rfl ?_
          simp only [List.set_cons_zero, List.set_cons_succ]
          replace h := lt_some h
          refine r_iinc (v := _) dX5_heaviestOpen_42 rfl rfl (by decide) rfl ?_
          simp only [List.set_cons_zero, List.set_cons_succ]
          replace h := lt_some h
          refine r_goto (tgt := 4) dX5_heaviestOpen_45 (by decide) ?_
          exact RR.wk (ih _ _ _ h) (And.intro rfl (And.intro rfl (And.intro rfl (trivial))))
def f_X5_heaviestOpen_48 (I : mI) (L : mL) : Option Int32 := f_X5_heaviestOpen_48_l4 I L fuel 0 0
theorem ok_X5_heaviestOpen_48 {d : Nat} (hd : 0 ≤ d) {I : mI} {L : mL} {o : Int32} (h : f_X5_heaviestOpen_48 I L = some o) : RR mX5_heaviestOpen d 0 [some (.ref 48), none, none] [] I L (retQ (some (.int o)) I L) := by
  unfold f_X5_heaviestOpen_48 at h
  refine r_iconst (v := 0) dX5_heaviestOpen_0 (by decide) ?_
  refine r_istore_n (i := 1) dX5_heaviestOpen_1 rfl (by decide) rfl ?_
  simp only [List.set_cons_zero, List.set_cons_succ]
  refine r_iconst (v := 0) dX5_heaviestOpen_2 (by decide) ?_
  refine r_istore_n (i := 2) dX5_heaviestOpen_3 rfl (by decide) rfl ?_
  simp only [List.set_cons_zero, List.set_cons_succ]
  exact RR.wk (ok_X5_heaviestOpen_48_l4 hd _ _ _ _ h) (And.intro rfl (And.intro rfl (And.intro rfl (trivial))))
def f_X5_bestPlace_48_b117 (I : mI) (L : mL) (k18 : Int32 → Int32 → Int32 → Int32 → mI → mL → rI) (x2 : Int32) (x3 : Int32) (x4 : Int32) (x5 : Int32) (x6 : Int32) : rI := bndV (f_X5_leave_48 I L x6) (fun Ir8 Lr8 => lt (x5 + Int32.ofInt 1) (fun v10 => k18 x2 x3 x4 v10 Ir8 Lr8))
theorem ok_X5_bestPlace_48_b117 {d : Nat} (hd : 2 ≤ d){I : mI} {L : mL} {k18 : Int32 → Int32 → Int32 → Int32 → mI → mL → rI} (hk18 : ∀ (x2 : Int32) (x3 : Int32) (x4 : Int32) (x5 : Int32) (I : mI) (L : mL) (o : Int32 × mI × mL), k18 x2 x3 x4 x5 I L = some o → RR mX5_bestPlace d 18 [some (.ref 48), none, some (.int x2), some (.int x3), some (.int x4), some (.int x5), none, none] [] I L (retQ (some (.int o.1)) o.2.1 o.2.2)) (x2 : Int32) (x3 : Int32) (x4 : Int32) (x5 : Int32) (x6 : Int32) {o : Int32 × mI × mL} (h : f_X5_bestPlace_48_b117 I L k18 x2 x3 x4 x5 x6 = some o) : RR mX5_bestPlace d 117 [some (.ref 48), none, some (.int x2), some (.int x3), some (.int x4), some (.int x5), some (.int x6), none] [] I L (retQ (some (.int o.1)) o.2.1 o.2.2) := by
  unfold f_X5_bestPlace_48_b117 at h
  refine r_aload_n (i := 0) dX5_bestPlace_117 rfl rfl ?_
  refine r_iload dX5_bestPlace_118 rfl ?_
  obtain ⟨⟨Ir8, Lr8⟩, hr, h⟩ := bind_some h
  refine r_V (d' := 1) k_X5_88 dX5_bestPlace_120 (by omega) rfl rfl rfl (Nat.le_of_ble_eq_true rfl) (Nat.le_of_ble_eq_true rfl) (ok_X5_leave_48 (Nat.le_refl _) hr) (fun v I' L' hq => ?_)
  obtain ⟨rfl, rfl, rfl⟩ := hq
  simp only [Option.toList_some, Option.toList_none, List.drop_succ_cons, List.drop_zero, List.drop_nil, List.cons_append, List.nil_append]
  dsimp only at h
  refine r_iinc (v := _) dX5_bestPlace_123 rfl rfl (by decide) rfl ?_
  simp only [List.set_cons_zero, List.set_cons_succ]
  replace h := lt_some h
  refine r_goto (tgt := 18) dX5_bestPlace_126 (by decide) ?_
  exact RR.wk (hk18 _ _ _ _ _ _ _ h) (And.intro rfl (And.intro rfl (And.intro rfl (And.intro rfl (And.intro rfl (trivial))))))
def f_X5_bestPlace_48_b108 (I : mI) (L : mL) (k18 : Int32 → Int32 → Int32 → Int32 → mI → mL → rI) (x2 : Int32) (x4 : Int32) (x5 : Int32) (x6 : Int32) (x7 : Int32) : rI := lt (uI I 48 13 x7) (fun M7 => f_X5_bestPlace_48_b117 M7 L k18 x2 x6 x4 x5 x6)
theorem ok_X5_bestPlace_48_b108 {d : Nat} (hd : 2 ≤ d){I : mI} {L : mL} {k18 : Int32 → Int32 → Int32 → Int32 → mI → mL → rI} (hk18 : ∀ (x2 : Int32) (x3 : Int32) (x4 : Int32) (x5 : Int32) (I : mI) (L : mL) (o : Int32 × mI × mL), k18 x2 x3 x4 x5 I L = some o → RR mX5_bestPlace d 18 [some (.ref 48), none, some (.int x2), some (.int x3), some (.int x4), some (.int x5), none, none] [] I L (retQ (some (.int o.1)) o.2.1 o.2.2)) (x2 : Int32) (x4 : Int32) (x5 : Int32) (x6 : Int32) (x7 : Int32) {o : Int32 × mI × mL} (h : f_X5_bestPlace_48_b108 I L k18 x2 x4 x5 x6 x7 = some o) : RR mX5_bestPlace d 108 [some (.ref 48), none, some (.int x2), none, some (.int x4), some (.int x5), some (.int x6), some (.int x7)] [] I L (retQ (some (.int o.1)) o.2.1 o.2.2) := by
  unfold f_X5_bestPlace_48_b108 at h
  refine r_iload dX5_bestPlace_108 rfl ?_
  refine r_istore_n (i := 3) dX5_bestPlace_110 rfl (by decide) rfl ?_
  simp only [List.set_cons_zero, List.set_cons_succ]
  refine r_aload_n (i := 0) dX5_bestPlace_111 rfl rfl ?_
  refine r_iload dX5_bestPlace_112 rfl ?_
  refine r_putI f_X5_94 rfl rfl dX5_bestPlace_114 rfl rfl ?_
  replace h := lt_some h
  exact RR.wk (ok_X5_bestPlace_48_b117 hd hk18 _ _ _ _ _ h) (And.intro rfl (And.intro rfl (And.intro rfl (And.intro rfl (And.intro rfl (And.intro rfl (trivial)))))))
def f_X5_bestPlace_48_b61 (I : mI) (L : mL) (k18 : Int32 → Int32 → Int32 → Int32 → mI → mL → rI) (x2 : Int32) (x3 : Int32) (x4 : Int32) (x5 : Int32) (x6 : Int32) : rI := ck (inb x6 8) (ck (inb x6 8) (lt ((x2 * (I 51 x6.toNatClampNeg)) - (I 52 x6.toNatClampNeg)) (fun v6 => if x3 < 0 then (f_X5_bestPlace_48_b108 I L k18 x2 x4 x5 x6 v6) else (if (I 48 13) < v6 then (f_X5_bestPlace_48_b108 I L k18 x2 x4 x5 x6 v6) else (if v6 = (I 48 13) then (if x3 ≤ x6 then (f_X5_bestPlace_48_b117 I L k18 x2 x3 x4 x5 x6) else (f_X5_bestPlace_48_b108 I L k18 x2 x4 x5 x6 v6)) else (f_X5_bestPlace_48_b117 I L k18 x2 x3 x4 x5 x6))))))
theorem ok_X5_bestPlace_48_b61 {d : Nat} (hd : 2 ≤ d){I : mI} {L : mL} {k18 : Int32 → Int32 → Int32 → Int32 → mI → mL → rI} (hk18 : ∀ (x2 : Int32) (x3 : Int32) (x4 : Int32) (x5 : Int32) (I : mI) (L : mL) (o : Int32 × mI × mL), k18 x2 x3 x4 x5 I L = some o → RR mX5_bestPlace d 18 [some (.ref 48), none, some (.int x2), some (.int x3), some (.int x4), some (.int x5), none, none] [] I L (retQ (some (.int o.1)) o.2.1 o.2.2)) (x2 : Int32) (x3 : Int32) (x4 : Int32) (x5 : Int32) (x6 : Int32) {o : Int32 × mI × mL} (h : f_X5_bestPlace_48_b61 I L k18 x2 x3 x4 x5 x6 = some o) : RR mX5_bestPlace d 61 [some (.ref 48), none, some (.int x2), some (.int x3), some (.int x4), some (.int x5), some (.int x6), none] [] I L (retQ (some (.int o.1)) o.2.1 o.2.2) := by
  unfold f_X5_bestPlace_48_b61 at h
  refine r_iload_n (i := 2) dX5_bestPlace_61 rfl rfl ?_
  refine r_aload_n (i := 0) dX5_bestPlace_62 rfl rfl ?_
  refine r_getR f_X5_18 dX5_bestPlace_63 rfl rfl ?_
  refine r_iload dX5_bestPlace_66 rfl ?_
  obtain ⟨hb, h⟩ := ck_some h
  refine r_iald rfl (inb_vp hb) dX5_bestPlace_68 ?_
  refine r_imul dX5_bestPlace_69 ?_
  refine r_aload_n (i := 0) dX5_bestPlace_70 rfl rfl ?_
  refine r_getR f_X5_21 dX5_bestPlace_71 rfl rfl ?_
  refine r_iload dX5_bestPlace_74 rfl ?_
  obtain ⟨hb, h⟩ := ck_some h
  refine r_iald rfl (inb_vp hb) dX5_bestPlace_76 ?_
  refine r_isub dX5_bestPlace_77 ?_
  refine r_istore dX5_bestPlace_78 (by decide) rfl ?_
  simp only [List.set_cons_zero, List.set_cons_succ]
  replace h := lt_some h
  refine r_iload_n (i := 3) dX5_bestPlace_80 rfl rfl ?_
  refine r_if_lt (tgt := 108) dX5_bestPlace_81 (by decide) (fun c => ?_) (fun c => ?_)
  · rw [if_pos c] at h
    exact RR.wk (ok_X5_bestPlace_48_b108 hd hk18 _ _ _ _ _ h) (And.intro rfl (And.intro rfl (And.intro rfl (And.intro rfl (And.intro rfl (And.intro rfl (trivial)))))))
  · rw [if_neg c] at h
    refine r_iload dX5_bestPlace_84 rfl ?_
    refine r_aload_n (i := 0) dX5_bestPlace_86 rfl rfl ?_
    refine r_getI f_X5_94 dX5_bestPlace_87 rfl rfl ?_
    refine r_icmp_gt (tgt := 108) dX5_bestPlace_90 (by decide) (fun c => ?_) (fun c => ?_)
    · rw [if_pos c] at h
      exact RR.wk (ok_X5_bestPlace_48_b108 hd hk18 _ _ _ _ _ h) (And.intro rfl (And.intro rfl (And.intro rfl (And.intro rfl (And.intro rfl (And.intro rfl (trivial)))))))
    · rw [if_neg c] at h
      refine r_iload dX5_bestPlace_93 rfl ?_
      refine r_aload_n (i := 0) dX5_bestPlace_95 rfl rfl ?_
      refine r_getI f_X5_94 dX5_bestPlace_96 rfl rfl ?_
      refine r_icmp_ne (tgt := 117) dX5_bestPlace_99 (by decide) (fun c => ?_) (fun c => ?_)
      · rw [if_neg c] at h
        exact RR.wk (ok_X5_bestPlace_48_b117 hd hk18 _ _ _ _ _ h) (And.intro rfl (And.intro rfl (And.intro rfl (And.intro rfl (And.intro rfl (And.intro rfl (trivial)))))))
      · rw [if_pos c] at h
        refine r_iload dX5_bestPlace_102 rfl ?_
        refine r_iload_n (i := 3) dX5_bestPlace_104 rfl rfl ?_
        refine r_icmp_ge (tgt := 117) dX5_bestPlace_105 (by decide) (fun c => ?_) (fun c => ?_)
        · rw [if_pos c] at h
          exact RR.wk (ok_X5_bestPlace_48_b117 hd hk18 _ _ _ _ _ h) (And.intro rfl (And.intro rfl (And.intro rfl (And.intro rfl (And.intro rfl (And.intro rfl (trivial)))))))
        · rw [if_neg c] at h
          exact RR.wk (ok_X5_bestPlace_48_b108 hd hk18 _ _ _ _ _ h) (And.intro rfl (And.intro rfl (And.intro rfl (And.intro rfl (And.intro rfl (And.intro rfl (trivial)))))))
def f_X5_bestPlace_48_l18 : Nat → Int32 → Int32 → Int32 → Int32 → mI → mL → rI
  | 0, _, _, _, _, _, _ => none
  | n + 1, x2, x3, x4, x5, I, L => if (I 48 8) ≤ x5 then (some (x3, I, L)) else ((f_X5_nearest_48 I L).bind (fun r5 => if r5 < 0 then (some (x3, I, L)) else (if x3 < 0 then (f_X5_bestPlace_48_b61 I L (f_X5_bestPlace_48_l18 n) x2 x3 x4 x5 r5) else (ck (inb r5 8) (if (I 48 13) ≤ (x4 - (I 52 r5.toNatClampNeg)) then (f_X5_bestPlace_48_b61 I L (f_X5_bestPlace_48_l18 n) x2 x3 x4 x5 r5) else (some (x3, I, L)))))))
theorem ok_X5_bestPlace_48_l18 {d : Nat} (hd : 2 ≤ d) : ∀ (n : Nat) (x2 : Int32) (x3 : Int32) (x4 : Int32) (x5 : Int32) (I : mI) (L : mL) (o : Int32 × mI × mL), f_X5_bestPlace_48_l18 n x2 x3 x4 x5 I L = some o → RR mX5_bestPlace d 18 [some (.ref 48), none, some (.int x2), some (.int x3), some (.int x4), some (.int x5), none, none] [] I L (retQ (some (.int o.1)) o.2.1 o.2.2) := by
  intro n
  induction n with
  | zero => intro x2 x3 x4 x5 I L o h; rw [f_X5_bestPlace_48_l18] at h; cases h
  | succ n ih =>
    intro x2 x3 x4 x5 I L o h
    rw [f_X5_bestPlace_48_l18] at h
    refine r_iload dX5_bestPlace_18 rfl ?_
    refine r_aload_n (i := 0) dX5_bestPlace_20 rfl rfl ?_
    refine r_getI f_X5_46 dX5_bestPlace_21 rfl rfl ?_
    refine r_icmp_ge (tgt := 129) dX5_bestPlace_24 (by decide) (fun c => ?_) (fun c => ?_)
    · rw [if_pos c] at h
      refine r_iload_n (i := 3) dX5_bestPlace_129 rfl rfl ?_
      refine r_iret (by first | rfl | decide) dX5_bestPlace_130 ?_
      obtain rfl := Option.some.inj h
      exact ⟨rfl, rfl, rfl⟩
    · rw [if_neg c] at h
      refine r_aload_n (i := 0) dX5_bestPlace_27 rfl rfl ?_
      obtain ⟨r5, hr, h⟩ := bind_some h
      refine r_V (d' := 0) k_X5_84 dX5_bestPlace_28 (by omega) rfl rfl rfl (Nat.le_of_ble_eq_true rfl) (Nat.le_of_ble_eq_true rfl) (ok_X5_nearest_48 (Nat.le_refl _) hr) (fun v I' L' hq => ?_)
      obtain ⟨rfl, rfl, rfl⟩ := hq
      simp only [Option.toList_some, Option.toList_none, List.drop_succ_cons, List.drop_zero, List.drop_nil, List.cons_append, List.nil_append]
      refine r_istore dX5_bestPlace_31 (by decide) rfl ?_
      simp only [List.set_cons_zero, List.set_cons_succ]
      refine r_iload dX5_bestPlace_33 rfl ?_
      refine r_if_lt (tgt := 59) dX5_bestPlace_35 (by decide) (fun c => ?_) (fun c => ?_)
      · rw [if_pos c] at h
        refine r_iload_n (i := 3) dX5_bestPlace_59 rfl rfl ?_
        refine r_iret (by first | rfl | decide) dX5_bestPlace_60 ?_
        obtain rfl := Option.some.inj h
        exact ⟨rfl, rfl, rfl⟩
      · rw [if_neg c] at h
        refine r_iload_n (i := 3) dX5_bestPlace_38 rfl rfl ?_
        refine r_if_lt (tgt := 61) dX5_bestPlace_39 (by decide) (fun c => ?_) (fun c => ?_)
        · rw [if_pos c] at h
          exact RR.wk (ok_X5_bestPlace_48_b61 hd ih _ _ _ _ _ h) (And.intro rfl (And.intro rfl (And.intro rfl (And.intro rfl (And.intro rfl (And.intro rfl (trivial)))))))
        · rw [if_neg c] at h
          refine r_iload dX5_bestPlace_42 rfl ?_
          refine r_aload_n (i := 0) dX5_bestPlace_44 rfl rfl ?_
          refine r_getR f_X5_21 dX5_bestPlace_45 rfl rfl ?_
          refine r_iload dX5_bestPlace_48 rfl ?_
          obtain ⟨hb, h⟩ := ck_some h
          refine r_iald rfl (inb_vp hb) dX5_bestPlace_50 ?_
          refine r_isub dX5_bestPlace_51 ?_
          refine r_aload_n (i := 0) dX5_bestPlace_52 rfl rfl ?_
          refine r_getI f_X5_94 dX5_bestPlace_53 rfl rfl ?_
          refine r_icmp_ge (tgt := 61) dX5_bestPlace_56 (by decide) (fun c => ?_) (fun c => ?_)
          · rw [if_pos c] at h
            exact RR.wk (ok_X5_bestPlace_48_b61 hd ih _ _ _ _ _ h) (And.intro rfl (And.intro rfl (And.intro rfl (And.intro rfl (And.intro rfl (And.intro rfl (trivial)))))))
          · rw [if_neg c] at h
            refine r_iload_n (i := 3) dX5_bestPlace_59 rfl rfl ?_
            refine r_iret (by first | rfl | decide) dX5_bestPlace_60 ?_
            obtain rfl := Option.some.inj h
            exact ⟨rfl, rfl, rfl⟩
def f_X5_bestPlace_48 (I : mI) (L : mL) (a1 : Int32) (a2 : Int32) : rI := bndV (f_X5_start_48 I L a1) (fun Ir1 Lr1 => (f_X5_heaviestOpen_48 Ir1 Lr1).bind (fun r3 => lt (a2 * r3) (fun v4 => f_X5_bestPlace_48_l18 fuel a2 (-1) v4 0 Ir1 Lr1)))
theorem ok_X5_bestPlace_48 {d : Nat} (hd : 2 ≤ d) {I : mI} {L : mL} {a1 : Int32} {a2 : Int32} {o : Int32 × mI × mL} (h : f_X5_bestPlace_48 I L a1 a2 = some o) : RR mX5_bestPlace d 0 [some (.ref 48), some (.int a1), some (.int a2), none, none, none, none, none] [] I L (retQ (some (.int o.1)) o.2.1 o.2.2) := by
  unfold f_X5_bestPlace_48 at h
  refine r_aload_n (i := 0) dX5_bestPlace_0 rfl rfl ?_
  refine r_iload_n (i := 1) dX5_bestPlace_1 rfl rfl ?_
  obtain ⟨⟨Ir1, Lr1⟩, hr, h⟩ := bind_some h
  refine r_V (d' := 1) k_X5_80 dX5_bestPlace_2 (by omega) rfl rfl rfl (Nat.le_of_ble_eq_true rfl) (Nat.le_of_ble_eq_true rfl) (ok_X5_start_48 (Nat.le_refl _) hr) (fun v I' L' hq => ?_)
  obtain ⟨rfl, rfl, rfl⟩ := hq
  simp only [Option.toList_some, Option.toList_none, List.drop_succ_cons, List.drop_zero, List.drop_nil, List.cons_append, List.nil_append]
  dsimp only at h
  refine r_iconst (v := (-1)) dX5_bestPlace_5 (by decide) ?_
  refine r_istore_n (i := 3) dX5_bestPlace_6 rfl (by decide) rfl ?_
  simp only [List.set_cons_zero, List.set_cons_succ]
  refine r_iload_n (i := 2) dX5_bestPlace_7 rfl rfl ?_
  refine r_aload_n (i := 0) dX5_bestPlace_8 rfl rfl ?_
  obtain ⟨r3, hr, h⟩ := bind_some h
  refine r_V (d' := 0) k_X5_91 dX5_bestPlace_9 (by omega) rfl rfl rfl (Nat.le_of_ble_eq_true rfl) (Nat.le_of_ble_eq_true rfl) (ok_X5_heaviestOpen_48 (Nat.le_refl _) hr) (fun v I' L' hq => ?_)
  obtain ⟨rfl, rfl, rfl⟩ := hq
  simp only [Option.toList_some, Option.toList_none, List.drop_succ_cons, List.drop_zero, List.drop_nil, List.cons_append, List.nil_append]
  refine r_imul dX5_bestPlace_12 ?_
  refine r_istore dX5_bestPlace_13 (by decide) rfl ?_
  simp only [List.set_cons_zero, List.set_cons_succ]
  replace h := lt_some h
  refine r_iconst (v := 0) dX5_bestPlace_15 (by decide) ?_
  refine r_istore dX5_bestPlace_16 (by decide) rfl ?_
  simp only [List.set_cons_zero, List.set_cons_succ]
  exact RR.wk (ok_X5_bestPlace_48_l18 hd _ _ _ _ _ _ _ _ h) (And.intro rfl (And.intro rfl (And.intro rfl (And.intro rfl (And.intro rfl (trivial))))))
def f_X5_marketOf_48 (I : mI) (L : mL) (a1 : Int32) : rI := ck (inb a1 6) (bndV (f_X5_weigh_48 I L (I 10 a1.toNatClampNeg)) (fun Ir1 Lr1 => ck (inb a1 6) (ck (inb a1 6) (bndI (f_X5_bestPlace_48 Ir1 Lr1 (Ir1 12 a1.toNatClampNeg) (Ir1 11 a1.toNatClampNeg)) (fun r3 Ir3 Lr3 => some (r3, Ir3, Lr3))))))
theorem ok_X5_marketOf_48 {d : Nat} (hd : 4 ≤ d) {I : mI} {L : mL} {a1 : Int32} {o : Int32 × mI × mL} (h : f_X5_marketOf_48 I L a1 = some o) : RR mX5_marketOf d 0 [some (.ref 48), some (.int a1)] [] I L (retQ (some (.int o.1)) o.2.1 o.2.2) := by
  unfold f_X5_marketOf_48 at h
  refine r_aload_n (i := 0) dX5_marketOf_0 rfl rfl ?_
  refine r_aload_n (i := 0) dX5_marketOf_1 rfl rfl ?_
  refine r_getR f_X5_30 dX5_marketOf_2 rfl rfl ?_
  refine r_getR f_X5_97 dX5_marketOf_5 rfl rfl ?_
  refine r_iload_n (i := 1) dX5_marketOf_8 rfl rfl ?_
  obtain ⟨hb, h⟩ := ck_some h
  refine r_iald rfl (inb_vp hb) dX5_marketOf_9 ?_
  obtain ⟨⟨Ir1, Lr1⟩, hr, h⟩ := bind_some h
  refine r_V (d' := 3) k_X5_100 dX5_marketOf_10 (by omega) rfl rfl rfl (Nat.le_of_ble_eq_true rfl) (Nat.le_of_ble_eq_true rfl) (ok_X5_weigh_48 (Nat.le_refl _) hr) (fun v I' L' hq => ?_)
  obtain ⟨rfl, rfl, rfl⟩ := hq
  simp only [Option.toList_some, Option.toList_none, List.drop_succ_cons, List.drop_zero, List.drop_nil, List.cons_append, List.nil_append]
  dsimp only at h
  refine r_aload_n (i := 0) dX5_marketOf_13 rfl rfl ?_
  refine r_aload_n (i := 0) dX5_marketOf_14 rfl rfl ?_
  refine r_getR f_X5_30 dX5_marketOf_15 rfl rfl ?_
  refine r_getR f_X5_103 dX5_marketOf_18 rfl rfl ?_
  refine r_iload_n (i := 1) dX5_marketOf_21 rfl rfl ?_
  obtain ⟨hb, h⟩ := ck_some h
  refine r_iald rfl (inb_vp hb) dX5_marketOf_22 ?_
  refine r_aload_n (i := 0) dX5_marketOf_23 rfl rfl ?_
  refine r_getR f_X5_30 dX5_marketOf_24 rfl rfl ?_
  refine r_getR f_X5_106 dX5_marketOf_27 rfl rfl ?_
  refine r_iload_n (i := 1) dX5_marketOf_30 rfl rfl ?_
  obtain ⟨hb, h⟩ := ck_some h
  refine r_iald rfl (inb_vp hb) dX5_marketOf_31 ?_
  obtain ⟨⟨r3, Ir3, Lr3⟩, hr, h⟩ := bind_some h
  refine r_V (d' := 2) k_X5_109 dX5_marketOf_32 (by omega) rfl rfl rfl (Nat.le_of_ble_eq_true rfl) (Nat.le_of_ble_eq_true rfl) (ok_X5_bestPlace_48 (Nat.le_refl _) hr) (fun v I' L' hq => ?_)
  obtain ⟨rfl, rfl, rfl⟩ := hq
  simp only [Option.toList_some, Option.toList_none, List.drop_succ_cons, List.drop_zero, List.drop_nil, List.cons_append, List.nil_append]
  dsimp only at h
  refine r_iret (by first | rfl | decide) dX5_marketOf_35 ?_
  obtain rfl := Option.some.inj h
  exact ⟨rfl, rfl, rfl⟩
def f_X10_market_0 (I : mI) (L : mL) (a1 : Int32) (a2 : Int32) : rI := (f_X7_hasGood_1 I L a1).bind (fun r1 => if r1 = 0 then (some ((-1), I, L)) else ((f_X7_hasCart_1 I L a2).bind (fun r2 => if r2 = 0 then (some ((-1), I, L)) else (bndV (f_X5_harness_48 I L a2) (fun Ir3 Lr3 => bndI (f_X5_marketOf_48 Ir3 Lr3 a1) (fun r5 Ir5 Lr5 => if 0 ≤ r5 then (some (r5, Ir5, Lr5)) else (some ((-4), Ir5, Lr5))))))))
theorem ok_X10_market_0 {d : Nat} (hd : 5 ≤ d) {I : mI} {L : mL} {a1 : Int32} {a2 : Int32} {o : Int32 × mI × mL} (h : f_X10_market_0 I L a1 a2 = some o) : RR mX10_market d 0 [some (.ref 0), some (.int a1), some (.int a2), none] [] I L (retQ (some (.int o.1)) o.2.1 o.2.2) := by
  unfold f_X10_market_0 at h
  refine r_aload_n (i := 0) dX10_market_0 rfl rfl ?_
  refine r_getR f_X10_10 dX10_market_1 rfl rfl ?_
  refine r_iload_n (i := 1) dX10_market_4 rfl rfl ?_
  obtain ⟨r1, hr, h⟩ := bind_some h
  refine r_V (d' := 0) k_X10_128 dX10_market_5 (by omega) rfl rfl rfl (Nat.le_of_ble_eq_true rfl) (Nat.le_of_ble_eq_true rfl) (ok_X7_hasGood_1 (Nat.le_refl _) hr) (fun v I' L' hq => ?_)
  obtain ⟨rfl, rfl, rfl⟩ := hq
  simp only [Option.toList_some, Option.toList_none, List.drop_succ_cons, List.drop_zero, List.drop_nil, List.cons_append, List.nil_append]
  refine r_if_eq (tgt := 22) dX10_market_8 (by decide) (fun c => ?_) (fun c => ?_)
  · rw [if_pos c] at h
    refine r_iconst (v := (-1)) dX10_market_22 (by decide) ?_
    refine r_iret (by first | rfl | decide) dX10_market_23 ?_
    obtain rfl := Option.some.inj h
    exact ⟨rfl, rfl, rfl⟩
  · rw [if_neg c] at h
    refine r_aload_n (i := 0) dX10_market_11 rfl rfl ?_
    refine r_getR f_X10_10 dX10_market_12 rfl rfl ?_
    refine r_iload_n (i := 2) dX10_market_15 rfl rfl ?_
    obtain ⟨r2, hr, h⟩ := bind_some h
    refine r_V (d' := 0) k_X10_210 dX10_market_16 (by omega) rfl rfl rfl (Nat.le_of_ble_eq_true rfl) (Nat.le_of_ble_eq_true rfl) (ok_X7_hasCart_1 (Nat.le_refl _) hr) (fun v I' L' hq => ?_)
    obtain ⟨rfl, rfl, rfl⟩ := hq
    simp only [Option.toList_some, Option.toList_none, List.drop_succ_cons, List.drop_zero, List.drop_nil, List.cons_append, List.nil_append]
    refine r_if_ne (tgt := 24) dX10_market_19 (by decide) (fun c => ?_) (fun c => ?_)
    · rw [if_neg c] at h
      refine r_aload_n (i := 0) dX10_market_24 rfl rfl ?_
      refine r_getR f_X10_38 dX10_market_25 rfl rfl ?_
      refine r_iload_n (i := 2) dX10_market_28 rfl rfl ?_
      obtain ⟨⟨Ir3, Lr3⟩, hr, h⟩ := bind_some h
      refine r_V (d' := 1) k_X10_213 dX10_market_29 (by omega) rfl rfl rfl (Nat.le_of_ble_eq_true rfl) (Nat.le_of_ble_eq_true rfl) (ok_X5_harness_48 (Nat.le_refl _) hr) (fun v I' L' hq => ?_)
      obtain ⟨rfl, rfl, rfl⟩ := hq
      simp only [Option.toList_some, Option.toList_none, List.drop_succ_cons, List.drop_zero, List.drop_nil, List.cons_append, List.nil_append]
      dsimp only at h
      refine r_aload_n (i := 0) dX10_market_32 rfl rfl ?_
      refine r_getR f_X10_38 dX10_market_33 rfl rfl ?_
      refine r_iload_n (i := 1) dX10_market_36 rfl rfl ?_
      obtain ⟨⟨r5, Ir5, Lr5⟩, hr, h⟩ := bind_some h
      refine r_V (d' := 4) k_X10_250 dX10_market_37 (by omega) rfl rfl rfl (Nat.le_of_ble_eq_true rfl) (Nat.le_of_ble_eq_true rfl) (ok_X5_marketOf_48 (Nat.le_refl _) hr) (fun v I' L' hq => ?_)
      obtain ⟨rfl, rfl, rfl⟩ := hq
      simp only [Option.toList_some, Option.toList_none, List.drop_succ_cons, List.drop_zero, List.drop_nil, List.cons_append, List.nil_append]
      dsimp only at h
      refine r_istore_n (i := 3) dX10_market_40 rfl (by decide) rfl ?_
      simp only [List.set_cons_zero, List.set_cons_succ]
      refine r_iload_n (i := 3) dX10_market_41 rfl rfl ?_
      refine r_if_ge (tgt := 50) dX10_market_42 (by decide) (fun c => ?_) (fun c => ?_)
      · rw [if_pos c] at h
        refine r_iload_n (i := 3) dX10_market_50 rfl rfl ?_
        refine r_iret (by first | rfl | decide) dX10_market_51 ?_
        obtain rfl := Option.some.inj h
        exact ⟨rfl, rfl, rfl⟩
      · rw [if_neg c] at h
        refine r_bipush (v := (-4)) dX10_market_45 (by decide) ?_
        refine r_goto (tgt := 51) dX10_market_47 (by decide) ?_
        refine r_iret (by first | rfl | decide) dX10_market_51 ?_
        obtain rfl := Option.some.inj h
        exact ⟨rfl, rfl, rfl⟩
    · rw [if_pos c] at h
      refine r_iconst (v := (-1)) dX10_market_22 (by decide) ?_
      refine r_iret (by first | rfl | decide) dX10_market_23 ?_
      obtain rfl := Option.some.inj h
      exact ⟨rfl, rfl, rfl⟩
def f_X9_findValues_55_l33 : Nat → Int32 → Int32 → mI → mL → rV
  | 0, _, _, _, _ => none
  | n + 1, x1, x3, I, L => if (I 48 8) ≤ x3 then (some (I, L)) else (ck (inb x1 6) (ck (inb x3 8) (ck (inb x3 8) (lt (uI I 56 x3.toNatClampNeg ((I 11 x1.toNatClampNeg) * (I 51 x3.toNatClampNeg))) (fun M7 => lt (x3 + Int32.ofInt 1) (fun v8 => f_X9_findValues_55_l33 n x1 v8 M7 L))))))
theorem ok_X9_findValues_55_l33 {d : Nat} (hd : 4 ≤ d) : ∀ (n : Nat) (x1 : Int32) (x3 : Int32) (I : mI) (L : mL) (o : mI × mL), f_X9_findValues_55_l33 n x1 x3 I L = some o → RR mX9_findValues d 33 [some (.ref 55), some (.int x1), none, some (.int x3)] [] I L (retQ none o.1 o.2) := by
  intro n
  induction n with
  | zero => intro x1 x3 I L o h; rw [f_X9_findValues_55_l33] at h; cases h
  | succ n ih =>
    intro x1 x3 I L o h
    rw [f_X9_findValues_55_l33] at h
    refine r_iload_n (i := 3) dX9_findValues_33 rfl rfl ?_
    refine r_aload_n (i := 0) dX9_findValues_34 rfl rfl ?_
    refine r_getR f_X9_30 dX9_findValues_35 rfl rfl ?_
    refine r_getI f_X9_38 dX9_findValues_38 rfl rfl ?_
    refine r_icmp_ge (tgt := 75) dX9_findValues_41 (by decide) (fun c => ?_) (fun c => ?_)
    · rw [if_pos c] at h
      refine r_vret dX9_findValues_75 ?_
      obtain rfl := Option.some.inj h
      exact ⟨rfl, rfl, rfl⟩
    · rw [if_neg c] at h
      refine r_aload_n (i := 0) dX9_findValues_44 rfl rfl ?_
      refine r_getR f_X9_11 dX9_findValues_45 rfl rfl ?_
      refine r_iload_n (i := 3) dX9_findValues_48 rfl rfl ?_
      refine r_aload_n (i := 0) dX9_findValues_49 rfl rfl ?_
      refine r_getR f_X9_26 dX9_findValues_50 rfl rfl ?_
      refine r_getR f_X9_52 dX9_findValues_53 rfl rfl ?_
      refine r_iload_n (i := 1) dX9_findValues_56 rfl rfl ?_
      obtain ⟨hb, h⟩ := ck_some h
      refine r_iald rfl (inb_vp hb) dX9_findValues_57 ?_
      refine r_aload_n (i := 0) dX9_findValues_58 rfl rfl ?_
      refine r_getR f_X9_30 dX9_findValues_59 rfl rfl ?_
      refine r_getR f_X9_83 dX9_findValues_62 rfl rfl ?_
      refine r_iload_n (i := 3) dX9_findValues_65 rfl rfl ?_
      obtain ⟨hb, h⟩ := ck_some h
      refine r_iald rfl (inb_vp hb) dX9_findValues_66 ?_
      refine r_imul dX9_findValues_67 ?_
      obtain ⟨hb, h⟩ := ck_some h
      refine r_iast rfl (inb_vp hb) dX9_findValues_68 ?_
      replace h := lt_some h
      refine r_iinc (v := _) dX9_findValues_69 rfl rfl (by decide) rfl ?_
      simp only [List.set_cons_zero, List.set_cons_succ]
      replace h := lt_some h
      refine r_goto (tgt := 33) dX9_findValues_72 (by decide) ?_
      exact RR.wk (ih _ _ _ _ _ h) (And.intro rfl (And.intro rfl (And.intro rfl (trivial))))
def f_X9_findValues_55 (I : mI) (L : mL) (a1 : Int32) (a2 : Int32) : rV := bndV (f_X5_harness_48 I L a2) (fun Ir1 Lr1 => ck (inb a1 6) (bndV (f_X5_weigh_48 Ir1 Lr1 (Ir1 10 a1.toNatClampNeg)) (fun Ir3 Lr3 => bndV (f_X5_spreadAll_48 Ir3 Lr3) (fun Ir5 Lr5 => f_X9_findValues_55_l33 fuel a1 0 Ir5 Lr5))))
theorem ok_X9_findValues_55 {d : Nat} (hd : 4 ≤ d) {I : mI} {L : mL} {a1 : Int32} {a2 : Int32} {o : mI × mL} (h : f_X9_findValues_55 I L a1 a2 = some o) : RR mX9_findValues d 0 [some (.ref 55), some (.int a1), some (.int a2), none] [] I L (retQ none o.1 o.2) := by
  unfold f_X9_findValues_55 at h
  refine r_aload_n (i := 0) dX9_findValues_0 rfl rfl ?_
  refine r_getR f_X9_30 dX9_findValues_1 rfl rfl ?_
  refine r_iload_n (i := 2) dX9_findValues_4 rfl rfl ?_
  obtain ⟨⟨Ir1, Lr1⟩, hr, h⟩ := bind_some h
  refine r_V (d' := 1) k_X9_74 dX9_findValues_5 (by omega) rfl rfl rfl (Nat.le_of_ble_eq_true rfl) (Nat.le_of_ble_eq_true rfl) (ok_X5_harness_48 (Nat.le_refl _) hr) (fun v I' L' hq => ?_)
  obtain ⟨rfl, rfl, rfl⟩ := hq
  simp only [Option.toList_some, Option.toList_none, List.drop_succ_cons, List.drop_zero, List.drop_nil, List.cons_append, List.nil_append]
  dsimp only at h
  refine r_aload_n (i := 0) dX9_findValues_8 rfl rfl ?_
  refine r_getR f_X9_30 dX9_findValues_9 rfl rfl ?_
  refine r_aload_n (i := 0) dX9_findValues_12 rfl rfl ?_
  refine r_getR f_X9_26 dX9_findValues_13 rfl rfl ?_
  refine r_getR f_X9_57 dX9_findValues_16 rfl rfl ?_
  refine r_iload_n (i := 1) dX9_findValues_19 rfl rfl ?_
  obtain ⟨hb, h⟩ := ck_some h
  refine r_iald rfl (inb_vp hb) dX9_findValues_20 ?_
  obtain ⟨⟨Ir3, Lr3⟩, hr, h⟩ := bind_some h
  refine r_V (d' := 3) k_X9_77 dX9_findValues_21 (by omega) rfl rfl rfl (Nat.le_of_ble_eq_true rfl) (Nat.le_of_ble_eq_true rfl) (ok_X5_weigh_48 (Nat.le_refl _) hr) (fun v I' L' hq => ?_)
  obtain ⟨rfl, rfl, rfl⟩ := hq
  simp only [Option.toList_some, Option.toList_none, List.drop_succ_cons, List.drop_zero, List.drop_nil, List.cons_append, List.nil_append]
  dsimp only at h
  refine r_aload_n (i := 0) dX9_findValues_24 rfl rfl ?_
  refine r_getR f_X9_30 dX9_findValues_25 rfl rfl ?_
  obtain ⟨⟨Ir5, Lr5⟩, hr, h⟩ := bind_some h
  refine r_V (d' := 3) k_X9_80 dX9_findValues_28 (by omega) rfl rfl rfl (Nat.le_of_ble_eq_true rfl) (Nat.le_of_ble_eq_true rfl) (ok_X5_spreadAll_48 (Nat.le_refl _) hr) (fun v I' L' hq => ?_)
  obtain ⟨rfl, rfl, rfl⟩ := hq
  simp only [Option.toList_some, Option.toList_none, List.drop_succ_cons, List.drop_zero, List.drop_nil, List.cons_append, List.nil_append]
  dsimp only at h
  refine r_iconst (v := 0) dX9_findValues_31 (by decide) ?_
  refine r_istore_n (i := 3) dX9_findValues_32 rfl (by decide) rfl ?_
  simp only [List.set_cons_zero, List.set_cons_succ]
  exact RR.wk (ok_X9_findValues_55_l33 hd _ _ _ _ _ _ h) (And.intro rfl (And.intro rfl (And.intro rfl (trivial))))
def f_X5_leads_48 (I : mI) (L : mL) (a1 : Int32) (a2 : Int32) : Option Int32 := if a1 = a2 then (some 0) else (ck (inb ((a1 * 8) + a2) 64) (if 536870912 ≤ (I 50 ((a1 * 8) + a2).toNatClampNeg) then (some 0) else (some 1)))
theorem ok_X5_leads_48 {d : Nat} (hd : 0 ≤ d) {I : mI} {L : mL} {a1 : Int32} {a2 : Int32} {o : Int32} (h : f_X5_leads_48 I L a1 a2 = some o) : RR mX5_leads d 0 [some (.ref 48), some (.int a1), some (.int a2)] [] I L (retQ (some (.int o)) I L) := by
  unfold f_X5_leads_48 at h
  refine r_iload_n (i := 1) dX5_leads_0 rfl rfl ?_
  refine r_iload_n (i := 2) dX5_leads_1 rfl rfl ?_
  refine r_icmp_eq (tgt := 25) dX5_leads_2 (by decide) (fun c => ?_) (fun c => ?_)
  · rw [if_pos c] at h
    refine r_iconst (v := 0) dX5_leads_25 (by decide) ?_
    refine r_iret (by first | rfl | decide) dX5_leads_26 ?_
    obtain rfl := Option.some.inj h
    exact ⟨rfl, rfl, rfl⟩
  · rw [if_neg c] at h
    refine r_aload_n (i := 0) dX5_leads_5 rfl rfl ?_
    refine r_getR f_X5_15 dX5_leads_6 rfl rfl ?_
    refine r_iload_n (i := 1) dX5_leads_9 rfl rfl ?_
    refine r_bipush (v := 8) dX5_leads_10 (by decide) ?_
    refine r_imul dX5_leads_12 ?_
    refine r_iload_n (i := 2) dX5_leads_13 rfl rfl ?_
    refine r_iadd dX5_leads_14 ?_
    obtain ⟨hb, h⟩ := ck_some h
    refine r_iald rfl (inb_vp hb) dX5_leads_15 ?_
    refine r_ldc n_X5_112 dX5_leads_16 ?_
    refine r_icmp_ge (tgt := 25) dX5_leads_18 (by decide) (fun c => ?_) (fun c => ?_)
    · rw [if_pos c] at h
      refine r_iconst (v := 0) dX5_leads_25 (by decide) ?_
      refine r_iret (by first | rfl | decide) dX5_leads_26 ?_
      obtain rfl := Option.some.inj h
      exact ⟨rfl, rfl, rfl⟩
    · rw [if_neg c] at h
      refine r_iconst (v := 1) dX5_leads_21 (by decide) ?_
      refine r_goto (tgt := 26) dX5_leads_22 (by decide) ?_
      refine r_iret (by first | rfl | decide) dX5_leads_26 ?_
      obtain rfl := Option.some.inj h
      exact ⟨rfl, rfl, rfl⟩
