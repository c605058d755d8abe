def f_X7_hanging_1_l4 (I : mI) (L : mL) : Nat → Int32 → Int32 → Option Int32
  | 0, _, _ => none
  | n + 1, x1, x2 => if (I 1 10) ≤ x2 then (some x1) else (ck (inb x2 6) (if (I 13 x2.toNatClampNeg) ≤ 0 then (lt (x2 + Int32.ofInt 1) (fun v1 => f_X7_hanging_1_l4 I L n x1 v1)) else (lt (x1 + Int32.ofInt 1) (fun v2 => lt (x2 + Int32.ofInt 1) (fun v3 => f_X7_hanging_1_l4 I L n v2 v3)))))
theorem ok_X7_hanging_1_l4 {d : Nat} (hd : 0 ≤ d){I : mI} {L : mL} : ∀ (n : Nat) (x1 : Int32) (x2 : Int32) (o : Int32), f_X7_hanging_1_l4 I L n x1 x2 = some o → RR mX7_hanging d 4 [some (.ref 1), some (.int x1), some (.int x2)] [] I L (retQ (some (.int o)) I L) := by
  intro n
  induction n with
  | zero => intro x1 x2 o h; rw [f_X7_hanging_1_l4] at h; cases h
  | succ n ih =>
    intro x1 x2 o h
    rw [f_X7_hanging_1_l4] at h
    refine r_iload_n (i := 2) dX7_hanging_4 rfl rfl ?_
    refine r_aload_n (i := 0) dX7_hanging_5 rfl rfl ?_
    refine r_getI f_X7_72 dX7_hanging_6 rfl rfl ?_
    refine r_icmp_ge (tgt := 30) dX7_hanging_9 (by decide) (fun c => ?_) (fun c => ?_)
    · rw [if_pos c] at h
      refine r_iload_n (i := 1) dX7_hanging_30 rfl rfl ?_
      refine r_iret (by first | rfl | decide) dX7_hanging_31 ?_
      obtain rfl := Option.some.inj h
      exact ⟨rfl, rfl, rfl⟩
    · rw [if_neg c] at h
      refine r_aload_n (i := 0) dX7_hanging_12 rfl rfl ?_
      refine r_getR f_X7_34 dX7_hanging_13 rfl rfl ?_
      refine r_iload_n (i := 2) dX7_hanging_16 rfl rfl ?_
      obtain ⟨hb, h⟩ := ck_some h
      refine r_iald rfl (inb_vp hb) dX7_hanging_17 ?_
      refine r_if_le (tgt := 24) dX7_hanging_18 (by decide) (fun c => ?_) (fun c => ?_)
      · rw [if_pos c] at h
        refine r_iinc (v := _) dX7_hanging_24 rfl rfl (by decide) rfl ?_
        simp only [List.set_cons_zero, List.set_cons_succ]
        replace h := lt_some h
        refine r_goto (tgt := 4) dX7_hanging_27 (by decide) ?_
        exact RR.wk (ih _ _ _ h) (And.intro rfl (And.intro rfl (And.intro rfl (trivial))))
      · rw [if_neg c] at h
        refine r_iinc (v := _) dX7_hanging_21 rfl rfl (by decide) rfl ?_
        simp only [List.set_cons_zero, List.set_cons_succ]
        replace h := lt_some h
        refine r_iinc (v := _) dX7_hanging_24 rfl rfl (by decide) rfl ?_
        simp only [List.set_cons_zero, List.set_cons_succ]
        replace h := lt_some h
        refine r_goto (tgt := 4) dX7_hanging_27 (by decide) ?_
        exact RR.wk (ih _ _ _ h) (And.intro rfl (And.intro rfl (And.intro rfl (trivial))))
def f_X7_hanging_1 (I : mI) (L : mL) : Option Int32 := f_X7_hanging_1_l4 I L fuel 0 0
theorem ok_X7_hanging_1 {d : Nat} (hd : 0 ≤ d) {I : mI} {L : mL} {o : Int32} (h : f_X7_hanging_1 I L = some o) : RR mX7_hanging d 0 [some (.ref 1), none, none] [] I L (retQ (some (.int o)) I L) := by
  unfold f_X7_hanging_1 at h
  refine r_iconst (v := 0) dX7_hanging_0 (by decide) ?_
  refine r_istore_n (i := 1) dX7_hanging_1 rfl (by decide) rfl ?_
  simp only [List.set_cons_zero, List.set_cons_succ]
  refine r_iconst (v := 0) dX7_hanging_2 (by decide) ?_
  refine r_istore_n (i := 2) dX7_hanging_3 rfl (by decide) rfl ?_
  simp only [List.set_cons_zero, List.set_cons_succ]
  exact RR.wk (ok_X7_hanging_1_l4 hd _ _ _ _ h) (And.intro rfl (And.intro rfl (And.intro rfl (trivial))))
def f_X10_count_0 (I : mI) (L : mL) (a1 : Int32) : Option Int32 := if a1 = 0 then (some (I 2 5)) else (if a1 = 1 then (some (I 2 6)) else (if a1 = 2 then (some (I 1 9)) else (if a1 = 3 then (some (I 1 10)) else (if a1 = 4 then (some (I 1 11)) else (if a1 = 5 then (some (I 1 12)) else (if a1 = 6 then ((f_X7_season_1 I L).bind (fun r1 => some r1)) else (if a1 = 7 then ((f_X7_hanging_1 I L).bind (fun r2 => some r2)) else (some (-1)))))))))
theorem ok_X10_count_0 {d : Nat} (hd : 2 ≤ d) {I : mI} {L : mL} {a1 : Int32} {o : Int32} (h : f_X10_count_0 I L a1 = some o) : RR mX10_count d 0 [some (.ref 0), some (.int a1)] [] I L (retQ (some (.int o)) I L) := by
  unfold f_X10_count_0 at h
  refine r_iload_n (i := 1) dX10_count_0 rfl rfl ?_
  by_cases c0 : a1 = 0
  · rw [if_pos c0] at h
    refine r_tabIn (tgt := 48) (off := 47) dX10_count_1 (by rw [c0]; decide) (by rw [c0]; decide) (by rw [c0]; rfl) (by decide) ?_
    refine r_aload_n (i := 0) dX10_count_48 rfl rfl ?_
    refine r_getR f_X10_10 dX10_count_49 rfl rfl ?_
    refine r_getR f_X10_76 dX10_count_52 rfl rfl ?_
    refine r_getI f_X10_80 dX10_count_55 rfl rfl ?_
    refine r_iret (by first | rfl | decide) dX10_count_58 ?_
    obtain rfl := Option.some.inj h
    exact ⟨rfl, rfl, rfl⟩
  rw [if_neg c0] at h
  by_cases c1 : a1 = 1
  · rw [if_pos c1] at h
    refine r_tabIn (tgt := 59) (off := 58) dX10_count_1 (by rw [c1]; decide) (by rw [c1]; decide) (by rw [c1]; rfl) (by decide) ?_
    refine r_aload_n (i := 0) dX10_count_59 rfl rfl ?_
    refine r_getR f_X10_10 dX10_count_60 rfl rfl ?_
    refine r_getR f_X10_76 dX10_count_63 rfl rfl ?_
    refine r_getI f_X10_102 dX10_count_66 rfl rfl ?_
    refine r_iret (by first | rfl | decide) dX10_count_69 ?_
    obtain rfl := Option.some.inj h
    exact ⟨rfl, rfl, rfl⟩
  rw [if_neg c1] at h
  by_cases c2 : a1 = 2
  · rw [if_pos c2] at h
    refine r_tabIn (tgt := 70) (off := 69) dX10_count_1 (by rw [c2]; decide) (by rw [c2]; decide) (by rw [c2]; rfl) (by decide) ?_
    refine r_aload_n (i := 0) dX10_count_70 rfl rfl ?_
    refine r_getR f_X10_10 dX10_count_71 rfl rfl ?_
    refine r_getI f_X10_115 dX10_count_74 rfl rfl ?_
    refine r_iret (by first | rfl | decide) dX10_count_77 ?_
    obtain rfl := Option.some.inj h
    exact ⟨rfl, rfl, rfl⟩
  rw [if_neg c2] at h
  by_cases c3 : a1 = 3
  · rw [if_pos c3] at h
    refine r_tabIn (tgt := 78) (off := 77) dX10_count_1 (by rw [c3]; decide) (by rw [c3]; decide) (by rw [c3]; rfl) (by decide) ?_
    refine r_aload_n (i := 0) dX10_count_78 rfl rfl ?_
    refine r_getR f_X10_10 dX10_count_79 rfl rfl ?_
    refine r_getI f_X10_122 dX10_count_82 rfl rfl ?_
    refine r_iret (by first | rfl | decide) dX10_count_85 ?_
    obtain rfl := Option.some.inj h
    exact ⟨rfl, rfl, rfl⟩
  rw [if_neg c3] at h
  by_cases c4 : a1 = 4
  · rw [if_pos c4] at h
    refine r_tabIn (tgt := 86) (off := 85) dX10_count_1 (by rw [c4]; decide) (by rw [c4]; decide) (by rw [c4]; rfl) (by decide) ?_
    refine r_aload_n (i := 0) dX10_count_86 rfl rfl ?_
    refine r_getR f_X10_10 dX10_count_87 rfl rfl ?_
    refine r_getI f_X10_137 dX10_count_90 rfl rfl ?_
    refine r_iret (by first | rfl | decide) dX10_count_93 ?_
    obtain rfl := Option.some.inj h
    exact ⟨rfl, rfl, rfl⟩
  rw [if_neg c4] at h
  by_cases c5 : a1 = 5
  · rw [if_pos c5] at h
    refine r_tabIn (tgt := 94) (off := 93) dX10_count_1 (by rw [c5]; decide) (by rw [c5]; decide) (by rw [c5]; rfl) (by decide) ?_
    refine r_aload_n (i := 0) dX10_count_94 rfl rfl ?_
    refine r_getR f_X10_10 dX10_count_95 rfl rfl ?_
    refine r_getI f_X10_197 dX10_count_98 rfl rfl ?_
    refine r_iret (by first | rfl | decide) dX10_count_101 ?_
    obtain rfl := Option.some.inj h
    exact ⟨rfl, rfl, rfl⟩
  rw [if_neg c5] at h
  by_cases c6 : a1 = 6
  · rw [if_pos c6] at h
    refine r_tabIn (tgt := 102) (off := 101) dX10_count_1 (by rw [c6]; decide) (by rw [c6]; decide) (by rw [c6]; rfl) (by decide) ?_
    refine r_aload_n (i := 0) dX10_count_102 rfl rfl ?_
    refine r_getR f_X10_10 dX10_count_103 rfl rfl ?_
    obtain ⟨r1, hr, h⟩ := bind_some h
    refine r_V (d' := 1) k_X10_200 dX10_count_106 (by omega) rfl rfl rfl (Nat.le_of_ble_eq_true rfl) (Nat.le_of_ble_eq_true rfl) (ok_X7_season_1 (Nat.le_refl _) hr) (fun v I' L' hq => ?_)
    obtain ⟨rfl, rfl, rfl⟩ := hq
    simp only [Option.toList_some, Option.toList_none, List.drop_succ_cons, List.drop_zero, List.drop_nil, List.cons_append, List.nil_append]
    refine r_iret (by first | rfl | decide) dX10_count_109 ?_
    obtain rfl := Option.some.inj h
    exact ⟨rfl, rfl, rfl⟩
  rw [if_neg c6] at h
  by_cases c7 : a1 = 7
  · rw [if_pos c7] at h
    refine r_tabIn (tgt := 110) (off := 109) dX10_count_1 (by rw [c7]; decide) (by rw [c7]; decide) (by rw [c7]; rfl) (by decide) ?_
    refine r_aload_n (i := 0) dX10_count_110 rfl rfl ?_
    refine r_getR f_X10_10 dX10_count_111 rfl rfl ?_
    obtain ⟨r2, hr, h⟩ := bind_some h
    refine r_V (d' := 0) k_X10_204 dX10_count_114 (by omega) rfl rfl rfl (Nat.le_of_ble_eq_true rfl) (Nat.le_of_ble_eq_true rfl) (ok_X7_hanging_1 (Nat.le_refl _) hr) (fun v I' L' hq => ?_)
    obtain ⟨rfl, rfl, rfl⟩ := hq
    simp only [Option.toList_some, Option.toList_none, List.drop_succ_cons, List.drop_zero, List.drop_nil, List.cons_append, List.nil_append]
    refine r_iret (by first | rfl | decide) dX10_count_117 ?_
    obtain rfl := Option.some.inj h
    exact ⟨rfl, rfl, rfl⟩
  rw [if_neg c7] at h
  refine r_tabOut (tgt := 118) dX10_count_1 (by have := lv_neT c0 (a := 0) (by decide); have := lv_neT c1 (a := 1) (by decide); have := lv_neT c2 (a := 2) (by decide); have := lv_neT c3 (a := 3) (by decide); have := lv_neT c4 (a := 4) (by decide); have := lv_neT c5 (a := 5) (by decide); have := lv_neT c6 (a := 6) (by decide); have := lv_neT c7 (a := 7) (by decide); omega) (by decide) ?_
  refine r_iconst (v := (-1)) dX10_count_118 (by decide) ?_
  refine r_iret (by first | rfl | decide) dX10_count_119 ?_
  obtain rfl := Option.some.inj h
  exact ⟨rfl, rfl, rfl⟩
def f_X7_lighterParish_1_l25 (I : mI) (L : mL) : Nat → Int32 → Int32 → Int32 → Int32 → Int32 → Option Int32
  | 0, _, _, _, _, _ => none
  | n + 1, x1, x2, x3, x4, x5 => if (I 2 6) ≤ x5 then (some x3) else ((f_X3_otherEnd_2 I L x5 x2).bind (fun r3 => if r3 < 0 then (lt (x5 + Int32.ofInt 1) (fun v4 => f_X7_lighterParish_1_l25 I L n x1 x2 x3 x4 v4)) else (ck (inb x1 6) ((f_X7_weightAt_1 I L r3 (I 14 x1.toNatClampNeg)).bind (fun r5 => if r5 < x4 then (lt (x5 + Int32.ofInt 1) (fun v6 => f_X7_lighterParish_1_l25 I L n x1 x2 r3 r5 v6)) else (if r5 = x4 then (if x3 = x2 then (lt (x5 + Int32.ofInt 1) (fun v8 => f_X7_lighterParish_1_l25 I L n x1 x2 x3 x4 v8)) else (if x3 ≤ r3 then (lt (x5 + Int32.ofInt 1) (fun v9 => f_X7_lighterParish_1_l25 I L n x1 x2 x3 x4 v9)) else (lt (x5 + Int32.ofInt 1) (fun v10 => f_X7_lighterParish_1_l25 I L n x1 x2 r3 r5 v10)))) else (lt (x5 + Int32.ofInt 1) (fun v7 => f_X7_lighterParish_1_l25 I L n x1 x2 x3 x4 v7))))))))
theorem ok_X7_lighterParish_1_l25 {d : Nat} (hd : 3 ≤ d){I : mI} {L : mL} : ∀ (n : Nat) (x1 : Int32) (x2 : Int32) (x3 : Int32) (x4 : Int32) (x5 : Int32) (o : Int32), f_X7_lighterParish_1_l25 I L n x1 x2 x3 x4 x5 = some o → RR mX7_lighterParish d 25 [some (.ref 1), some (.int x1), some (.int x2), some (.int x3), some (.int x4), some (.int x5), none, none] [] I L (retQ (some (.int o)) I L) := by
  intro n
  induction n with
  | zero => intro x1 x2 x3 x4 x5 o h; rw [f_X7_lighterParish_1_l25] at h; cases h
  | succ n ih =>
    intro x1 x2 x3 x4 x5 o h
    rw [f_X7_lighterParish_1_l25] at h
    refine r_iload dX7_lighterParish_25 rfl ?_
    refine r_aload_n (i := 0) dX7_lighterParish_27 rfl rfl ?_
    refine r_getR f_X7_12 dX7_lighterParish_28 rfl rfl ?_
    refine r_getI f_X7_84 dX7_lighterParish_31 rfl rfl ?_
    refine r_icmp_ge (tgt := 106) dX7_lighterParish_34 (by decide) (fun c => ?_) (fun c => ?_)
    · rw [if_pos c] at h
      refine r_iload_n (i := 3) dX7_lighterParish_106 rfl rfl ?_
      refine r_iret (by first | rfl | decide) dX7_lighterParish_107 ?_
      obtain rfl := Option.some.inj h
      exact ⟨rfl, rfl, rfl⟩
    · rw [if_neg c] at h
      refine r_aload_n (i := 0) dX7_lighterParish_37 rfl rfl ?_
      refine r_getR f_X7_12 dX7_lighterParish_38 rfl rfl ?_
      refine r_iload dX7_lighterParish_41 rfl ?_
      refine r_iload_n (i := 2) dX7_lighterParish_43 rfl rfl ?_
      obtain ⟨r3, hr, h⟩ := bind_some h
      refine r_V (d' := 0) k_X7_87 dX7_lighterParish_44 (by omega) rfl rfl rfl (Nat.le_of_ble_eq_true rfl) (Nat.le_of_ble_eq_true rfl) (ok_X3_otherEnd_2 (Nat.le_refl _) hr) (fun v I' L' hq => ?_)
      obtain ⟨rfl, rfl, rfl⟩ := hq
      simp only [Option.toList_some, Option.toList_none, List.drop_succ_cons, List.drop_zero, List.drop_nil, List.cons_append, List.nil_append]
      refine r_istore dX7_lighterParish_47 (by decide) rfl ?_
      simp only [List.set_cons_zero, List.set_cons_succ]
      refine r_iload dX7_lighterParish_49 rfl ?_
      refine r_if_lt (tgt := 100) dX7_lighterParish_51 (by decide) (fun c => ?_) (fun c => ?_)
      · rw [if_pos c] at h
        refine r_iinc (v := _) dX7_lighterParish_100 rfl rfl (by decide) rfl ?_
        simp only [List.set_cons_zero, List.set_cons_succ]
        replace h := lt_some h
        refine r_goto (tgt := 25) dX7_lighterParish_103 (by decide) ?_
        exact RR.wk (ih _ _ _ _ _ _ h) (And.intro rfl (And.intro rfl (And.intro rfl (And.intro rfl (And.intro rfl (And.intro rfl (trivial)))))))
      · rw [if_neg c] at h
        refine r_aload_n (i := 0) dX7_lighterParish_54 rfl rfl ?_
        refine r_iload dX7_lighterParish_55 rfl ?_
        refine r_aload_n (i := 0) dX7_lighterParish_57 rfl rfl ?_
        refine r_getR f_X7_37 dX7_lighterParish_58 rfl rfl ?_
        refine r_iload_n (i := 1) dX7_lighterParish_61 rfl rfl ?_
        obtain ⟨hb, h⟩ := ck_some h
        refine r_iald rfl (inb_vp hb) dX7_lighterParish_62 ?_
        obtain ⟨r5, hr, h⟩ := bind_some h
        refine r_V (d' := 2) k_X7_65 dX7_lighterParish_63 (by omega) rfl rfl rfl (Nat.le_of_ble_eq_true rfl) (Nat.le_of_ble_eq_true rfl) (ok_X7_weightAt_1 (Nat.le_refl _) hr) (fun v I' L' hq => ?_)
        obtain ⟨rfl, rfl, rfl⟩ := hq
        simp only [Option.toList_some, Option.toList_none, List.drop_succ_cons, List.drop_zero, List.drop_nil, List.cons_append, List.nil_append]
        refine r_istore dX7_lighterParish_66 (by decide) rfl ?_
        simp only [List.set_cons_zero, List.set_cons_succ]
        refine r_iload dX7_lighterParish_68 rfl ?_
        refine r_iload dX7_lighterParish_70 rfl ?_
        refine r_icmp_lt (tgt := 93) dX7_lighterParish_72 (by decide) (fun c => ?_) (fun c => ?_)
        · rw [if_pos c] at h
          refine r_iload dX7_lighterParish_93 rfl ?_
          refine r_istore_n (i := 3) dX7_lighterParish_95 rfl (by decide) rfl ?_
          simp only [List.set_cons_zero, List.set_cons_succ]
          refine r_iload dX7_lighterParish_96 rfl ?_
          refine r_istore dX7_lighterParish_98 (by decide) rfl ?_
          simp only [List.set_cons_zero, List.set_cons_succ]
          refine r_iinc (v := _) dX7_lighterParish_100 rfl rfl (by decide) rfl ?_
          simp only [List.set_cons_zero, List.set_cons_succ]
          replace h := lt_some h
          refine r_goto (tgt := 25) dX7_lighterParish_103 (by decide) ?_
          exact RR.wk (ih _ _ _ _ _ _ h) (And.intro rfl (And.intro rfl (And.intro rfl (And.intro rfl (And.intro rfl (And.intro rfl (trivial)))))))
        · rw [if_neg c] at h
          refine r_iload dX7_lighterParish_75 rfl ?_
          refine r_iload dX7_lighterParish_77 rfl ?_
          refine r_icmp_ne (tgt := 100) dX7_lighterParish_79 (by decide) (fun c => ?_) (fun c => ?_)
          · rw [if_neg c] at h
            refine r_iinc (v := _) dX7_lighterParish_100 rfl rfl (by decide) rfl ?_
            simp only [List.set_cons_zero, List.set_cons_succ]
            replace h := lt_some h
            refine r_goto (tgt := 25) dX7_lighterParish_103 (by decide) ?_
            exact RR.wk (ih _ _ _ _ _ _ h) (And.intro rfl (And.intro rfl (And.intro rfl (And.intro rfl (And.intro rfl (And.intro rfl (trivial)))))))
          · rw [if_pos c] at h
            refine r_iload_n (i := 3) dX7_lighterParish_82 rfl rfl ?_
            refine r_iload_n (i := 2) dX7_lighterParish_83 rfl rfl ?_
            refine r_icmp_eq (tgt := 100) dX7_lighterParish_84 (by decide) (fun c => ?_) (fun c => ?_)
            · rw [if_pos c] at h
              refine r_iinc (v := _) dX7_lighterParish_100 rfl rfl (by decide) rfl ?_
              simp only [List.set_cons_zero, List.set_cons_succ]
              replace h := lt_some h
              refine r_goto (tgt := 25) dX7_lighterParish_103 (by decide) ?_
              exact RR.wk (ih _ _ _ _ _ _ h) (And.intro rfl (And.intro rfl (And.intro rfl (And.intro rfl (And.intro rfl (And.intro rfl (trivial)))))))
            · rw [if_neg c] at h
              refine r_iload dX7_lighterParish_87 rfl ?_
              refine r_iload_n (i := 3) dX7_lighterParish_89 rfl rfl ?_
              refine r_icmp_ge (tgt := 100) dX7_lighterParish_90 (by decide) (fun c => ?_) (fun c => ?_)
              · rw [if_pos c] at h
                refine r_iinc (v := _) dX7_lighterParish_100 rfl rfl (by decide) rfl ?_
                simp only [List.set_cons_zero, List.set_cons_succ]
                replace h := lt_some h
                refine r_goto (tgt := 25) dX7_lighterParish_103 (by decide) ?_
                exact RR.wk (ih _ _ _ _ _ _ h) (And.intro rfl (And.intro rfl (And.intro rfl (And.intro rfl (And.intro rfl (And.intro rfl (trivial)))))))
              · rw [if_neg c] at h
                refine r_iload dX7_lighterParish_93 rfl ?_
                refine r_istore_n (i := 3) dX7_lighterParish_95 rfl (by decide) rfl ?_
                simp only [List.set_cons_zero, List.set_cons_succ]
                refine r_iload dX7_lighterParish_96 rfl ?_
                refine r_istore dX7_lighterParish_98 (by decide) rfl ?_
                simp only [List.set_cons_zero, List.set_cons_succ]
                refine r_iinc (v := _) dX7_lighterParish_100 rfl rfl (by decide) rfl ?_
                simp only [List.set_cons_zero, List.set_cons_succ]
                replace h := lt_some h
                refine r_goto (tgt := 25) dX7_lighterParish_103 (by decide) ?_
                exact RR.wk (ih _ _ _ _ _ _ h) (And.intro rfl (And.intro rfl (And.intro rfl (And.intro rfl (And.intro rfl (And.intro rfl (trivial)))))))
def f_X7_lighterParish_1 (I : mI) (L : mL) (a1 : Int32) : Option Int32 := ck (inb a1 6) (lt (I 15 a1.toNatClampNeg) (fun v1 => ck (inb a1 6) ((f_X7_weightAt_1 I L v1 (I 14 a1.toNatClampNeg)).bind (fun r2 => f_X7_lighterParish_1_l25 I L fuel a1 v1 v1 r2 0))))
theorem ok_X7_lighterParish_1 {d : Nat} (hd : 3 ≤ d) {I : mI} {L : mL} {a1 : Int32} {o : Int32} (h : f_X7_lighterParish_1 I L a1 = some o) : RR mX7_lighterParish d 0 [some (.ref 1), some (.int a1), none, none, none, none, none, none] [] I L (retQ (some (.int o)) I L) := by
  unfold f_X7_lighterParish_1 at h
  refine r_aload_n (i := 0) dX7_lighterParish_0 rfl rfl ?_
  refine r_getR f_X7_40 dX7_lighterParish_1 rfl rfl ?_
  refine r_iload_n (i := 1) dX7_lighterParish_4 rfl rfl ?_
  obtain ⟨hb, h⟩ := ck_some h
  refine r_iald rfl (inb_vp hb) dX7_lighterParish_5 ?_
  refine r_istore_n (i := 2) dX7_lighterParish_6 rfl (by decide) rfl ?_
  simp only [List.set_cons_zero, List.set_cons_succ]
  replace h := lt_some h
  refine r_iload_n (i := 2) dX7_lighterParish_7 rfl rfl ?_
  refine r_istore_n (i := 3) dX7_lighterParish_8 rfl (by decide) rfl ?_
  simp only [List.set_cons_zero, List.set_cons_succ]
  refine r_aload_n (i := 0) dX7_lighterParish_9 rfl rfl ?_
  refine r_iload_n (i := 2) dX7_lighterParish_10 rfl rfl ?_
  refine r_aload_n (i := 0) dX7_lighterParish_11 rfl rfl ?_
  refine r_getR f_X7_37 dX7_lighterParish_12 rfl rfl ?_
  refine r_iload_n (i := 1) dX7_lighterParish_15 rfl rfl ?_
  obtain ⟨hb, h⟩ := ck_some h
  refine r_iald rfl (inb_vp hb) dX7_lighterParish_16 ?_
  obtain ⟨r2, hr, h⟩ := bind_some h
  refine r_V (d' := 2) k_X7_65 dX7_lighterParish_17 (by omega) rfl rfl rfl (Nat.le_of_ble_eq_true rfl) (Nat.le_of_ble_eq_true rfl) (ok_X7_weightAt_1 (Nat.le_refl _) hr) (fun v I' L' hq => ?_)
  obtain ⟨rfl, rfl, rfl⟩ := hq
  simp only [Option.toList_some, Option.toList_none, List.drop_succ_cons, List.drop_zero, List.drop_nil, List.cons_append, List.nil_append]
  refine r_istore dX7_lighterParish_20 (by decide) rfl ?_
  simp only [List.set_cons_zero, List.set_cons_succ]
  refine r_iconst (v := 0) dX7_lighterParish_22 (by decide) ?_
  refine r_istore dX7_lighterParish_23 (by decide) rfl ?_
  simp only [List.set_cons_zero, List.set_cons_succ]
  exact RR.wk (ok_X7_lighterParish_1_l25 hd _ _ _ _ _ _ _ h) (And.intro rfl (And.intro rfl (And.intro rfl (And.intro rfl (And.intro rfl (And.intro rfl (trivial)))))))
def f_X7_passWeek_1_l56 : Nat → Int32 → Int32 → mI → mL → rI
  | 0, _, _, _, _ => none
  | n + 1, x1, x2, I, L => if (I 1 10) ≤ x2 then (some (x1, I, L)) else (ck (inb x2 6) (if (I 13 x2.toNatClampNeg) ≤ 0 then (lt (x2 + Int32.ofInt 1) (fun v2 => f_X7_passWeek_1_l56 n x1 v2 I L)) else ((f_X7_weightOfGood_1 I L x2).bind (fun r3 => ck (inb x2 6) (if r3 ≤ (I 13 x2.toNatClampNeg) then (lt (x2 + Int32.ofInt 1) (fun v4 => f_X7_passWeek_1_l56 n x1 v4 I L)) else (ck (inb x2 6) (lt (uI I 13 x2.toNatClampNeg 0) (fun M5 => lt (x1 + Int32.ofInt 1) (fun v6 => lt (x2 + Int32.ofInt 1) (fun v7 => f_X7_passWeek_1_l56 n v6 v7 M5 L))))))))))
theorem ok_X7_passWeek_1_l56 {d : Nat} (hd : 4 ≤ d) : ∀ (n : Nat) (x1 : Int32) (x2 : Int32) (I : mI) (L : mL) (o : Int32 × mI × mL), f_X7_passWeek_1_l56 n x1 x2 I L = some o → RR mX7_passWeek d 56 [some (.ref 1), some (.int x1), some (.int x2), none] [] I L (retQ (some (.int o.1)) o.2.1 o.2.2) := by
  intro n
  induction n with
  | zero => intro x1 x2 I L o h; rw [f_X7_passWeek_1_l56] at h; cases h
  | succ n ih =>
    intro x1 x2 I L o h
    rw [f_X7_passWeek_1_l56] at h
    refine r_iload_n (i := 2) dX7_passWeek_56 rfl rfl ?_
    refine r_aload_n (i := 0) dX7_passWeek_57 rfl rfl ?_
    refine r_getI f_X7_72 dX7_passWeek_58 rfl rfl ?_
    refine r_icmp_ge (tgt := 103) dX7_passWeek_61 (by decide) (fun c => ?_) (fun c => ?_)
    · rw [if_pos c] at h
      refine r_iload_n (i := 1) dX7_passWeek_103 rfl rfl ?_
      refine r_iret (by first | rfl | decide) dX7_passWeek_104 ?_
      obtain rfl := Option.some.inj h
      exact ⟨rfl, rfl, rfl⟩
    · rw [if_neg c] at h
      refine r_aload_n (i := 0) dX7_passWeek_64 rfl rfl ?_
      refine r_getR f_X7_34 dX7_passWeek_65 rfl rfl ?_
      refine r_iload_n (i := 2) dX7_passWeek_68 rfl rfl ?_
      obtain ⟨hb, h⟩ := ck_some h
      refine r_iald rfl (inb_vp hb) dX7_passWeek_69 ?_
      refine r_if_le (tgt := 97) dX7_passWeek_70 (by decide) (fun c => ?_) (fun c => ?_)
      · rw [if_pos c] at h
        refine r_iinc (v := _) dX7_passWeek_97 rfl rfl (by decide) rfl ?_
        simp only [List.set_cons_zero, List.set_cons_succ]
        replace h := lt_some h
        refine r_goto (tgt := 56) dX7_passWeek_100 (by decide) ?_
        exact RR.wk (ih _ _ _ _ _ h) (And.intro rfl (And.intro rfl (And.intro rfl (trivial))))
      · rw [if_neg c] at h
        refine r_aload_n (i := 0) dX7_passWeek_73 rfl rfl ?_
        refine r_iload_n (i := 2) dX7_passWeek_74 rfl rfl ?_
        obtain ⟨r3, hr, h⟩ := bind_some h
        refine r_V (d' := 3) k_X7_81 dX7_passWeek_75 (by omega) rfl rfl rfl (Nat.le_of_ble_eq_true rfl) (Nat.le_of_ble_eq_true rfl) (ok_X7_weightOfGood_1 (Nat.le_refl _) hr) (fun v I' L' hq => ?_)
        obtain ⟨rfl, rfl, rfl⟩ := hq
        simp only [Option.toList_some, Option.toList_none, List.drop_succ_cons, List.drop_zero, List.drop_nil, List.cons_append, List.nil_append]
        refine r_aload_n (i := 0) dX7_passWeek_78 rfl rfl ?_
        refine r_getR f_X7_34 dX7_passWeek_79 rfl rfl ?_
        refine r_iload_n (i := 2) dX7_passWeek_82 rfl rfl ?_
        obtain ⟨hb, h⟩ := ck_some h
        refine r_iald rfl (inb_vp hb) dX7_passWeek_83 ?_
        refine r_icmp_le (tgt := 97) dX7_passWeek_84 (by decide) (fun c => ?_) (fun c => ?_)
        · rw [if_pos c] at h
          refine r_iinc (v := _) dX7_passWeek_97 rfl rfl (by decide) rfl ?_
          simp only [List.set_cons_zero, List.set_cons_succ]
          replace h := lt_some h
          refine r_goto (tgt := 56) dX7_passWeek_100 (by decide) ?_
          exact RR.wk (ih _ _ _ _ _ h) (And.intro rfl (And.intro rfl (And.intro rfl (trivial))))
        · rw [if_neg c] at h
          refine r_aload_n (i := 0) dX7_passWeek_87 rfl rfl ?_
          refine r_getR f_X7_34 dX7_passWeek_88 rfl rfl ?_
          refine r_iload_n (i := 2) dX7_passWeek_91 rfl rfl ?_
          refine r_iconst (v := 0) dX7_passWeek_92 (by decide) ?_
          obtain ⟨hb, h⟩ := ck_some h
          refine r_iast rfl (inb_vp hb) dX7_passWeek_93 ?_
          replace h := lt_some h
          refine r_iinc (v := _) dX7_passWeek_94 rfl rfl (by decide) rfl ?_
          simp only [List.set_cons_zero, List.set_cons_succ]
          replace h := lt_some h
          refine r_iinc (v := _) dX7_passWeek_97 rfl rfl (by decide) rfl ?_
          simp only [List.set_cons_zero, List.set_cons_succ]
          replace h := lt_some h
          refine r_goto (tgt := 56) dX7_passWeek_100 (by decide) ?_
          exact RR.wk (ih _ _ _ _ _ h) (And.intro rfl (And.intro rfl (And.intro rfl (trivial))))
def f_X7_passWeek_1_l14 : Nat → Int32 → Int32 → mI → mL → rI
  | 0, _, _, _, _ => none
  | n + 1, x1, x2, I, L => if (I 1 11) ≤ x2 then (f_X7_passWeek_1_l56 fuel x1 0 I L) else ((f_X7_lighterParish_1 I L x2).bind (fun r8 => ck (inb x2 6) (if r8 = (I 15 x2.toNatClampNeg) then (lt (x2 + Int32.ofInt 1) (fun v9 => f_X7_passWeek_1_l14 n x1 v9 I L)) else (ck (inb x2 6) (lt (uI I 15 x2.toNatClampNeg r8) (fun M10 => lt (x1 + Int32.ofInt 100) (fun v11 => lt (x2 + Int32.ofInt 1) (fun v12 => f_X7_passWeek_1_l14 n v11 v12 M10 L))))))))
theorem ok_X7_passWeek_1_l14 {d : Nat} (hd : 4 ≤ d) : ∀ (n : Nat) (x1 : Int32) (x2 : Int32) (I : mI) (L : mL) (o : Int32 × mI × mL), f_X7_passWeek_1_l14 n x1 x2 I L = some o → RR mX7_passWeek d 14 [some (.ref 1), some (.int x1), some (.int x2), none] [] I L (retQ (some (.int o.1)) o.2.1 o.2.2) := by
  intro n
  induction n with
  | zero => intro x1 x2 I L o h; rw [f_X7_passWeek_1_l14] at h; cases h
  | succ n ih =>
    intro x1 x2 I L o h
    rw [f_X7_passWeek_1_l14] at h
    refine r_iload_n (i := 2) dX7_passWeek_14 rfl rfl ?_
    refine r_aload_n (i := 0) dX7_passWeek_15 rfl rfl ?_
    refine r_getI f_X7_75 dX7_passWeek_16 rfl rfl ?_
    refine r_icmp_ge (tgt := 54) dX7_passWeek_19 (by decide) (fun c => ?_) (fun c => ?_)
    · rw [if_pos c] at h
      refine r_iconst (v := 0) dX7_passWeek_54 (by decide) ?_
      refine r_istore_n (i := 2) dX7_passWeek_55 rfl (by decide) rfl ?_
      simp only [List.set_cons_zero, List.set_cons_succ]
      exact RR.wk (ok_X7_passWeek_1_l56 hd _ _ _ _ _ _ h) (And.intro rfl (And.intro rfl (And.intro rfl (trivial))))
    · rw [if_neg c] at h
      refine r_aload_n (i := 0) dX7_passWeek_22 rfl rfl ?_
      refine r_iload_n (i := 2) dX7_passWeek_23 rfl rfl ?_
      obtain ⟨r8, hr, h⟩ := bind_some h
      refine r_V (d' := 3) k_X7_78 dX7_passWeek_24 (by omega) rfl rfl rfl (Nat.le_of_ble_eq_true rfl) (Nat.le_of_ble_eq_true rfl) (ok_X7_lighterParish_1 (Nat.le_refl _) hr) (fun v I' L' hq => ?_)
      obtain ⟨rfl, rfl, rfl⟩ := hq
      simp only [Option.toList_some, Option.toList_none, List.drop_succ_cons, List.drop_zero, List.drop_nil, List.cons_append, List.nil_append]
      refine r_istore_n (i := 3) dX7_passWeek_27 rfl (by decide) rfl ?_
      simp only [List.set_cons_zero, List.set_cons_succ]
      refine r_iload_n (i := 3) dX7_passWeek_28 rfl rfl ?_
      refine r_aload_n (i := 0) dX7_passWeek_29 rfl rfl ?_
      refine r_getR f_X7_40 dX7_passWeek_30 rfl rfl ?_
      refine r_iload_n (i := 2) dX7_passWeek_33 rfl rfl ?_
      obtain ⟨hb, h⟩ := ck_some h
      refine r_iald rfl (inb_vp hb) dX7_passWeek_34 ?_
      refine r_icmp_eq (tgt := 48) dX7_passWeek_35 (by decide) (fun c => ?_) (fun c => ?_)
      · rw [if_pos c] at h
        refine r_iinc (v := _) dX7_passWeek_48 rfl rfl (by decide) rfl ?_
        simp only [List.set_cons_zero, List.set_cons_succ]
        replace h := lt_some h
        refine r_goto (tgt := 14) dX7_passWeek_51 (by decide) ?_
        exact RR.wk (ih _ _ _ _ _ h) (And.intro rfl (And.intro rfl (And.intro rfl (trivial))))
      · rw [if_neg c] at h
        refine r_aload_n (i := 0) dX7_passWeek_38 rfl rfl ?_
        refine r_getR f_X7_40 dX7_passWeek_39 rfl rfl ?_
        refine r_iload_n (i := 2) dX7_passWeek_42 rfl rfl ?_
        refine r_iload_n (i := 3) dX7_passWeek_43 rfl rfl ?_
        obtain ⟨hb, h⟩ := ck_some h
        refine r_iast rfl (inb_vp hb) dX7_passWeek_44 ?_
        replace h := lt_some h
        refine r_iinc (v := _) dX7_passWeek_45 rfl rfl (by decide) rfl ?_
        simp only [List.set_cons_zero, List.set_cons_succ]
        replace h := lt_some h
        refine r_iinc (v := _) dX7_passWeek_48 rfl rfl (by decide) rfl ?_
        simp only [List.set_cons_zero, List.set_cons_succ]
        replace h := lt_some h
        refine r_goto (tgt := 14) dX7_passWeek_51 (by decide) ?_
        exact RR.wk (ih _ _ _ _ _ h) (And.intro rfl (And.intro rfl (And.intro rfl (trivial))))
def f_X7_passWeek_1 (I : mI) (L : mL) : rI := lt (uI I 1 12 ((I 1 12) + 1)) (fun M1 => f_X7_passWeek_1_l14 fuel 0 0 M1 L)
theorem ok_X7_passWeek_1 {d : Nat} (hd : 4 ≤ d) {I : mI} {L : mL} {o : Int32 × mI × mL} (h : f_X7_passWeek_1 I L = some o) : RR mX7_passWeek d 0 [some (.ref 1), none, none, none] [] I L (retQ (some (.int o.1)) o.2.1 o.2.2) := by
  unfold f_X7_passWeek_1 at h
  refine r_aload_n (i := 0) dX7_passWeek_0 rfl rfl ?_
  refine r_dup dX7_passWeek_1 rfl ?_
  refine r_getI f_X7_43 dX7_passWeek_2 rfl rfl ?_
  refine r_iconst (v := 1) dX7_passWeek_5 (by decide) ?_
  refine r_iadd dX7_passWeek_6 ?_
  refine r_putI f_X7_43 rfl rfl dX7_passWeek_7 rfl rfl ?_
  replace h := lt_some h
  refine r_iconst (v := 0) dX7_passWeek_10 (by decide) ?_
  refine r_istore_n (i := 1) dX7_passWeek_11 rfl (by decide) rfl ?_
  simp only [List.set_cons_zero, List.set_cons_succ]
  refine r_iconst (v := 0) dX7_passWeek_12 (by decide) ?_
  refine r_istore_n (i := 2) dX7_passWeek_13 rfl (by decide) rfl ?_
  simp only [List.set_cons_zero, List.set_cons_succ]
  exact RR.wk (ok_X7_passWeek_1_l14 hd _ _ _ _ _ _ h) (And.intro rfl (And.intro rfl (And.intro rfl (trivial))))
def f_X10_weeks_0_l34 : Nat → Int32 → Int32 → Int32 → mI → mL → rI
  | 0, _, _, _, _, _ => none
  | n + 1, x1, x2, x3, I, L => if x1 ≤ x3 then (some (x2, I, L)) else (bndI (f_X7_passWeek_1 I L) (fun r2 Ir2 Lr2 => lt (x2 + r2) (fun v4 => lt (x3 + Int32.ofInt 1) (fun v5 => f_X10_weeks_0_l34 n x1 v4 v5 Ir2 Lr2))))
theorem ok_X10_weeks_0_l34 {d : Nat} (hd : 5 ≤ d) : ∀ (n : Nat) (x1 : Int32) (x2 : Int32) (x3 : Int32) (I : mI) (L : mL) (o : Int32 × mI × mL), f_X10_weeks_0_l34 n x1 x2 x3 I L = some o → RR mX10_weeks d 34 [some (.ref 0), some (.int x1), some (.int x2), some (.int x3)] [] I L (retQ (some (.int o.1)) o.2.1 o.2.2) := by
  intro n
  induction n with
  | zero => intro x1 x2 x3 I L o h; rw [f_X10_weeks_0_l34] at h; cases h
  | succ n ih =>
    intro x1 x2 x3 I L o h
    rw [f_X10_weeks_0_l34] at h
    refine r_iload_n (i := 3) dX10_weeks_34 rfl rfl ?_
    refine r_iload_n (i := 1) dX10_weeks_35 rfl rfl ?_
    refine r_icmp_ge (tgt := 55) dX10_weeks_36 (by decide) (fun c => ?_) (fun c => ?_)
    · rw [if_pos c] at h
      refine r_iload_n (i := 2) dX10_weeks_55 rfl rfl ?_
      refine r_iret (by first | rfl | decide) dX10_weeks_56 ?_
      obtain rfl := Option.some.inj h
      exact ⟨rfl, rfl, rfl⟩
    · rw [if_neg c] at h
      refine r_iload_n (i := 2) dX10_weeks_39 rfl rfl ?_
      refine r_aload_n (i := 0) dX10_weeks_40 rfl rfl ?_
      refine r_getR f_X10_10 dX10_weeks_41 rfl rfl ?_
      obtain ⟨⟨r2, Ir2, Lr2⟩, hr, h⟩ := bind_some h
      refine r_V (d' := 4) k_X10_207 dX10_weeks_44 (by omega) rfl rfl rfl (Nat.le_of_ble_eq_true rfl) (Nat.le_of_ble_eq_true rfl) (ok_X7_passWeek_1 (Nat.le_refl _) hr) (fun v I' L' hq => ?_)
      obtain ⟨rfl, rfl, rfl⟩ := hq
      simp only [Option.toList_some, Option.toList_none, List.drop_succ_cons, List.drop_zero, List.drop_nil, List.cons_append, List.nil_append]
      dsimp only at h
      refine r_iadd dX10_weeks_47 ?_
      refine r_istore_n (i := 2) dX10_weeks_48 rfl (by decide) rfl ?_
      simp only [List.set_cons_zero, List.set_cons_succ]
      replace h := lt_some h
      refine r_iinc (v := _) dX10_weeks_49 rfl rfl (by decide) rfl ?_
      simp only [List.set_cons_zero, List.set_cons_succ]
      replace h := lt_some h
      refine r_goto (tgt := 34) dX10_weeks_52 (by decide) ?_
      exact RR.wk (ih _ _ _ _ _ _ h) (And.intro rfl (And.intro rfl (And.intro rfl (And.intro rfl (trivial)))))
def f_X10_weeks_0 (I : mI) (L : mL) (a1 : Int32) : rI := (f_X10_within I L a1 1 52).bind (fun r1 => if r1 = 0 then (some ((-1), I, L)) else (if ((I 1 12) + a1) ≤ 9999 then (f_X10_weeks_0_l34 fuel a1 0 0 I L) else (some ((-3), I, L))))
theorem ok_X10_weeks_0 {d : Nat} (hd : 5 ≤ d) {I : mI} {L : mL} {a1 : Int32} {o : Int32 × mI × mL} (h : f_X10_weeks_0 I L a1 = some o) : RR mX10_weeks d 0 [some (.ref 0), some (.int a1), none, none] [] I L (retQ (some (.int o.1)) o.2.1 o.2.2) := by
  unfold f_X10_weeks_0 at h
  refine r_iload_n (i := 1) dX10_weeks_0 rfl rfl ?_
  refine r_iconst (v := 1) dX10_weeks_1 (by decide) ?_
  refine r_bipush (v := 52) dX10_weeks_2 (by decide) ?_
  obtain ⟨r1, hr, h⟩ := bind_some h
  refine r_S (d' := 0) k_X10_72 dX10_weeks_4 (by omega) rfl (Nat.le_of_ble_eq_true rfl) (Nat.le_of_ble_eq_true rfl) (ok_X10_within (Nat.le_refl _) hr) (fun v I' L' hq => ?_)
  obtain ⟨rfl, rfl, rfl⟩ := hq
  simp only [Option.toList_some, Option.toList_none, List.drop_succ_cons, List.drop_zero, List.drop_nil, List.cons_append, List.nil_append]
  refine r_if_ne (tgt := 12) dX10_weeks_7 (by decide) (fun c => ?_) (fun c => ?_)
  · rw [if_neg c] at h
    refine r_aload_n (i := 0) dX10_weeks_12 rfl rfl ?_
    refine r_getR f_X10_10 dX10_weeks_13 rfl rfl ?_
    refine r_getI f_X10_197 dX10_weeks_16 rfl rfl ?_
    refine r_iload_n (i := 1) dX10_weeks_19 rfl rfl ?_
    refine r_iadd dX10_weeks_20 ?_
    refine r_sipush (v := 9999) dX10_weeks_21 (by decide) ?_
    refine r_icmp_le (tgt := 30) dX10_weeks_24 (by decide) (fun c => ?_) (fun c => ?_)
    · rw [if_pos c] at h
      refine r_iconst (v := 0) dX10_weeks_30 (by decide) ?_
      refine r_istore_n (i := 2) dX10_weeks_31 rfl (by decide) rfl ?_
      simp only [List.set_cons_zero, List.set_cons_succ]
      refine r_iconst (v := 0) dX10_weeks_32 (by decide) ?_
      refine r_istore_n (i := 3) dX10_weeks_33 rfl (by decide) rfl ?_
      simp only [List.set_cons_zero, List.set_cons_succ]
      exact RR.wk (ok_X10_weeks_0_l34 hd _ _ _ _ _ _ _ h) (And.intro rfl (And.intro rfl (And.intro rfl (And.intro rfl (trivial)))))
    · rw [if_neg c] at h
      refine r_bipush (v := (-3)) dX10_weeks_27 (by decide) ?_
      refine r_iret (by first | rfl | decide) dX10_weeks_29 ?_
      obtain rfl := Option.some.inj h
      exact ⟨rfl, rfl, rfl⟩
  · rw [if_pos c] at h
    refine r_iconst (v := (-1)) dX10_weeks_10 (by decide) ?_
    refine r_iret (by first | rfl | decide) dX10_weeks_11 ?_
    obtain rfl := Option.some.inj h
    exact ⟨rfl, rfl, rfl⟩
def f_J7_fill_53178_49_l5 : Nat → Int32 → Int32 → Int32 → mI → mL → rV
  | 0, _, _, _, _, _ => none
  | n + 1, x1, x2, x3, I, L => if x3 ≤ x2 then (some (I, L)) else (ck (inb x2 64) (lt (uI I 49 x2.toNatClampNeg x1) (fun M1 => lt (x2 + Int32.ofInt 1) (fun v2 => f_J7_fill_53178_49_l5 n x1 v2 x3 M1 L))))
theorem ok_J7_fill_53178_49_l5 {d : Nat} (hd : 0 ≤ d) : ∀ (n : Nat) (x1 : Int32) (x2 : Int32) (x3 : Int32) (I : mI) (L : mL) (o : mI × mL), f_J7_fill_53178_49_l5 n x1 x2 x3 I L = some o → RR mJ7_fill_53178 d 5 [some (.ref 49), some (.int x1), some (.int x2), some (.int x3)] [] I L (retQ none o.1 o.2) := by
  intro n
  induction n with
  | zero => intro x1 x2 x3 I L o h; rw [f_J7_fill_53178_49_l5] at h; cases h
  | succ n ih =>
    intro x1 x2 x3 I L o h
    rw [f_J7_fill_53178_49_l5] at h
    refine r_iload_n (i := 2) dJ7_fill_53178_5 rfl rfl ?_
    refine r_iload_n (i := 3) dJ7_fill_53178_6 rfl rfl ?_
    refine r_icmp_ge (tgt := 20) dJ7_fill_53178_7 (by decide) (fun c => ?_) (fun c => ?_)
    · rw [if_pos c] at h
      refine r_vret dJ7_fill_53178_20 ?_
      obtain rfl := Option.some.inj h
      exact ⟨rfl, rfl, rfl⟩
    · rw [if_neg c] at h
      refine r_aload_n (i := 0) dJ7_fill_53178_10 rfl rfl ?_
      refine r_iload_n (i := 2) dJ7_fill_53178_11 rfl rfl ?_
      refine r_iload_n (i := 1) dJ7_fill_53178_12 rfl rfl ?_
      obtain ⟨hb, h⟩ := ck_some h
      refine r_iast rfl (inb_vp hb) dJ7_fill_53178_13 ?_
      replace h := lt_some h
      refine r_iinc (v := _) dJ7_fill_53178_14 rfl rfl (by decide) rfl ?_
      simp only [List.set_cons_zero, List.set_cons_succ]
      replace h := lt_some h
      refine r_goto (tgt := 5) dJ7_fill_53178_17 (by decide) ?_
      exact RR.wk (ih _ _ _ _ _ _ h) (And.intro rfl (And.intro rfl (And.intro rfl (And.intro rfl (trivial)))))
def f_J7_fill_53178_49 (I : mI) (L : mL) (a1 : Int32) : rV := f_J7_fill_53178_49_l5 fuel a1 0 64 I L
theorem ok_J7_fill_53178_49 {d : Nat} (hd : 0 ≤ d) {I : mI} {L : mL} {a1 : Int32} {o : mI × mL} (h : f_J7_fill_53178_49 I L a1 = some o) : RR mJ7_fill_53178 d 0 [some (.ref 49), some (.int a1), none, none] [] I L (retQ none o.1 o.2) := by
  unfold f_J7_fill_53178_49 at h
  refine r_iconst (v := 0) dJ7_fill_53178_0 (by decide) ?_
  refine r_istore_n (i := 2) dJ7_fill_53178_1 rfl (by decide) rfl ?_
  simp only [List.set_cons_zero, List.set_cons_succ]
  refine r_aload_n (i := 0) dJ7_fill_53178_2 rfl rfl ?_
  refine r_alenI (v := 64) rfl (by decide) dJ7_fill_53178_3 ?_
  refine r_istore_n (i := 3) dJ7_fill_53178_4 rfl (by decide) rfl ?_
  simp only [List.set_cons_zero, List.set_cons_succ]
  exact RR.wk (ok_J7_fill_53178_49_l5 hd _ _ _ _ _ _ _ h) (And.intro rfl (And.intro rfl (And.intro rfl (And.intro rfl (trivial)))))
def f_X5_harness_48_l57 : Nat → Int32 → mI → mL → rV
  | 0, _, _, _ => none
  | n + 1, x3, I, L => if (I 2 6) ≤ x3 then (some (I, L)) else (ck (inb x3 15) (lt (I 5 x3.toNatClampNeg) (fun v7 => ck (inb x3 15) (lt (I 6 x3.toNatClampNeg) (fun v8 => ck (inb x3 15) (ck (inb ((v7 * 8) + v8) 64) (lt (uI I 49 ((v7 * 8) + v8).toNatClampNeg (I 7 x3.toNatClampNeg)) (fun M9 => ck (inb x3 15) (ck (inb ((v8 * 8) + v7) 64) (lt (uI M9 49 ((v8 * 8) + v7).toNatClampNeg (M9 7 x3.toNatClampNeg)) (fun M10 => lt (x3 + Int32.ofInt 1) (fun v11 => f_X5_harness_48_l57 n v11 M10 L))))))))))))
theorem ok_X5_harness_48_l57 {d : Nat} (hd : 1 ≤ d) : ∀ (n : Nat) (x3 : Int32) (I : mI) (L : mL) (o : mI × mL), f_X5_harness_48_l57 n x3 I L = some o → RR mX5_harness d 57 [some (.ref 48), none, some (.ref 2), some (.int x3), none, none] [] I L (retQ none o.1 o.2) := by
  intro n
  induction n with
  | zero => intro x3 I L o h; rw [f_X5_harness_48_l57] at h; cases h
  | succ n ih =>
    intro x3 I L o h
    rw [f_X5_harness_48_l57] at h
    refine r_iload_n (i := 3) dX5_harness_57 rfl rfl ?_
    refine r_aload_n (i := 2) dX5_harness_58 rfl rfl ?_
    refine r_getI f_X5_66 dX5_harness_59 rfl rfl ?_
    refine r_icmp_ge (tgt := 125) dX5_harness_62 (by decide) (fun c => ?_) (fun c => ?_)
    · rw [if_pos c] at h
      refine r_vret dX5_harness_125 ?_
      obtain rfl := Option.some.inj h
      exact ⟨rfl, rfl, rfl⟩
    · rw [if_neg c] at h
      refine r_aload_n (i := 2) dX5_harness_65 rfl rfl ?_
      refine r_getR f_X5_69 dX5_harness_66 rfl rfl ?_
      refine r_iload_n (i := 3) dX5_harness_69 rfl rfl ?_
      obtain ⟨hb, h⟩ := ck_some h
      refine r_iald rfl (inb_vp hb) dX5_harness_70 ?_
      refine r_istore dX5_harness_71 (by decide) rfl ?_
      simp only [List.set_cons_zero, List.set_cons_succ]
      replace h := lt_some h
      refine r_aload_n (i := 2) dX5_harness_73 rfl rfl ?_
      refine r_getR f_X5_72 dX5_harness_74 rfl rfl ?_
      refine r_iload_n (i := 3) dX5_harness_77 rfl rfl ?_
      obtain ⟨hb, h⟩ := ck_some h
      refine r_iald rfl (inb_vp hb) dX5_harness_78 ?_
      refine r_istore dX5_harness_79 (by decide) rfl ?_
      simp only [List.set_cons_zero, List.set_cons_succ]
      replace h := lt_some h
      refine r_aload_n (i := 0) dX5_harness_81 rfl rfl ?_
      refine r_getR f_X5_11 dX5_harness_82 rfl rfl ?_
      refine r_iload dX5_harness_85 rfl ?_
      refine r_bipush (v := 8) dX5_harness_87 (by decide) ?_
      refine r_imul dX5_harness_89 ?_
      refine r_iload dX5_harness_90 rfl ?_
      refine r_iadd dX5_harness_92 ?_
      refine r_aload_n (i := 2) dX5_harness_93 rfl rfl ?_
      refine r_getR f_X5_75 dX5_harness_94 rfl rfl ?_
      refine r_iload_n (i := 3) dX5_harness_97 rfl rfl ?_
      obtain ⟨hb, h⟩ := ck_some h
      refine r_iald rfl (inb_vp hb) dX5_harness_98 ?_
      obtain ⟨hb, h⟩ := ck_some h
      refine r_iast rfl (inb_vp hb) dX5_harness_99 ?_
      replace h := lt_some h
      refine r_aload_n (i := 0) dX5_harness_100 rfl rfl ?_
      refine r_getR f_X5_11 dX5_harness_101 rfl rfl ?_
      refine r_iload dX5_harness_104 rfl ?_
      refine r_bipush (v := 8) dX5_harness_106 (by decide) ?_
      refine r_imul dX5_harness_108 ?_
      refine r_iload dX5_harness_109 rfl ?_
      refine r_iadd dX5_harness_111 ?_
      refine r_aload_n (i := 2) dX5_harness_112 rfl rfl ?_
      refine r_getR f_X5_75 dX5_harness_113 rfl rfl ?_
      refine r_iload_n (i := 3) dX5_harness_116 rfl rfl ?_
      obtain ⟨hb, h⟩ := ck_some h
      refine r_iald rfl (inb_vp hb) dX5_harness_117 ?_
      obtain ⟨hb, h⟩ := ck_some h
      refine r_iast rfl (inb_vp hb) dX5_harness_118 ?_
      replace h := lt_some h
      refine r_iinc (v := _) dX5_harness_119 rfl rfl (by decide) rfl ?_
      simp only [List.set_cons_zero, List.set_cons_succ]
      replace h := lt_some h
      refine r_goto (tgt := 57) dX5_harness_122 (by decide) ?_
      exact RR.wk (ih _ _ _ _ h) (And.intro rfl (And.intro rfl (And.intro rfl (trivial))))
def f_X5_harness_48 (I : mI) (L : mL) (a1 : Int32) : rV := lt (uI I 48 8 (I 2 5)) (fun M1 => ck (inb a1 4) (lt (uI M1 48 9 (M1 8 a1.toNatClampNeg)) (fun M2 => ck (inb a1 4) (lt (uI M2 48 10 (M2 9 a1.toNatClampNeg)) (fun M3 => lt (uI M3 48 11 0) (fun M4 => bndV (f_J7_fill_53178_49 M4 L (-1)) (fun Ir5 Lr5 => f_X5_harness_48_l57 fuel 0 Ir5 Lr5)))))))
theorem ok_X5_harness_48 {d : Nat} (hd : 1 ≤ d) {I : mI} {L : mL} {a1 : Int32} {o : mI × mL} (h : f_X5_harness_48 I L a1 = some o) : RR mX5_harness d 0 [some (.ref 48), some (.int a1), none, none, none, none] [] I L (retQ none o.1 o.2) := by
  unfold f_X5_harness_48 at h
  refine r_aload_n (i := 0) dX5_harness_0 rfl rfl ?_
  refine r_getR f_X5_30 dX5_harness_1 rfl rfl ?_
  refine r_getR f_X5_34 dX5_harness_4 rfl rfl ?_
  refine r_astore_n (i := 2) dX5_harness_7 rfl (by decide) rfl ?_
  simp only [List.set_cons_zero, List.set_cons_succ]
  refine r_aload_n (i := 0) dX5_harness_8 rfl rfl ?_
  refine r_aload_n (i := 2) dX5_harness_9 rfl rfl ?_
  refine r_getI f_X5_40 dX5_harness_10 rfl rfl ?_
  refine r_putI f_X5_46 rfl rfl dX5_harness_13 rfl rfl ?_
  replace h := lt_some h
  refine r_aload_n (i := 0) dX5_harness_16 rfl rfl ?_
  refine r_aload_n (i := 0) dX5_harness_17 rfl rfl ?_
  refine r_getR f_X5_30 dX5_harness_18 rfl rfl ?_
  refine r_getR f_X5_47 dX5_harness_21 rfl rfl ?_
  refine r_iload_n (i := 1) dX5_harness_24 rfl rfl ?_
  obtain ⟨hb, h⟩ := ck_some h
  refine r_iald rfl (inb_vp hb) dX5_harness_25 ?_
  refine r_putI f_X5_50 rfl rfl dX5_harness_26 rfl rfl ?_
  replace h := lt_some h
  refine r_aload_n (i := 0) dX5_harness_29 rfl rfl ?_
  refine r_aload_n (i := 0) dX5_harness_30 rfl rfl ?_
  refine r_getR f_X5_30 dX5_harness_31 rfl rfl ?_
  refine r_getR f_X5_53 dX5_harness_34 rfl rfl ?_
  refine r_iload_n (i := 1) dX5_harness_37 rfl rfl ?_
  obtain ⟨hb, h⟩ := ck_some h
  refine r_iald rfl (inb_vp hb) dX5_harness_38 ?_
  refine r_putI f_X5_54 rfl rfl dX5_harness_39 rfl rfl ?_
  replace h := lt_some h
  refine r_aload_n (i := 0) dX5_harness_42 rfl rfl ?_
  refine r_iconst (v := 0) dX5_harness_43 (by decide) ?_
  refine r_putI f_X5_57 rfl rfl dX5_harness_44 rfl rfl ?_
  replace h := lt_some h
  refine r_aload_n (i := 0) dX5_harness_47 rfl rfl ?_
  refine r_getR f_X5_11 dX5_harness_48 rfl rfl ?_
  refine r_iconst (v := (-1)) dX5_harness_51 (by decide) ?_
  obtain ⟨⟨Ir5, Lr5⟩, hr, h⟩ := bind_some h
  refine r_S (d' := 0) k_X5_60 dX5_harness_52 (by omega) rfl (Nat.le_of_ble_eq_true rfl) (Nat.le_of_ble_eq_true rfl) (ok_J7_fill_53178_49 (Nat.le_refl _) hr) (fun v I' L' hq => ?_)
  obtain ⟨rfl, rfl, rfl⟩ := hq
  simp only [Option.toList_some, Option.toList_none, List.drop_succ_cons, List.drop_zero, List.drop_nil, List.cons_append, List.nil_append]
  dsimp only at h
  refine r_iconst (v := 0) dX5_harness_55 (by decide) ?_
  refine r_istore_n (i := 3) dX5_harness_56 rfl (by decide) rfl ?_
  simp only [List.set_cons_zero, List.set_cons_succ]
  exact RR.wk (ok_X5_harness_48_l57 hd _ _ _ _ _ h) (And.intro rfl (And.intro rfl (And.intro rfl (trivial))))
def f_X5_weigh_48_l2 : Nat → Int32 → Int32 → mI → mL → rV
  | 0, _, _, _, _ => none
  | n + 1, x1, x2, I, L => if (I 48 8) ≤ x2 then (some (I, L)) else ((f_X7_weightAt_1 I L x2 x1).bind (fun r1 => ck (inb x2 8) (lt (uI I 51 x2.toNatClampNeg r1) (fun M2 => lt (x2 + Int32.ofInt 1) (fun v3 => f_X5_weigh_48_l2 n x1 v3 M2 L)))))
theorem ok_X5_weigh_48_l2 {d : Nat} (hd : 3 ≤ d) : ∀ (n : Nat) (x1 : Int32) (x2 : Int32) (I : mI) (L : mL) (o : mI × mL), f_X5_weigh_48_l2 n x1 x2 I L = some o → RR mX5_weigh d 2 [some (.ref 48), some (.int x1), some (.int x2)] [] I L (retQ none o.1 o.2) := by
  intro n
  induction n with
  | zero => intro x1 x2 I L o h; rw [f_X5_weigh_48_l2] at h; cases h
  | succ n ih =>
    intro x1 x2 I L o h
    rw [f_X5_weigh_48_l2] at h
    refine r_iload_n (i := 2) dX5_weigh_2 rfl rfl ?_
    refine r_aload_n (i := 0) dX5_weigh_3 rfl rfl ?_
    refine r_getI f_X5_46 dX5_weigh_4 rfl rfl ?_
    refine r_icmp_ge (tgt := 31) dX5_weigh_7 (by decide) (fun c => ?_) (fun c => ?_)
    · rw [if_pos c] at h
      refine r_vret dX5_weigh_31 ?_
      obtain rfl := Option.some.inj h
      exact ⟨rfl, rfl, rfl⟩
    · rw [if_neg c] at h
      refine r_aload_n (i := 0) dX5_weigh_10 rfl rfl ?_
      refine r_getR f_X5_18 dX5_weigh_11 rfl rfl ?_
      refine r_iload_n (i := 2) dX5_weigh_14 rfl rfl ?_
      refine r_aload_n (i := 0) dX5_weigh_15 rfl rfl ?_
      refine r_getR f_X5_30 dX5_weigh_16 rfl rfl ?_
      refine r_iload_n (i := 2) dX5_weigh_19 rfl rfl ?_
      refine r_iload_n (i := 1) dX5_weigh_20 rfl rfl ?_
      obtain ⟨r1, hr, h⟩ := bind_some h
      refine r_V (d' := 2) k_X5_76 dX5_weigh_21 (by omega) rfl rfl rfl (Nat.le_of_ble_eq_true rfl) (Nat.le_of_ble_eq_true rfl) (ok_X7_weightAt_1 (Nat.le_refl _) hr) (fun v I' L' hq => ?_)
      obtain ⟨rfl, rfl, rfl⟩ := hq
      simp only [Option.toList_some, Option.toList_none, List.drop_succ_cons, List.drop_zero, List.drop_nil, List.cons_append, List.nil_append]
      obtain ⟨hb, h⟩ := ck_some h
      refine r_iast rfl (inb_vp hb) dX5_weigh_24 ?_
      replace h := lt_some h
      refine r_iinc (v := _) dX5_weigh_25 rfl rfl (by decide) rfl ?_
      simp only [List.set_cons_zero, List.set_cons_succ]
      replace h := lt_some h
      refine r_goto (tgt := 2) dX5_weigh_28 (by decide) ?_
      exact RR.wk (ih _ _ _ _ _ h) (And.intro rfl (And.intro rfl (And.intro rfl (trivial))))
def f_X5_weigh_48 (I : mI) (L : mL) (a1 : Int32) : rV := f_X5_weigh_48_l2 fuel a1 0 I L
theorem ok_X5_weigh_48 {d : Nat} (hd : 3 ≤ d) {I : mI} {L : mL} {a1 : Int32} {o : mI × mL} (h : f_X5_weigh_48 I L a1 = some o) : RR mX5_weigh d 0 [some (.ref 48), some (.int a1), none] [] I L (retQ none o.1 o.2) := by
  unfold f_X5_weigh_48 at h
  refine r_iconst (v := 0) dX5_weigh_0 (by decide) ?_
  refine r_istore_n (i := 2) dX5_weigh_1 rfl (by decide) rfl ?_
  simp only [List.set_cons_zero, List.set_cons_succ]
  exact RR.wk (ok_X5_weigh_48_l2 hd _ _ _ _ _ _ h) (And.intro rfl (And.intro rfl (And.intro rfl (trivial))))
def f_J7_fill_53178_52_l5 : Nat → Int32 → Int32 → Int32 → mI → mL → rV
  | 0, _, _, _, _, _ => none
  | n + 1, x1, x2, x3, I, L => if x3 ≤ x2 then (some (I, L)) else (ck (inb x2 8) (lt (uI I 52 x2.toNatClampNeg x1) (fun M1 => lt (x2 + Int32.ofInt 1) (fun v2 => f_J7_fill_53178_52_l5 n x1 v2 x3 M1 L))))
theorem ok_J7_fill_53178_52_l5 {d : Nat} (hd : 0 ≤ d) : ∀ (n : Nat) (x1 : Int32) (x2 : Int32) (x3 : Int32) (I : mI) (L : mL) (o : mI × mL), f_J7_fill_53178_52_l5 n x1 x2 x3 I L = some o → RR mJ7_fill_53178 d 5 [some (.ref 52), some (.int x1), some (.int x2), some (.int x3)] [] I L (retQ none o.1 o.2) := by
  intro n
  induction n with
  | zero => intro x1 x2 x3 I L o h; rw [f_J7_fill_53178_52_l5] at h; cases h
  | succ n ih =>
    intro x1 x2 x3 I L o h
    rw [f_J7_fill_53178_52_l5] at h
    refine r_iload_n (i := 2) dJ7_fill_53178_5 rfl rfl ?_
    refine r_iload_n (i := 3) dJ7_fill_53178_6 rfl rfl ?_
    refine r_icmp_ge (tgt := 20) dJ7_fill_53178_7 (by decide) (fun c => ?_) (fun c => ?_)
    · rw [if_pos c] at h
      refine r_vret dJ7_fill_53178_20 ?_
      obtain rfl := Option.some.inj h
      exact ⟨rfl, rfl, rfl⟩
    · rw [if_neg c] at h
      refine r_aload_n (i := 0) dJ7_fill_53178_10 rfl rfl ?_
      refine r_iload_n (i := 2) dJ7_fill_53178_11 rfl rfl ?_
      refine r_iload_n (i := 1) dJ7_fill_53178_12 rfl rfl ?_
      obtain ⟨hb, h⟩ := ck_some h
      refine r_iast rfl (inb_vp hb) dJ7_fill_53178_13 ?_
      replace h := lt_some h
      refine r_iinc (v := _) dJ7_fill_53178_14 rfl rfl (by decide) rfl ?_
      simp only [List.set_cons_zero, List.set_cons_succ]
      replace h := lt_some h
      refine r_goto (tgt := 5) dJ7_fill_53178_17 (by decide) ?_
      exact RR.wk (ih _ _ _ _ _ _ h) (And.intro rfl (And.intro rfl (And.intro rfl (And.intro rfl (trivial)))))
def f_J7_fill_53178_52 (I : mI) (L : mL) (a1 : Int32) : rV := f_J7_fill_53178_52_l5 fuel a1 0 8 I L
theorem ok_J7_fill_53178_52 {d : Nat} (hd : 0 ≤ d) {I : mI} {L : mL} {a1 : Int32} {o : mI × mL} (h : f_J7_fill_53178_52 I L a1 = some o) : RR mJ7_fill_53178 d 0 [some (.ref 52), some (.int a1), none, none] [] I L (retQ none o.1 o.2) := by
  unfold f_J7_fill_53178_52 at h
  refine r_iconst (v := 0) dJ7_fill_53178_0 (by decide) ?_
  refine r_istore_n (i := 2) dJ7_fill_53178_1 rfl (by decide) rfl ?_
  simp only [List.set_cons_zero, List.set_cons_succ]
  refine r_aload_n (i := 0) dJ7_fill_53178_2 rfl rfl ?_
  refine r_alenI (v := 8) rfl (by decide) dJ7_fill_53178_3 ?_
  refine r_istore_n (i := 3) dJ7_fill_53178_4 rfl (by decide) rfl ?_
  simp only [List.set_cons_zero, List.set_cons_succ]
  exact RR.wk (ok_J7_fill_53178_52_l5 hd _ _ _ _ _ _ _ h) (And.intro rfl (And.intro rfl (And.intro rfl (And.intro rfl (trivial)))))
def f_X5_start_48_l16 : Nat → Int32 → Int32 → mI → mL → rV
  | 0, _, _, _, _ => none
  | n + 1, x1, x2, I, L => if (I 48 8) ≤ x2 then (ck (inb x1 8) (if (I 48 9) < (I 51 x1.toNatClampNeg) then (some (I, L)) else (ck (inb x1 8) (lt (uI I 52 x1.toNatClampNeg 0) (fun M4 => some (M4, L)))))) else (ck (inb x2 8) (if (I 48 9) < (I 51 x2.toNatClampNeg) then (lt (x2 + Int32.ofInt 1) (fun v5 => f_X5_start_48_l16 n x1 v5 I L)) else (lt (uI I 48 12 ((I 48 12) ||| ((1 : Int32) <<< (x2 &&& 31)))) (fun M6 => lt (x2 + Int32.ofInt 1) (fun v7 => f_X5_start_48_l16 n x1 v7 M6 L)))))
theorem ok_X5_start_48_l16 {d : Nat} (hd : 1 ≤ d) : ∀ (n : Nat) (x1 : Int32) (x2 : Int32) (I : mI) (L : mL) (o : mI × mL), f_X5_start_48_l16 n x1 x2 I L = some o → RR mX5_start d 16 [some (.ref 48), some (.int x1), some (.int x2)] [] I L (retQ none o.1 o.2) := by
  intro n
  induction n with
  | zero => intro x1 x2 I L o h; rw [f_X5_start_48_l16] at h; cases h
  | succ n ih =>
    intro x1 x2 I L o h
    rw [f_X5_start_48_l16] at h
    refine r_iload_n (i := 2) dX5_start_16 rfl rfl ?_
    refine r_aload_n (i := 0) dX5_start_17 rfl rfl ?_
    refine r_getI f_X5_46 dX5_start_18 rfl rfl ?_
    refine r_icmp_ge (tgt := 55) dX5_start_21 (by decide) (fun c => ?_) (fun c => ?_)
    · rw [if_pos c] at h
      refine r_aload_n (i := 0) dX5_start_55 rfl rfl ?_
      refine r_getR f_X5_18 dX5_start_56 rfl rfl ?_
      refine r_iload_n (i := 1) dX5_start_59 rfl rfl ?_
      obtain ⟨hb, h⟩ := ck_some h
      refine r_iald rfl (inb_vp hb) dX5_start_60 ?_
      refine r_aload_n (i := 0) dX5_start_61 rfl rfl ?_
      refine r_getI f_X5_50 dX5_start_62 rfl rfl ?_
      refine r_icmp_gt (tgt := 75) dX5_start_65 (by decide) (fun c => ?_) (fun c => ?_)
      · rw [if_pos c] at h
        refine r_vret dX5_start_75 ?_
        obtain rfl := Option.some.inj h
        exact ⟨rfl, rfl, rfl⟩
      · rw [if_neg c] at h
        refine r_aload_n (i := 0) dX5_start_68 rfl rfl ?_
        refine r_getR f_X5_21 dX5_start_69 rfl rfl ?_
        refine r_iload_n (i := 1) dX5_start_72 rfl rfl ?_
        refine r_iconst (v := 0) dX5_start_73 (by decide) ?_
        obtain ⟨hb, h⟩ := ck_some h
        refine r_iast rfl (inb_vp hb) dX5_start_74 ?_
        replace h := lt_some h
        refine r_vret dX5_start_75 ?_
        obtain rfl := Option.some.inj h
        exact ⟨rfl, rfl, rfl⟩
    · rw [if_neg c] at h
      refine r_aload_n (i := 0) dX5_start_24 rfl rfl ?_
      refine r_getR f_X5_18 dX5_start_25 rfl rfl ?_
      refine r_iload_n (i := 2) dX5_start_28 rfl rfl ?_
      obtain ⟨hb, h⟩ := ck_some h
      refine r_iald rfl (inb_vp hb) dX5_start_29 ?_
      refine r_aload_n (i := 0) dX5_start_30 rfl rfl ?_
      refine r_getI f_X5_50 dX5_start_31 rfl rfl ?_
      refine r_icmp_gt (tgt := 49) dX5_start_34 (by decide) (fun c => ?_) (fun c => ?_)
      · rw [if_pos c] at h
        refine r_iinc (v := _) dX5_start_49 rfl rfl (by decide) rfl ?_
        simp only [List.set_cons_zero, List.set_cons_succ]
        replace h := lt_some h
        refine r_goto (tgt := 16) dX5_start_52 (by decide) ?_
        exact RR.wk (ih _ _ _ _ _ h) (And.intro rfl (And.intro rfl (And.intro rfl (trivial))))
      · rw [if_neg c] at h
        refine r_aload_n (i := 0) dX5_start_37 rfl rfl ?_
        refine r_dup dX5_start_38 rfl ?_
        refine r_getI f_X5_113 dX5_start_39 rfl rfl ?_
        refine r_iconst (v := 1) dX5_start_42 (by decide) ?_
        refine r_iload_n (i := 2) dX5_start_43 rfl rfl ?_
        refine r_ishl dX5_start_44 ?_
        refine r_ior dX5_start_45 ?_
        refine r_putI f_X5_113 rfl rfl dX5_start_46 rfl rfl ?_
        replace h := lt_some h
        refine r_iinc (v := _) dX5_start_49 rfl rfl (by decide) rfl ?_
        simp only [List.set_cons_zero, List.set_cons_succ]
        replace h := lt_some h
        refine r_goto (tgt := 16) dX5_start_52 (by decide) ?_
        exact RR.wk (ih _ _ _ _ _ h) (And.intro rfl (And.intro rfl (And.intro rfl (trivial))))
def f_X5_start_48 (I : mI) (L : mL) (a1 : Int32) : rV := bndV (f_J7_fill_53178_52 I L 536870912) (fun Ir1 Lr1 => lt (uI Ir1 48 12 0) (fun M3 => f_X5_start_48_l16 fuel a1 0 M3 Lr1))
theorem ok_X5_start_48 {d : Nat} (hd : 1 ≤ d) {I : mI} {L : mL} {a1 : Int32} {o : mI × mL} (h : f_X5_start_48 I L a1 = some o) : RR mX5_start d 0 [some (.ref 48), some (.int a1), none] [] I L (retQ none o.1 o.2) := by
  unfold f_X5_start_48 at h
  refine r_aload_n (i := 0) dX5_start_0 rfl rfl ?_
  refine r_getR f_X5_21 dX5_start_1 rfl rfl ?_
  refine r_ldc n_X5_112 dX5_start_4 ?_
  obtain ⟨⟨Ir1, Lr1⟩, hr, h⟩ := bind_some h
  refine r_S (d' := 0) k_X5_60 dX5_start_6 (by omega) rfl (Nat.le_of_ble_eq_true rfl) (Nat.le_of_ble_eq_true rfl) (ok_J7_fill_53178_52 (Nat.le_refl _) hr) (fun v I' L' hq => ?_)
  obtain ⟨rfl, rfl, rfl⟩ := hq
  simp only [Option.toList_some, Option.toList_none, List.drop_succ_cons, List.drop_zero, List.drop_nil, List.cons_append, List.nil_append]
  dsimp only at h
  refine r_aload_n (i := 0) dX5_start_9 rfl rfl ?_
  refine r_iconst (v := 0) dX5_start_10 (by decide) ?_
  refine r_putI f_X5_113 rfl rfl dX5_start_11 rfl rfl ?_
  replace h := lt_some h
  refine r_iconst (v := 0) dX5_start_14 (by decide) ?_
  refine r_istore_n (i := 2) dX5_start_15 rfl (by decide) rfl ?_
  simp only [List.set_cons_zero, List.set_cons_succ]
  exact RR.wk (ok_X5_start_48_l16 hd _ _ _ _ _ _ h) (And.intro rfl (And.intro rfl (And.intro rfl (trivial))))
def f_X5_nearest_48_l7 (I : mI) (L : mL) : Nat → Int32 → Int32 → Int32 → Option Int32
  | 0, _, _, _ => none
  | n + 1, x1, x2, x3 => if (I 48 8) ≤ x3 then (some x1) else (if (((I 48 12) >>> (x3 &&& 31)) &&& 1) = 0 then (lt (x3 + Int32.ofInt 1) (fun v1 => f_X5_nearest_48_l7 I L n x1 x2 v1)) else (ck (inb x3 8) (if x2 ≤ (I 52 x3.toNatClampNeg) then (lt (x3 + Int32.ofInt 1) (fun v2 => f_X5_nearest_48_l7 I L n x1 x2 v2)) else (ck (inb x3 8) (lt (I 52 x3.toNatClampNeg) (fun v3 => lt (x3 + Int32.ofInt 1) (fun v4 => f_X5_nearest_48_l7 I L n x3 v3 v4)))))))
theorem ok_X5_nearest_48_l7 {d : Nat} (hd : 0 ≤ d){I : mI} {L : mL} : ∀ (n : Nat) (x1 : Int32) (x2 : Int32) (x3 : Int32) (o : Int32), f_X5_nearest_48_l7 I L n x1 x2 x3 = some o → RR mX5_nearest d 7 [some (.ref 48), some (.int x1), some (.int x2), some (.int x3)] [] I L (retQ (some (.int o)) I L) := by
  intro n
  induction n with
  | zero => intro x1 x2 x3 o h; rw [f_X5_nearest_48_l7] at h; cases h
  | succ n ih =>
    intro x1 x2 x3 o h
    rw [f_X5_nearest_48_l7] at h
    refine r_iload_n (i := 3) dX5_nearest_7 rfl rfl ?_
    refine r_aload_n (i := 0) dX5_nearest_8 rfl rfl ?_
    refine r_getI f_X5_46 dX5_nearest_9 rfl rfl ?_
    refine r_icmp_ge (tgt := 51) dX5_nearest_12 (by decide) (fun c => ?_) (fun c => ?_)
    · rw [if_pos c] at h
      refine r_iload_n (i := 1) dX5_nearest_51 rfl rfl ?_
      refine r_iret (by first | rfl | decide) dX5_nearest_52 ?_
      obtain rfl := Option.some.inj h
      exact ⟨rfl, rfl, rfl⟩
    · rw [if_neg c] at h
      refine r_aload_n (i := 0) dX5_nearest_15 rfl rfl ?_
      refine r_getI f_X5_113 dX5_nearest_16 rfl rfl ?_
      refine r_iload_n (i := 3) dX5_nearest_19 rfl rfl ?_
      refine r_ishr dX5_nearest_20 ?_
      refine r_iconst (v := 1) dX5_nearest_21 (by decide) ?_
      refine r_iand dX5_nearest_22 ?_
      refine r_if_eq (tgt := 45) dX5_nearest_23 (by decide) (fun c => ?_) (fun c => ?_)
      · rw [if_pos c] at h
        refine r_iinc (v := _) dX5_nearest_45 rfl rfl (by decide) rfl ?_
        simp only [List.set_cons_zero, List.set_cons_succ]
        replace h := lt_some h
        refine r_goto (tgt := 7) dX5_nearest_48 (by decide) ?_
        exact RR.wk (ih _ _ _ _ h) (And.intro rfl (And.intro rfl (And.intro rfl (And.intro rfl (trivial)))))
      · rw [if_neg c] at h
        refine r_aload_n (i := 0) dX5_nearest_26 rfl rfl ?_
        refine r_getR f_X5_21 dX5_nearest_27 rfl rfl ?_
        refine r_iload_n (i := 3) dX5_nearest_30 rfl rfl ?_
        obtain ⟨hb, h⟩ := ck_some h
        refine r_iald rfl (inb_vp hb) dX5_nearest_31 ?_
        refine r_iload_n (i := 2) dX5_nearest_32 rfl rfl ?_
        refine r_icmp_ge (tgt := 45) dX5_nearest_33 (by decide) (fun c => ?_) (fun c => ?_)
        · rw [if_pos c] at h
          refine r_iinc (v := _) dX5_nearest_45 rfl rfl (by decide) rfl ?_
          simp only [List.set_cons_zero, List.set_cons_succ]
          replace h := lt_some h
          refine r_goto (tgt := 7) dX5_nearest_48 (by decide) ?_
          exact RR.wk (ih _ _ _ _ h) (And.intro rfl (And.intro rfl (And.intro rfl (And.intro rfl (trivial)))))
        · rw [if_neg c] at h
          refine r_iload_n (i := 3) dX5_nearest_36 rfl rfl ?_
          refine r_istore_n (i := 1) dX5_nearest_37 rfl (by decide) rfl ?_
          simp only [List.set_cons_zero, List.set_cons_succ]
          refine r_aload_n (i := 0) dX5_nearest_38 rfl rfl ?_
          refine r_getR f_X5_21 dX5_nearest_39 rfl rfl ?_
          refine r_iload_n (i := 3) dX5_nearest_42 rfl rfl ?_
          obtain ⟨hb, h⟩ := ck_some h
          refine r_iald rfl (inb_vp hb) dX5_nearest_43 ?_
          refine r_istore_n (i := 2) dX5_nearest_44 rfl (by decide) rfl ?_
          simp only [List.set_cons_zero, List.set_cons_succ]
          replace h := lt_some h
          refine r_iinc (v := _) dX5_nearest_45 rfl rfl (by decide) rfl ?_
          simp only [List.set_cons_zero, List.set_cons_succ]
          replace h := lt_some h
          refine r_goto (tgt := 7) dX5_nearest_48 (by decide) ?_
          exact RR.wk (ih _ _ _ _ h) (And.intro rfl (And.intro rfl (And.intro rfl (And.intro rfl (trivial)))))
def f_X5_nearest_48 (I : mI) (L : mL) : Option Int32 := f_X5_nearest_48_l7 I L fuel (-1) 536870912 0
theorem ok_X5_nearest_48 {d : Nat} (hd : 0 ≤ d) {I : mI} {L : mL} {o : Int32} (h : f_X5_nearest_48 I L = some o) : RR mX5_nearest d 0 [some (.ref 48), none, none, none] [] I L (retQ (some (.int o)) I L) := by
  unfold f_X5_nearest_48 at h
  refine r_iconst (v := (-1)) dX5_nearest_0 (by decide) ?_
  refine r_istore_n (i := 1) dX5_nearest_1 rfl (by decide) rfl ?_
  simp only [List.set_cons_zero, List.set_cons_succ]
  refine r_ldc n_X5_112 dX5_nearest_2 ?_
  refine r_istore_n (i := 2) dX5_nearest_4 rfl (by decide) rfl ?_
  simp only [List.set_cons_zero, List.set_cons_succ]
  refine r_iconst (v := 0) dX5_nearest_5 (by decide) ?_
  refine r_istore_n (i := 3) dX5_nearest_6 rfl (by decide) rfl ?_
  simp only [List.set_cons_zero, List.set_cons_succ]
  exact RR.wk (ok_X5_nearest_48_l7 hd _ _ _ _ _ h) (And.intro rfl (And.intro rfl (And.intro rfl (And.intro rfl (trivial)))))
def f_X5_roadCost_48_b23 (I : mI) (L : mL) (x1 : Int32) (x2 : Int32) (s0 : Int32) : Option Int32 := if s0 = 0 then (ck (inb ((x1 * 8) + x2) 64) (ck (inb x1 8) (some ((I 48 10) + (((I 49 ((x1 * 8) + x2).toNatClampNeg) * (I 51 x1.toNatClampNeg)) / 10))))) else (some (I 48 10))
theorem ok_X5_roadCost_48_b23 {d : Nat} (hd : 0 ≤ d){I : mI} {L : mL} (x1 : Int32) (x2 : Int32) (s0 : Int32) {o : Int32} (h : f_X5_roadCost_48_b23 I L x1 x2 s0 = some o) : RR mX5_roadCost d 23 [some (.ref 48), some (.int x1), some (.int x2), none] [.int s0] I L (retQ (some (.int o)) I L) := by
  unfold f_X5_roadCost_48_b23 at h
  refine r_istore_n (i := 3) dX5_roadCost_23 rfl (by decide) rfl ?_
  simp only [List.set_cons_zero, List.set_cons_succ]
  refine r_iload_n (i := 3) dX5_roadCost_24 rfl rfl ?_
  refine r_if_eq (tgt := 35) dX5_roadCost_25 (by decide) (fun c => ?_) (fun c => ?_)
  · rw [if_pos c] at h
    refine r_aload_n (i := 0) dX5_roadCost_35 rfl rfl ?_
    refine r_getI f_X5_54 dX5_roadCost_36 rfl rfl ?_
    refine r_aload_n (i := 0) dX5_roadCost_39 rfl rfl ?_
    refine r_getR f_X5_11 dX5_roadCost_40 rfl rfl ?_
    refine r_iload_n (i := 1) dX5_roadCost_43 rfl rfl ?_
    refine r_bipush (v := 8) dX5_roadCost_44 (by decide) ?_
    refine r_imul dX5_roadCost_46 ?_
    refine r_iload_n (i := 2) dX5_roadCost_47 rfl rfl ?_
    refine r_iadd dX5_roadCost_48 ?_
    obtain ⟨hb, h⟩ := ck_some h
    refine r_iald rfl (inb_vp hb) dX5_roadCost_49 ?_
    refine r_aload_n (i := 0) dX5_roadCost_50 rfl rfl ?_
    refine r_getR f_X5_18 dX5_roadCost_51 rfl rfl ?_
    refine r_iload_n (i := 1) dX5_roadCost_54 rfl rfl ?_
    obtain ⟨hb, h⟩ := ck_some h
    refine r_iald rfl (inb_vp hb) dX5_roadCost_55 ?_
    refine r_imul dX5_roadCost_56 ?_
    refine r_bipush (v := 10) dX5_roadCost_57 (by decide) ?_
    refine r_idiv dX5_roadCost_59 (by decide) ?_
    refine r_iadd dX5_roadCost_60 ?_
    refine r_iret (by first | rfl | decide) dX5_roadCost_61 ?_
    obtain rfl := Option.some.inj h
    exact ⟨rfl, rfl, rfl⟩
  · rw [if_neg c] at h
    refine r_aload_n (i := 0) dX5_roadCost_28 rfl rfl ?_
    refine r_getI f_X5_54 dX5_roadCost_29 rfl rfl ?_
    refine r_goto (tgt := 61) dX5_roadCost_32 (by decide) ?_
    refine r_iret (by first | rfl | decide) dX5_roadCost_61 ?_
    obtain rfl := Option.some.inj h
    exact ⟨rfl, rfl, rfl⟩
def f_X5_roadCost_48 (I : mI) (L : mL) (a1 : Int32) (a2 : Int32) : Option Int32 := if ((((I 48 11) >>> (a1 &&& 31)) &&& ((I 48 11) >>> (a2 &&& 31))) &&& 1) = 0 then (f_X5_roadCost_48_b23 I L a1 a2 0) else (f_X5_roadCost_48_b23 I L a1 a2 1)
theorem ok_X5_roadCost_48 {d : Nat} (hd : 0 ≤ d) {I : mI} {L : mL} {a1 : Int32} {a2 : Int32} {o : Int32} (h : f_X5_roadCost_48 I L a1 a2 = some o) : RR mX5_roadCost d 0 [some (.ref 48), some (.int a1), some (.int a2), none] [] I L (retQ (some (.int o)) I L) := by
  unfold f_X5_roadCost_48 at h
  refine r_aload_n (i := 0) dX5_roadCost_0 rfl rfl ?_
  refine r_getI f_X5_57 dX5_roadCost_1 rfl rfl ?_
  refine r_iload_n (i := 1) dX5_roadCost_4 rfl rfl ?_
  refine r_ishr dX5_roadCost_5 ?_
  refine r_aload_n (i := 0) dX5_roadCost_6 rfl rfl ?_
  refine r_getI f_X5_57 dX5_roadCost_7 rfl rfl ?_
  refine r_iload_n (i := 2) dX5_roadCost_10 rfl rfl ?_
  refine r_ishr dX5_roadCost_11 ?_
  refine r_iand dX5_roadCost_12 ?_
  refine r_iconst (v := 1) dX5_roadCost_13 (by decide) ?_
  refine r_iand dX5_roadCost_14 ?_
  refine r_if_eq (tgt := 22) dX5_roadCost_15 (by decide) (fun c => ?_) (fun c => ?_)
  · rw [if_pos c] at h
    refine r_iconst (v := 0) dX5_roadCost_22 (by decide) ?_
    exact RR.wk (ok_X5_roadCost_48_b23 hd _ _ _ h) (And.intro rfl (And.intro rfl (And.intro rfl (trivial))))
  · rw [if_neg c] at h
    refine r_iconst (v := 1) dX5_roadCost_18 (by decide) ?_
    refine r_goto (tgt := 23) dX5_roadCost_19 (by decide) ?_
    exact RR.wk (ok_X5_roadCost_48_b23 hd _ _ _ h) (And.intro rfl (And.intro rfl (And.intro rfl (trivial))))
def f_X5_leave_48_l16 : Nat → Int32 → Int32 → mI → mL → rV
  | 0, _, _, _, _ => none
  | n + 1, x1, x2, I, L => if (I 48 8) ≤ x2 then (some (I, L)) else (if (((I 48 12) >>> (x2 &&& 31)) &&& 1) = 0 then (lt (x2 + Int32.ofInt 1) (fun v2 => f_X5_leave_48_l16 n x1 v2 I L)) else (ck (inb ((x1 * 8) + x2) 64) (if (I 49 ((x1 * 8) + x2).toNatClampNeg) = (-1) then (lt (x2 + Int32.ofInt 1) (fun v3 => f_X5_leave_48_l16 n x1 v3 I L)) else (ck (inb x1 8) ((f_X5_roadCost_48 I L x1 x2).bind (fun r4 => lt ((I 52 x1.toNatClampNeg) + r4) (fun v5 => ck (inb x2 8) (if (I 52 x2.toNatClampNeg) ≤ v5 then (lt (x2 + Int32.ofInt 1) (fun v6 => f_X5_leave_48_l16 n x1 v6 I L)) else (ck (inb x2 8) (lt (uI I 52 x2.toNatClampNeg v5) (fun M7 => lt (x2 + Int32.ofInt 1) (fun v8 => f_X5_leave_48_l16 n x1 v8 M7 L))))))))))))
theorem ok_X5_leave_48_l16 {d : Nat} (hd : 1 ≤ d) : ∀ (n : Nat) (x1 : Int32) (x2 : Int32) (I : mI) (L : mL) (o : mI × mL), f_X5_leave_48_l16 n x1 x2 I L = some o → RR mX5_leave d 16 [some (.ref 48), some (.int x1), some (.int x2), none] [] I L (retQ none o.1 o.2) := by
  intro n
  induction n with
  | zero => intro x1 x2 I L o h; rw [f_X5_leave_48_l16] at h; cases h
  | succ n ih =>
    intro x1 x2 I L o h
    rw [f_X5_leave_48_l16] at h
    refine r_iload_n (i := 2) dX5_leave_16 rfl rfl ?_
    refine r_aload_n (i := 0) dX5_leave_17 rfl rfl ?_
    refine r_getI f_X5_46 dX5_leave_18 rfl rfl ?_
    refine r_icmp_ge (tgt := 87) dX5_leave_21 (by decide) (fun c => ?_) (fun c => ?_)
    · rw [if_pos c] at h
      refine r_vret dX5_leave_87 ?_
      obtain rfl := Option.some.inj h
      exact ⟨rfl, rfl, rfl⟩
    · rw [if_neg c] at h
      refine r_aload_n (i := 0) dX5_leave_24 rfl rfl ?_
      refine r_getI f_X5_113 dX5_leave_25 rfl rfl ?_
      refine r_iload_n (i := 2) dX5_leave_28 rfl rfl ?_
      refine r_ishr dX5_leave_29 ?_
      refine r_iconst (v := 1) dX5_leave_30 (by decide) ?_
      refine r_iand dX5_leave_31 ?_
      refine r_if_eq (tgt := 81) dX5_leave_32 (by decide) (fun c => ?_) (fun c => ?_)
      · rw [if_pos c] at h
        refine r_iinc (v := _) dX5_leave_81 rfl rfl (by decide) rfl ?_
        simp only [List.set_cons_zero, List.set_cons_succ]
        replace h := lt_some h
        refine r_goto (tgt := 16) dX5_leave_84 (by decide) ?_
        exact RR.wk (ih _ _ _ _ _ h) (And.intro rfl (And.intro rfl (And.intro rfl (trivial))))
      · rw [if_neg c] at h
        refine r_aload_n (i := 0) dX5_leave_35 rfl rfl ?_
        refine r_getR f_X5_11 dX5_leave_36 rfl rfl ?_
        refine r_iload_n (i := 1) dX5_leave_39 rfl rfl ?_
        refine r_bipush (v := 8) dX5_leave_40 (by decide) ?_
        refine r_imul dX5_leave_42 ?_
        refine r_iload_n (i := 2) dX5_leave_43 rfl rfl ?_
        refine r_iadd dX5_leave_44 ?_
        obtain ⟨hb, h⟩ := ck_some h
        refine r_iald rfl (inb_vp hb) dX5_leave_45 ?_
        refine r_iconst (v := (-1)) dX5_leave_46 (by decide) ?_
        refine r_icmp_eq (tgt := 81) dX5_leave_47 (by decide) (fun c => ?_) (fun c => ?_)
        · rw [if_pos c] at h
          refine r_iinc (v := _) dX5_leave_81 rfl rfl (by decide) rfl ?_
          simp only [List.set_cons_zero, List.set_cons_succ]
          replace h := lt_some h
          refine r_goto (tgt := 16) dX5_leave_84 (by decide) ?_
          exact RR.wk (ih _ _ _ _ _ h) (And.intro rfl (And.intro rfl (And.intro rfl (trivial))))
        · rw [if_neg c] at h
          refine r_aload_n (i := 0) dX5_leave_50 rfl rfl ?_
          refine r_getR f_X5_21 dX5_leave_51 rfl rfl ?_
          refine r_iload_n (i := 1) dX5_leave_54 rfl rfl ?_
          obtain ⟨hb, h⟩ := ck_some h
          refine r_iald rfl (inb_vp hb) dX5_leave_55 ?_
          refine r_aload_n (i := 0) dX5_leave_56 rfl rfl ?_
          refine r_iload_n (i := 1) dX5_leave_57 rfl rfl ?_
          refine r_iload_n (i := 2) dX5_leave_58 rfl rfl ?_
          obtain ⟨r4, hr, h⟩ := bind_some h
          refine r_V (d' := 0) k_X5_116 dX5_leave_59 (by omega) rfl rfl rfl (Nat.le_of_ble_eq_true rfl) (Nat.le_of_ble_eq_true rfl) (ok_X5_roadCost_48 (Nat.le_refl _) hr) (fun v I' L' hq => ?_)
          obtain ⟨rfl, rfl, rfl⟩ := hq
          simp only [Option.toList_some, Option.toList_none, List.drop_succ_cons, List.drop_zero, List.drop_nil, List.cons_append, List.nil_append]
          refine r_iadd dX5_leave_62 ?_
          refine r_istore_n (i := 3) dX5_leave_63 rfl (by decide) rfl ?_
          simp only [List.set_cons_zero, List.set_cons_succ]
          replace h := lt_some h
          refine r_iload_n (i := 3) dX5_leave_64 rfl rfl ?_
          refine r_aload_n (i := 0) dX5_leave_65 rfl rfl ?_
          refine r_getR f_X5_21 dX5_leave_66 rfl rfl ?_
          refine r_iload_n (i := 2) dX5_leave_69 rfl rfl ?_
          obtain ⟨hb, h⟩ := ck_some h
          refine r_iald rfl (inb_vp hb) dX5_leave_70 ?_
          refine r_icmp_ge (tgt := 81) dX5_leave_71 (by decide) (fun c => ?_) (fun c => ?_)
          · rw [if_pos c] at h
            refine r_iinc (v := _) dX5_leave_81 rfl rfl (by decide) rfl ?_
            simp only [List.set_cons_zero, List.set_cons_succ]
            replace h := lt_some h
            refine r_goto (tgt := 16) dX5_leave_84 (by decide) ?_
            exact RR.wk (ih _ _ _ _ _ h) (And.intro rfl (And.intro rfl (And.intro rfl (trivial))))
          · rw [if_neg c] at h
            refine r_aload_n (i := 0) dX5_leave_74 rfl rfl ?_
            refine r_getR f_X5_21 dX5_leave_75 rfl rfl ?_
            refine r_iload_n (i := 2) dX5_leave_78 rfl rfl ?_
            refine r_iload_n (i := 3) dX5_leave_79 rfl rfl ?_
            obtain ⟨hb, h⟩ := ck_some h
            refine r_iast rfl (inb_vp hb) dX5_leave_80 ?_
            replace h := lt_some h
            refine r_iinc (v := _) dX5_leave_81 rfl rfl (by decide) rfl ?_
            simp only [List.set_cons_zero, List.set_cons_succ]
            replace h := lt_some h
            refine r_goto (tgt := 16) dX5_leave_84 (by decide) ?_
            exact RR.wk (ih _ _ _ _ _ h) (And.intro rfl (And.intro rfl (And.intro rfl (trivial))))
def f_X5_leave_48 (I : mI) (L : mL) (a1 : Int32) : rV := lt (uI I 48 12 ((I 48 12) &&& (((1 : Int32) <<< (a1 &&& 31)) ^^^ (-1)))) (fun M1 => f_X5_leave_48_l16 fuel a1 0 M1 L)
theorem ok_X5_leave_48 {d : Nat} (hd : 1 ≤ d) {I : mI} {L : mL} {a1 : Int32} {o : mI × mL} (h : f_X5_leave_48 I L a1 = some o) : RR mX5_leave d 0 [some (.ref 48), some (.int a1), none, none] [] I L (retQ none o.1 o.2) := by
  unfold f_X5_leave_48 at h
  refine r_aload_n (i := 0) dX5_leave_0 rfl rfl ?_
  refine r_dup dX5_leave_1 rfl ?_
  refine r_getI f_X5_113 dX5_leave_2 rfl rfl ?_
  refine r_iconst (v := 1) dX5_leave_5 (by decide) ?_
  refine r_iload_n (i := 1) dX5_leave_6 rfl rfl ?_
  refine r_ishl dX5_leave_7 ?_
  refine r_iconst (v := (-1)) dX5_leave_8 (by decide) ?_
  refine r_ixor dX5_leave_9 ?_
  refine r_iand dX5_leave_10 ?_
  refine r_putI f_X5_113 rfl rfl dX5_leave_11 rfl rfl ?_
  replace h := lt_some h
  refine r_iconst (v := 0) dX5_leave_14 (by decide) ?_
  refine r_istore_n (i := 2) dX5_leave_15 rfl (by decide) rfl ?_
  simp only [List.set_cons_zero, List.set_cons_succ]
  exact RR.wk (ok_X5_leave_48_l16 hd _ _ _ _ _ _ h) (And.intro rfl (And.intro rfl (And.intro rfl (trivial))))
def f_X5_spread_48_l7 : Nat → Int32 → mI → mL → rV
  | 0, _, _, _ => none
  | n + 1, x2, I, L => if (I 48 8) ≤ x2 then (some (I, L)) else ((f_X5_nearest_48 I L).bind (fun r3 => if 0 ≤ r3 then (bndV (f_X5_leave_48 I L r3) (fun Ir4 Lr4 => lt (x2 + Int32.ofInt 1) (fun v6 => f_X5_spread_48_l7 n v6 Ir4 Lr4))) else (some (I, L))))
theorem ok_X5_spread_48_l7 {d : Nat} (hd : 2 ≤ d) : ∀ (n : Nat) (x2 : Int32) (I : mI) (L : mL) (o : mI × mL), f_X5_spread_48_l7 n x2 I L = some o → RR mX5_spread d 7 [some (.ref 48), none, some (.int x2), none] [] I L (retQ none o.1 o.2) := by
  intro n
  induction n with
  | zero => intro x2 I L o h; rw [f_X5_spread_48_l7] at h; cases h
  | succ n ih =>
    intro x2 I L o h
    rw [f_X5_spread_48_l7] at h
    refine r_iload_n (i := 2) dX5_spread_7 rfl rfl ?_
    refine r_aload_n (i := 0) dX5_spread_8 rfl rfl ?_
    refine r_getI f_X5_46 dX5_spread_9 rfl rfl ?_
    refine r_icmp_ge (tgt := 36) dX5_spread_12 (by decide) (fun c => ?_) (fun c => ?_)
    · rw [if_pos c] at h
      refine r_vret dX5_spread_36 ?_
      obtain rfl := Option.some.inj h
      exact ⟨rfl, rfl, rfl⟩
    · rw [if_neg c] at h
      refine r_aload_n (i := 0) dX5_spread_15 rfl rfl ?_
      obtain ⟨r3, hr, h⟩ := bind_some h
      refine r_V (d' := 0) k_X5_84 dX5_spread_16 (by omega) rfl rfl rfl (Nat.le_of_ble_eq_true rfl) (Nat.le_of_ble_eq_true rfl) (ok_X5_nearest_48 (Nat.le_refl _) hr) (fun v I' L' hq => ?_)
      obtain ⟨rfl, rfl, rfl⟩ := hq
      simp only [Option.toList_some, Option.toList_none, List.drop_succ_cons, List.drop_zero, List.drop_nil, List.cons_append, List.nil_append]
      refine r_istore_n (i := 3) dX5_spread_19 rfl (by decide) rfl ?_
      simp only [List.set_cons_zero, List.set_cons_succ]
      refine r_iload_n (i := 3) dX5_spread_20 rfl rfl ?_
      refine r_if_ge (tgt := 25) dX5_spread_21 (by decide) (fun c => ?_) (fun c => ?_)
      · rw [if_pos c] at h
        refine r_aload_n (i := 0) dX5_spread_25 rfl rfl ?_
        refine r_iload_n (i := 3) dX5_spread_26 rfl rfl ?_
        obtain ⟨⟨Ir4, Lr4⟩, hr, h⟩ := bind_some h
        refine r_V (d' := 1) k_X5_88 dX5_spread_27 (by omega) rfl rfl rfl (Nat.le_of_ble_eq_true rfl) (Nat.le_of_ble_eq_true rfl) (ok_X5_leave_48 (Nat.le_refl _) hr) (fun v I' L' hq => ?_)
        obtain ⟨rfl, rfl, rfl⟩ := hq
        simp only [Option.toList_some, Option.toList_none, List.drop_succ_cons, List.drop_zero, List.drop_nil, List.cons_append, List.nil_append]
        dsimp only at h
        refine r_iinc (v := _) dX5_spread_30 rfl rfl (by decide) rfl ?_
        simp only [List.set_cons_zero, List.set_cons_succ]
        replace h := lt_some h
        refine r_goto (tgt := 7) dX5_spread_33 (by decide) ?_
        exact RR.wk (ih _ _ _ _ h) (And.intro rfl (And.intro rfl (trivial)))
      · rw [if_neg c] at h
        refine r_vret dX5_spread_24 ?_
        obtain rfl := Option.some.inj h
        exact ⟨rfl, rfl, rfl⟩
def f_X5_spread_48 (I : mI) (L : mL) (a1 : Int32) : rV := bndV (f_X5_start_48 I L a1) (fun Ir1 Lr1 => f_X5_spread_48_l7 fuel 0 Ir1 Lr1)
theorem ok_X5_spread_48 {d : Nat} (hd : 2 ≤ d) {I : mI} {L : mL} {a1 : Int32} {o : mI × mL} (h : f_X5_spread_48 I L a1 = some o) : RR mX5_spread d 0 [some (.ref 48), some (.int a1), none, none] [] I L (retQ none o.1 o.2) := by
  unfold f_X5_spread_48 at h
  refine r_aload_n (i := 0) dX5_spread_0 rfl rfl ?_
  refine r_iload_n (i := 1) dX5_spread_1 rfl rfl ?_
  obtain ⟨⟨Ir1, Lr1⟩, hr, h⟩ := bind_some h
  refine r_V (d' := 1) k_X5_80 dX5_spread_2 (by omega) rfl rfl rfl (Nat.le_of_ble_eq_true rfl) (Nat.le_of_ble_eq_true rfl) (ok_X5_start_48 (Nat.le_refl _) hr) (fun v I' L' hq => ?_)
  obtain ⟨rfl, rfl, rfl⟩ := hq
  simp only [Option.toList_some, Option.toList_none, List.drop_succ_cons, List.drop_zero, List.drop_nil, List.cons_append, List.nil_append]
  dsimp only at h
  refine r_iconst (v := 0) dX5_spread_5 (by decide) ?_
  refine r_istore_n (i := 2) dX5_spread_6 rfl (by decide) rfl ?_
  simp only [List.set_cons_zero, List.set_cons_succ]
  exact RR.wk (ok_X5_spread_48_l7 hd _ _ _ _ _ h) (And.intro rfl (And.intro rfl (trivial)))
def f_X5_spreadAll_48_l2 : Nat → Int32 → mI → mL → rV
  | 0, _, _, _ => none
  | n + 1, x1, I, L => if (I 48 8) ≤ x1 then (some (I, L)) else (bndV (f_X5_spread_48 I L x1) (fun Ir1 Lr1 => ck (cpk 0 (x1 * 8) 8 8 64) (lt (pI Ir1 50 (va_cpy (Ir1 52) (Ir1 50) (0 : Int32).toNatClampNeg (x1 * 8).toNatClampNeg (8 : Int32).toNatClampNeg)) (fun M3 => lt (x1 + Int32.ofInt 1) (fun v4 => f_X5_spreadAll_48_l2 n v4 M3 Lr1)))))
theorem ok_X5_spreadAll_48_l2 {d : Nat} (hd : 3 ≤ d) : ∀ (n : Nat) (x1 : Int32) (I : mI) (L : mL) (o : mI × mL), f_X5_spreadAll_48_l2 n x1 I L = some o → RR mX5_spreadAll d 2 [some (.ref 48), some (.int x1)] [] I L (retQ none o.1 o.2) := by
  intro n
  induction n with
  | zero => intro x1 I L o h; rw [f_X5_spreadAll_48_l2] at h; cases h
  | succ n ih =>
    intro x1 I L o h
    rw [f_X5_spreadAll_48_l2] at h
    refine r_iload_n (i := 1) dX5_spreadAll_2 rfl rfl ?_
    refine r_aload_n (i := 0) dX5_spreadAll_3 rfl rfl ?_
    refine r_getI f_X5_46 dX5_spreadAll_4 rfl rfl ?_
    refine r_icmp_ge (tgt := 39) dX5_spreadAll_7 (by decide) (fun c => ?_) (fun c => ?_)
    · rw [if_pos c] at h
      refine r_vret dX5_spreadAll_39 ?_
      obtain rfl := Option.some.inj h
      exact ⟨rfl, rfl, rfl⟩
    · rw [if_neg c] at h
      refine r_aload_n (i := 0) dX5_spreadAll_10 rfl rfl ?_
      refine r_iload_n (i := 1) dX5_spreadAll_11 rfl rfl ?_
      obtain ⟨⟨Ir1, Lr1⟩, hr, h⟩ := bind_some h
      refine r_V (d' := 2) k_X5_119 dX5_spreadAll_12 (by omega) rfl rfl rfl (Nat.le_of_ble_eq_true rfl) (Nat.le_of_ble_eq_true rfl) (ok_X5_spread_48 (Nat.le_refl _) hr) (fun v I' L' hq => ?_)
      obtain ⟨rfl, rfl, rfl⟩ := hq
      simp only [Option.toList_some, Option.toList_none, List.drop_succ_cons, List.drop_zero, List.drop_nil, List.cons_append, List.nil_append]
      dsimp only at h
      refine r_aload_n (i := 0) dX5_spreadAll_15 rfl rfl ?_
      refine r_getR f_X5_21 dX5_spreadAll_16 rfl rfl ?_
      refine r_iconst (v := 0) dX5_spreadAll_19 (by decide) ?_
      refine r_aload_n (i := 0) dX5_spreadAll_20 rfl rfl ?_
      refine r_getR f_X5_15 dX5_spreadAll_21 rfl rfl ?_
      refine r_iload_n (i := 1) dX5_spreadAll_24 rfl rfl ?_
      refine r_bipush (v := 8) dX5_spreadAll_25 (by decide) ?_
      refine r_imul dX5_spreadAll_27 ?_
      refine r_bipush (v := 8) dX5_spreadAll_28 (by decide) ?_
      obtain ⟨hb, h⟩ := ck_some h
      obtain ⟨hc1, hc2, hc3, hc4, hc5⟩ := cpk_spec hb
      refine r_copyI k_X5_122 rfl rfl hc1 hc2 hc3 hc4 hc5 dX5_spreadAll_30 (by omega) (Nat.le_of_ble_eq_true rfl) ?_
      replace h := lt_some h
      refine r_iinc (v := _) dX5_spreadAll_33 rfl rfl (by decide) rfl ?_
      simp only [List.set_cons_zero, List.set_cons_succ]
      replace h := lt_some h
      refine r_goto (tgt := 2) dX5_spreadAll_36 (by decide) ?_
      exact RR.wk (ih _ _ _ _ h) (And.intro rfl (And.intro rfl (trivial)))
def f_X5_spreadAll_48 (I : mI) (L : mL) : rV := f_X5_spreadAll_48_l2 fuel 0 I L
theorem ok_X5_spreadAll_48 {d : Nat} (hd : 3 ≤ d) {I : mI} {L : mL} {o : mI × mL} (h : f_X5_spreadAll_48 I L = some o) : RR mX5_spreadAll d 0 [some (.ref 48), none] [] I L (retQ none o.1 o.2) := by
  unfold f_X5_spreadAll_48 at h
  refine r_iconst (v := 0) dX5_spreadAll_0 (by decide) ?_
  refine r_istore_n (i := 1) dX5_spreadAll_1 rfl (by decide) rfl ?_
  simp only [List.set_cons_zero, List.set_cons_succ]
  exact RR.wk (ok_X5_spreadAll_48_l2 hd _ _ _ _ _ h) (And.intro rfl (And.intro rfl (trivial)))
def f_X5_findNext_48_l32 (k2 : Int32 → Int32 → mI → mL → rV) : Nat → Int32 → Int32 → Int32 → Int32 → mI → mL → rV
  | 0, _, _, _, _, _, _ => none
  | n + 1, x1, x2, x3, x4, I, L => if (I 48 8) ≤ x4 then (lt (x2 + Int32.ofInt 1) (fun v3 => k2 x1 v3 I L)) else (if 536870912 ≤ x3 then (lt (x4 + Int32.ofInt 1) (fun v4 => f_X5_findNext_48_l32 k2 n x1 x2 x3 v4 I L)) else (ck (inb ((x2 * 8) + x4) 64) (if (I 49 ((x2 * 8) + x4).toNatClampNeg) = (-1) then (lt (x4 + Int32.ofInt 1) (fun v5 => f_X5_findNext_48_l32 k2 n x1 x2 x3 v5 I L)) else ((f_X5_roadCost_48 I L x2 x4).bind (fun r6 => ck (inb ((x4 * 8) + x1) 64) (if (r6 + (I 50 ((x4 * 8) + x1).toNatClampNeg)) = x3 then (ck (inb x2 8) (ck (inb x2 8) (lt (uI I 53 x2.toNatClampNeg ((I 53 x2.toNatClampNeg) ||| ((1 : Int32) <<< (x4 &&& 31)))) (fun M8 => lt (x4 + Int32.ofInt 1) (fun v9 => f_X5_findNext_48_l32 k2 n x1 x2 x3 v9 M8 L))))) else (lt (x4 + Int32.ofInt 1) (fun v7 => f_X5_findNext_48_l32 k2 n x1 x2 x3 v7 I L))))))))
theorem ok_X5_findNext_48_l32 {d : Nat} (hd : 1 ≤ d) {k2 : Int32 → Int32 → mI → mL → rV} (hk2 : ∀ (x1 : Int32) (x2 : Int32) (I : mI) (L : mL) (o : mI × mL), k2 x1 x2 I L = some o → RR mX5_findNext d 2 [some (.ref 48), some (.int x1), some (.int x2), none, none] [] I L (retQ none o.1 o.2)) : ∀ (n : Nat) (x1 : Int32) (x2 : Int32) (x3 : Int32) (x4 : Int32) (I : mI) (L : mL) (o : mI × mL), f_X5_findNext_48_l32 k2 n x1 x2 x3 x4 I L = some o → RR mX5_findNext d 32 [some (.ref 48), some (.int x1), some (.int x2), some (.int x3), some (.int x4)] [] I L (retQ none o.1 o.2) := by
  intro n
  induction n with
  | zero => intro x1 x2 x3 x4 I L o h; rw [f_X5_findNext_48_l32] at h; cases h
  | succ n ih =>
    intro x1 x2 x3 x4 I L o h
    rw [f_X5_findNext_48_l32] at h
    refine r_iload dX5_findNext_32 rfl ?_
    refine r_aload_n (i := 0) dX5_findNext_34 rfl rfl ?_
    refine r_getI f_X5_46 dX5_findNext_35 rfl rfl ?_
    refine r_icmp_ge (tgt := 106) dX5_findNext_38 (by decide) (fun c => ?_) (fun c => ?_)
    · rw [if_pos c] at h
      refine r_iinc (v := _) dX5_findNext_106 rfl rfl (by decide) rfl ?_
      simp only [List.set_cons_zero, List.set_cons_succ]
      replace h := lt_some h
      refine r_goto (tgt := 2) dX5_findNext_109 (by decide) ?_
      exact RR.wk (hk2 _ _ _ _ _ h) (And.intro rfl (And.intro rfl (And.intro rfl (trivial))))
    · rw [if_neg c] at h
      refine r_iload_n (i := 3) dX5_findNext_41 rfl rfl ?_
      refine r_ldc n_X5_112 dX5_findNext_42 ?_
      refine r_icmp_ge (tgt := 100) dX5_findNext_44 (by decide) (fun c => ?_) (fun c => ?_)
      · rw [if_pos c] at h
        refine r_iinc (v := _) dX5_findNext_100 rfl rfl (by decide) rfl ?_
        simp only [List.set_cons_zero, List.set_cons_succ]
        replace h := lt_some h
        refine r_goto (tgt := 32) dX5_findNext_103 (by decide) ?_
        exact RR.wk (ih _ _ _ _ _ _ _ h) (And.intro rfl (And.intro rfl (And.intro rfl (And.intro rfl (And.intro rfl (trivial))))))
      · rw [if_neg c] at h
        refine r_aload_n (i := 0) dX5_findNext_47 rfl rfl ?_
        refine r_getR f_X5_11 dX5_findNext_48 rfl rfl ?_
        refine r_iload_n (i := 2) dX5_findNext_51 rfl rfl ?_
        refine r_bipush (v := 8) dX5_findNext_52 (by decide) ?_
        refine r_imul dX5_findNext_54 ?_
        refine r_iload dX5_findNext_55 rfl ?_
        refine r_iadd dX5_findNext_57 ?_
        obtain ⟨hb, h⟩ := ck_some h
        refine r_iald rfl (inb_vp hb) dX5_findNext_58 ?_
        refine r_iconst (v := (-1)) dX5_findNext_59 (by decide) ?_
        refine r_icmp_eq (tgt := 100) dX5_findNext_60 (by decide) (fun c => ?_) (fun c => ?_)
        · rw [if_pos c] at h
          refine r_iinc (v := _) dX5_findNext_100 rfl rfl (by decide) rfl ?_
          simp only [List.set_cons_zero, List.set_cons_succ]
          replace h := lt_some h
          refine r_goto (tgt := 32) dX5_findNext_103 (by decide) ?_
          exact RR.wk (ih _ _ _ _ _ _ _ h) (And.intro rfl (And.intro rfl (And.intro rfl (And.intro rfl (And.intro rfl (trivial))))))
        · rw [if_neg c] at h
          refine r_aload_n (i := 0) dX5_findNext_63 rfl rfl ?_
          refine r_iload_n (i := 2) dX5_findNext_64 rfl rfl ?_
          refine r_iload dX5_findNext_65 rfl ?_
          obtain ⟨r6, hr, h⟩ := bind_some h
          refine r_V (d' := 0) k_X5_116 dX5_findNext_67 (by omega) rfl rfl rfl (Nat.le_of_ble_eq_true rfl) (Nat.le_of_ble_eq_true rfl) (ok_X5_roadCost_48 (Nat.le_refl _) hr) (fun v I' L' hq => ?_)
          obtain ⟨rfl, rfl, rfl⟩ := hq
          simp only [Option.toList_some, Option.toList_none, List.drop_succ_cons, List.drop_zero, List.drop_nil, List.cons_append, List.nil_append]
          refine r_aload_n (i := 0) dX5_findNext_70 rfl rfl ?_
          refine r_getR f_X5_15 dX5_findNext_71 rfl rfl ?_
          refine r_iload dX5_findNext_74 rfl ?_
          refine r_bipush (v := 8) dX5_findNext_76 (by decide) ?_
          refine r_imul dX5_findNext_78 ?_
          refine r_iload_n (i := 1) dX5_findNext_79 rfl rfl ?_
          refine r_iadd dX5_findNext_80 ?_
          obtain ⟨hb, h⟩ := ck_some h
          refine r_iald rfl (inb_vp hb) dX5_findNext_81 ?_
          refine r_iadd dX5_findNext_82 ?_
          refine r_iload_n (i := 3) dX5_findNext_83 rfl rfl ?_
          refine r_icmp_ne (tgt := 100) dX5_findNext_84 (by decide) (fun c => ?_) (fun c => ?_)
          · rw [if_neg c] at h
            refine r_iinc (v := _) dX5_findNext_100 rfl rfl (by decide) rfl ?_
            simp only [List.set_cons_zero, List.set_cons_succ]
            replace h := lt_some h
            refine r_goto (tgt := 32) dX5_findNext_103 (by decide) ?_
            exact RR.wk (ih _ _ _ _ _ _ _ h) (And.intro rfl (And.intro rfl (And.intro rfl (And.intro rfl (And.intro rfl (trivial))))))
          · rw [if_pos c] at h
            refine r_aload_n (i := 0) dX5_findNext_87 rfl rfl ?_
            refine r_getR f_X5_24 dX5_findNext_88 rfl rfl ?_
            refine r_iload_n (i := 2) dX5_findNext_91 rfl rfl ?_
            refine r_dup2 dX5_findNext_92 rfl rfl ?_
            obtain ⟨hb, h⟩ := ck_some h
            refine r_iald rfl (inb_vp hb) dX5_findNext_93 ?_
            refine r_iconst (v := 1) dX5_findNext_94 (by decide) ?_
            refine r_iload dX5_findNext_95 rfl ?_
            refine r_ishl dX5_findNext_97 ?_
            refine r_ior dX5_findNext_98 ?_
            obtain ⟨hb, h⟩ := ck_some h
            refine r_iast rfl (inb_vp hb) dX5_findNext_99 ?_
            replace h := lt_some h
            refine r_iinc (v := _) dX5_findNext_100 rfl rfl (by decide) rfl ?_
            simp only [List.set_cons_zero, List.set_cons_succ]
            replace h := lt_some h
            refine r_goto (tgt := 32) dX5_findNext_103 (by decide) ?_
            exact RR.wk (ih _ _ _ _ _ _ _ h) (And.intro rfl (And.intro rfl (And.intro rfl (And.intro rfl (And.intro rfl (trivial))))))
def f_X5_findNext_48_l2 : Nat → Int32 → Int32 → mI → mL → rV
  | 0, _, _, _, _ => none
  | n + 1, x1, x2, I, L => if (I 48 8) ≤ x2 then (some (I, L)) else (ck (inb x2 8) (lt (uI I 53 x2.toNatClampNeg 0) (fun M1 => ck (inb ((x2 * 8) + x1) 64) (lt (M1 50 ((x2 * 8) + x1).toNatClampNeg) (fun v2 => f_X5_findNext_48_l32 (f_X5_findNext_48_l2 n) fuel x1 x2 v2 0 M1 L)))))
theorem ok_X5_findNext_48_l2 {d : Nat} (hd : 1 ≤ d) : ∀ (n : Nat) (x1 : Int32) (x2 : Int32) (I : mI) (L : mL) (o : mI × mL), f_X5_findNext_48_l2 n x1 x2 I L = some o → RR mX5_findNext d 2 [some (.ref 48), some (.int x1), some (.int x2), none, none] [] I L (retQ none o.1 o.2) := by
  intro n
  induction n with
  | zero => intro x1 x2 I L o h; rw [f_X5_findNext_48_l2] at h; cases h
  | succ n ih =>
    intro x1 x2 I L o h
    rw [f_X5_findNext_48_l2] at h
    refine r_iload_n (i := 2) dX5_findNext_2 rfl rfl ?_
    refine r_aload_n (i := 0) dX5_findNext_3 rfl rfl ?_
    refine r_getI f_X5_46 dX5_findNext_4 rfl rfl ?_
    refine r_icmp_ge (tgt := 112) dX5_findNext_7 (by decide) (fun c => ?_) (fun c => ?_)
    · rw [if_pos c] at h
      refine r_vret dX5_findNext_112 ?_
      obtain rfl := Option.some.inj h
      exact ⟨rfl, rfl, rfl⟩
    · rw [if_neg c] at h
      refine r_aload_n (i := 0) dX5_findNext_10 rfl rfl ?_
      refine r_getR f_X5_24 dX5_findNext_11 rfl rfl ?_
      refine r_iload_n (i := 2) dX5_findNext_14 rfl rfl ?_
      refine r_iconst (v := 0) dX5_findNext_15 (by decide) ?_
      obtain ⟨hb, h⟩ := ck_some h
      refine r_iast rfl (inb_vp hb) dX5_findNext_16 ?_
      replace h := lt_some h
      refine r_aload_n (i := 0) dX5_findNext_17 rfl rfl ?_
      refine r_getR f_X5_15 dX5_findNext_18 rfl rfl ?_
      refine r_iload_n (i := 2) dX5_findNext_21 rfl rfl ?_
      refine r_bipush (v := 8) dX5_findNext_22 (by decide) ?_
      refine r_imul dX5_findNext_24 ?_
      refine r_iload_n (i := 1) dX5_findNext_25 rfl rfl ?_
      refine r_iadd dX5_findNext_26 ?_
      obtain ⟨hb, h⟩ := ck_some h
      refine r_iald rfl (inb_vp hb) dX5_findNext_27 ?_
      refine r_istore_n (i := 3) dX5_findNext_28 rfl (by decide) rfl ?_
      simp only [List.set_cons_zero, List.set_cons_succ]
      replace h := lt_some h
      refine r_iconst (v := 0) dX5_findNext_29 (by decide) ?_
      refine r_istore dX5_findNext_30 (by decide) rfl ?_
      simp only [List.set_cons_zero, List.set_cons_succ]
      exact RR.wk (ok_X5_findNext_48_l32 hd ih _ _ _ _ _ _ _ _ h) (And.intro rfl (And.intro rfl (And.intro rfl (And.intro rfl (And.intro rfl (trivial))))))
def f_X5_findNext_48 (I : mI) (L : mL) (a1 : Int32) : rV := f_X5_findNext_48_l2 fuel a1 0 I L
theorem ok_X5_findNext_48 {d : Nat} (hd : 1 ≤ d) {I : mI} {L : mL} {a1 : Int32} {o : mI × mL} (h : f_X5_findNext_48 I L a1 = some o) : RR mX5_findNext d 0 [some (.ref 48), some (.int a1), none, none, none] [] I L (retQ none o.1 o.2) := by
  unfold f_X5_findNext_48 at h
  refine r_iconst (v := 0) dX5_findNext_0 (by decide) ?_
  refine r_istore_n (i := 2) dX5_findNext_1 rfl (by decide) rfl ?_
  simp only [List.set_cons_zero, List.set_cons_succ]
  exact RR.wk (ok_X5_findNext_48_l2 hd _ _ _ _ _ _ h) (And.intro rfl (And.intro rfl (And.intro rfl (trivial))))
def f_X5_reaches_48_l20 (I : mI) (L : mL) (k8 : Int32 → Int32 → Int32 → Int32 → Option Int32) : Nat → Int32 → Int32 → Int32 → Int32 → Int32 → Option Int32
  | 0, _, _, _, _, _ => none
  | n + 1, x2, x3, x4, x5, x6 => if (I 48 8) ≤ x6 then (lt (x5 + Int32.ofInt 1) (fun v2 => k8 x2 x3 x4 v2)) else (if ((x4 >>> (x6 &&& 31)) &&& 1) = 0 then (lt (x6 + Int32.ofInt 1) (fun v3 => f_X5_reaches_48_l20 I L k8 n x2 x3 x4 x5 v3)) else (ck (inb x6 8) (lt (x4 ||| ((I 53 x6.toNatClampNeg) &&& x3)) (fun v4 => lt (x6 + Int32.ofInt 1) (fun v5 => f_X5_reaches_48_l20 I L k8 n x2 x3 v4 x5 v5)))))
theorem ok_X5_reaches_48_l20 {d : Nat} (hd : 0 ≤ d){I : mI} {L : mL} {k8 : Int32 → Int32 → Int32 → Int32 → Option Int32} (hk8 : ∀ (x2 : Int32) (x3 : Int32) (x4 : Int32) (x5 : Int32) (o : Int32), k8 x2 x3 x4 x5 = some o → RR mX5_reaches d 8 [some (.ref 48), none, some (.int x2), some (.int x3), some (.int x4), some (.int x5), none] [] I L (retQ (some (.int o)) I L)) : ∀ (n : Nat) (x2 : Int32) (x3 : Int32) (x4 : Int32) (x5 : Int32) (x6 : Int32) (o : Int32), f_X5_reaches_48_l20 I L k8 n x2 x3 x4 x5 x6 = some o → RR mX5_reaches d 20 [some (.ref 48), none, some (.int x2), some (.int x3), some (.int x4), some (.int x5), some (.int x6)] [] I L (retQ (some (.int o)) I L) := by
  intro n
  induction n with
  | zero => intro x2 x3 x4 x5 x6 o h; rw [f_X5_reaches_48_l20] at h; cases h
  | succ n ih =>
    intro x2 x3 x4 x5 x6 o h
    rw [f_X5_reaches_48_l20] at h
    refine r_iload dX5_reaches_20 rfl ?_
    refine r_aload_n (i := 0) dX5_reaches_22 rfl rfl ?_
    refine r_getI f_X5_46 dX5_reaches_23 rfl rfl ?_
    refine r_icmp_ge (tgt := 59) dX5_reaches_26 (by decide) (fun c => ?_) (fun c => ?_)
    · rw [if_pos c] at h
      refine r_iinc (v := _) dX5_reaches_59 rfl rfl (by decide) rfl ?_
      simp only [List.set_cons_zero, List.set_cons_succ]
      replace h := lt_some h
      refine r_goto (tgt := 8) dX5_reaches_62 (by decide) ?_
      exact RR.wk (hk8 _ _ _ _ _ h) (And.intro rfl (And.intro rfl (And.intro rfl (And.intro rfl (And.intro rfl (trivial))))))
    · rw [if_neg c] at h
      refine r_iload dX5_reaches_29 rfl ?_
      refine r_iload dX5_reaches_31 rfl ?_
      refine r_ishr dX5_reaches_33 ?_
      refine r_iconst (v := 1) dX5_reaches_34 (by decide) ?_
      refine r_iand dX5_reaches_35 ?_
      refine r_if_eq (tgt := 53) dX5_reaches_36 (by decide) (fun c => ?_) (fun c => ?_)
      · rw [if_pos c] at h
        refine r_iinc (v := _) dX5_reaches_53 rfl rfl (by decide) rfl ?_
        simp only [List.set_cons_zero, List.set_cons_succ]
        replace h := lt_some h
        refine r_goto (tgt := 20) dX5_reaches_56 (by decide) ?_
        exact RR.wk (ih _ _ _ _ _ _ h) (And.intro rfl (And.intro rfl (And.intro rfl (And.intro rfl (And.intro rfl (And.intro rfl (trivial)))))))
      · rw [if_neg c] at h
        refine r_iload dX5_reaches_39 rfl ?_
        refine r_aload_n (i := 0) dX5_reaches_41 rfl rfl ?_
        refine r_getR f_X5_24 dX5_reaches_42 rfl rfl ?_
        refine r_iload dX5_reaches_45 rfl ?_
        obtain ⟨hb, h⟩ := ck_some h
        refine r_iald rfl (inb_vp hb) dX5_reaches_47 ?_
        refine r_iload_n (i := 3) dX5_reaches_48 rfl rfl ?_
        refine r_iand dX5_reaches_49 ?_
        refine r_ior dX5_reaches_50 ?_
        refine r_istore dX5_reaches_51 (by decide) rfl ?_
        simp only [List.set_cons_zero, List.set_cons_succ]
        replace h := lt_some h
        refine r_iinc (v := _) dX5_reaches_53 rfl rfl (by decide) rfl ?_
        simp only [List.set_cons_zero, List.set_cons_succ]
        replace h := lt_some h
        refine r_goto (tgt := 20) dX5_reaches_56 (by decide) ?_
        exact RR.wk (ih _ _ _ _ _ _ h) (And.intro rfl (And.intro rfl (And.intro rfl (And.intro rfl (And.intro rfl (And.intro rfl (trivial)))))))
def f_X5_reaches_48_l8 (I : mI) (L : mL) : Nat → Int32 → Int32 → Int32 → Int32 → Option Int32
  | 0, _, _, _, _ => none
  | n + 1, x2, x3, x4, x5 => if (I 48 8) ≤ x5 then (if ((x4 >>> (x2 &&& 31)) &&& 1) = 0 then (some 0) else (some 1)) else (f_X5_reaches_48_l20 I L (f_X5_reaches_48_l8 I L n) fuel x2 x3 x4 x5 0)
theorem ok_X5_reaches_48_l8 {d : Nat} (hd : 0 ≤ d){I : mI} {L : mL} : ∀ (n : Nat) (x2 : Int32) (x3 : Int32) (x4 : Int32) (x5 : Int32) (o : Int32), f_X5_reaches_48_l8 I L n x2 x3 x4 x5 = some o → RR mX5_reaches d 8 [some (.ref 48), none, some (.int x2), some (.int x3), some (.int x4), some (.int x5), none] [] I L (retQ (some (.int o)) I L) := by
  intro n
  induction n with
  | zero => intro x2 x3 x4 x5 o h; rw [f_X5_reaches_48_l8] at h; cases h
  | succ n ih =>
    intro x2 x3 x4 x5 o h
    rw [f_X5_reaches_48_l8] at h
    refine r_iload dX5_reaches_8 rfl ?_
    refine r_aload_n (i := 0) dX5_reaches_10 rfl rfl ?_
    refine r_getI f_X5_46 dX5_reaches_11 rfl rfl ?_
    refine r_icmp_ge (tgt := 65) dX5_reaches_14 (by decide) (fun c => ?_) (fun c => ?_)
    · rw [if_pos c] at h
      refine r_iload dX5_reaches_65 rfl ?_
      refine r_iload_n (i := 2) dX5_reaches_67 rfl rfl ?_
      refine r_ishr dX5_reaches_68 ?_
      refine r_iconst (v := 1) dX5_reaches_69 (by decide) ?_
      refine r_iand dX5_reaches_70 ?_
      refine r_if_eq (tgt := 78) dX5_reaches_71 (by decide) (fun c => ?_) (fun c => ?_)
      · rw [if_pos c] at h
        refine r_iconst (v := 0) dX5_reaches_78 (by decide) ?_
        refine r_iret (by first | rfl | decide) dX5_reaches_79 ?_
        obtain rfl := Option.some.inj h
        exact ⟨rfl, rfl, rfl⟩
      · rw [if_neg c] at h
        refine r_iconst (v := 1) dX5_reaches_74 (by decide) ?_
        refine r_goto (tgt := 79) dX5_reaches_75 (by decide) ?_
        refine r_iret (by first | rfl | decide) dX5_reaches_79 ?_
        obtain rfl := Option.some.inj h
        exact ⟨rfl, rfl, rfl⟩
    · rw [if_neg c] at h
      refine r_iconst (v := 0) dX5_reaches_17 (by decide) ?_
      refine r_istore dX5_reaches_18 (by decide) rfl ?_
      simp only [List.set_cons_zero, List.set_cons_succ]
      exact RR.wk (ok_X5_reaches_48_l20 hd ih _ _ _ _ _ _ _ h) (And.intro rfl (And.intro rfl (And.intro rfl (And.intro rfl (And.intro rfl (And.intro rfl (trivial)))))))
def f_X5_reaches_48 (I : mI) (L : mL) (a1 : Int32) (a2 : Int32) (a3 : Int32) : Option Int32 := lt ((1 : Int32) <<< (a1 &&& 31)) (fun v1 => f_X5_reaches_48_l8 I L fuel a2 a3 v1 0)
theorem ok_X5_reaches_48 {d : Nat} (hd : 0 ≤ d) {I : mI} {L : mL} {a1 : Int32} {a2 : Int32} {a3 : Int32} {o : Int32} (h : f_X5_reaches_48 I L a1 a2 a3 = some o) : RR mX5_reaches d 0 [some (.ref 48), some (.int a1), some (.int a2), some (.int a3), none, none, none] [] I L (retQ (some (.int o)) I L) := by
  unfold f_X5_reaches_48 at h
  refine r_iconst (v := 1) dX5_reaches_0 (by decide) ?_
  refine r_iload_n (i := 1) dX5_reaches_1 rfl rfl ?_
  refine r_ishl dX5_reaches_2 ?_
  refine r_istore dX5_reaches_3 (by decide) rfl ?_
  simp only [List.set_cons_zero, List.set_cons_succ]
  replace h := lt_some h
  refine r_iconst (v := 0) dX5_reaches_5 (by decide) ?_
  refine r_istore dX5_reaches_6 (by decide) rfl ?_
  simp only [List.set_cons_zero, List.set_cons_succ]
  exact RR.wk (ok_X5_reaches_48_l8 hd _ _ _ _ _ _ h) (And.intro rfl (And.intro rfl (And.intro rfl (And.intro rfl (And.intro rfl (trivial))))))
def f_X5_firstStep_48_l13 (I : mI) (L : mL) : Nat → Int32 → Int32 → Int32 → Int32 → Option Int32
  | 0, _, _, _, _ => none
  | n + 1, x2, x3, x4, x5 => if (I 48 8) ≤ x5 then (some (-1)) else (if ((x4 >>> (x5 &&& 31)) &&& 1) = 0 then (lt (x5 + Int32.ofInt 1) (fun v2 => f_X5_firstStep_48_l13 I L n x2 x3 x4 v2)) else ((f_X5_reaches_48 I L x5 x2 x3).bind (fun r3 => if r3 = 0 then (lt (x5 + Int32.ofInt 1) (fun v4 => f_X5_firstStep_48_l13 I L n x2 x3 x4 v4)) else (some x5))))
theorem ok_X5_firstStep_48_l13 {d : Nat} (hd : 1 ≤ d){I : mI} {L : mL} : ∀ (n : Nat) (x2 : Int32) (x3 : Int32) (x4 : Int32) (x5 : Int32) (o : Int32), f_X5_firstStep_48_l13 I L n x2 x3 x4 x5 = some o → RR mX5_firstStep d 13 [some (.ref 48), none, some (.int x2), some (.int x3), some (.int x4), some (.int x5)] [] I L (retQ (some (.int o)) I L) := by
  intro n
  induction n with
  | zero => intro x2 x3 x4 x5 o h; rw [f_X5_firstStep_48_l13] at h; cases h
  | succ n ih =>
    intro x2 x3 x4 x5 o h
    rw [f_X5_firstStep_48_l13] at h
    refine r_iload dX5_firstStep_13 rfl ?_
    refine r_aload_n (i := 0) dX5_firstStep_15 rfl rfl ?_
    refine r_getI f_X5_46 dX5_firstStep_16 rfl rfl ?_
    refine r_icmp_ge (tgt := 52) dX5_firstStep_19 (by decide) (fun c => ?_) (fun c => ?_)
    · rw [if_pos c] at h
      refine r_iconst (v := (-1)) dX5_firstStep_52 (by decide) ?_
      refine r_iret (by first | rfl | decide) dX5_firstStep_53 ?_
      obtain rfl := Option.some.inj h
      exact ⟨rfl, rfl, rfl⟩
    · rw [if_neg c] at h
      refine r_iload dX5_firstStep_22 rfl ?_
      refine r_iload dX5_firstStep_24 rfl ?_
      refine r_ishr dX5_firstStep_26 ?_
      refine r_iconst (v := 1) dX5_firstStep_27 (by decide) ?_
      refine r_iand dX5_firstStep_28 ?_
      refine r_if_eq (tgt := 46) dX5_firstStep_29 (by decide) (fun c => ?_) (fun c => ?_)
      · rw [if_pos c] at h
        refine r_iinc (v := _) dX5_firstStep_46 rfl rfl (by decide) rfl ?_
        simp only [List.set_cons_zero, List.set_cons_succ]
        replace h := lt_some h
        refine r_goto (tgt := 13) dX5_firstStep_49 (by decide) ?_
        exact RR.wk (ih _ _ _ _ _ h) (And.intro rfl (And.intro rfl (And.intro rfl (And.intro rfl (And.intro rfl (trivial))))))
      · rw [if_neg c] at h
        refine r_aload_n (i := 0) dX5_firstStep_32 rfl rfl ?_
        refine r_iload dX5_firstStep_33 rfl ?_
        refine r_iload_n (i := 2) dX5_firstStep_35 rfl rfl ?_
        refine r_iload_n (i := 3) dX5_firstStep_36 rfl rfl ?_
        obtain ⟨r3, hr, h⟩ := bind_some h
        refine r_V (d' := 0) k_X5_141 dX5_firstStep_37 (by omega) rfl rfl rfl (Nat.le_of_ble_eq_true rfl) (Nat.le_of_ble_eq_true rfl) (ok_X5_reaches_48 (Nat.le_refl _) hr) (fun v I' L' hq => ?_)
        obtain ⟨rfl, rfl, rfl⟩ := hq
        simp only [Option.toList_some, Option.toList_none, List.drop_succ_cons, List.drop_zero, List.drop_nil, List.cons_append, List.nil_append]
        refine r_if_eq (tgt := 46) dX5_firstStep_40 (by decide) (fun c => ?_) (fun c => ?_)
        · rw [if_pos c] at h
          refine r_iinc (v := _) dX5_firstStep_46 rfl rfl (by decide) rfl ?_
          simp only [List.set_cons_zero, List.set_cons_succ]
          replace h := lt_some h
          refine r_goto (tgt := 13) dX5_firstStep_49 (by decide) ?_
          exact RR.wk (ih _ _ _ _ _ h) (And.intro rfl (And.intro rfl (And.intro rfl (And.intro rfl (And.intro rfl (trivial))))))
        · rw [if_neg c] at h
          refine r_iload dX5_firstStep_43 rfl ?_
          refine r_iret (by first | rfl | decide) dX5_firstStep_45 ?_
          obtain rfl := Option.some.inj h
          exact ⟨rfl, rfl, rfl⟩
def f_X5_firstStep_48 (I : mI) (L : mL) (a1 : Int32) (a2 : Int32) (a3 : Int32) : Option Int32 := ck (inb a1 8) (lt ((I 53 a1.toNatClampNeg) &&& a3) (fun v1 => f_X5_firstStep_48_l13 I L fuel a2 a3 v1 0))
theorem ok_X5_firstStep_48 {d : Nat} (hd : 1 ≤ d) {I : mI} {L : mL} {a1 : Int32} {a2 : Int32} {a3 : Int32} {o : Int32} (h : f_X5_firstStep_48 I L a1 a2 a3 = some o) : RR mX5_firstStep d 0 [some (.ref 48), some (.int a1), some (.int a2), some (.int a3), none, none] [] I L (retQ (some (.int o)) I L) := by
  unfold f_X5_firstStep_48 at h
  refine r_aload_n (i := 0) dX5_firstStep_0 rfl rfl ?_
  refine r_getR f_X5_24 dX5_firstStep_1 rfl rfl ?_
  refine r_iload_n (i := 1) dX5_firstStep_4 rfl rfl ?_
  obtain ⟨hb, h⟩ := ck_some h
  refine r_iald rfl (inb_vp hb) dX5_firstStep_5 ?_
  refine r_iload_n (i := 3) dX5_firstStep_6 rfl rfl ?_
  refine r_iand dX5_firstStep_7 ?_
  refine r_istore dX5_firstStep_8 (by decide) rfl ?_
  simp only [List.set_cons_zero, List.set_cons_succ]
  replace h := lt_some h
  refine r_iconst (v := 0) dX5_firstStep_10 (by decide) ?_
  refine r_istore dX5_firstStep_11 (by decide) rfl ?_
  simp only [List.set_cons_zero, List.set_cons_succ]
  exact RR.wk (ok_X5_firstStep_48_l13 hd _ _ _ _ _ _ h) (And.intro rfl (And.intro rfl (And.intro rfl (And.intro rfl (And.intro rfl (trivial))))))
