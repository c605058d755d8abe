def f_X10_beam_0 (I : mI) (L : mL) (a1 : Int32) (a2 : Int32) (a3 : Int32) (a4 : Int32) (a5 : Int32) (a6 : Int32) (a7 : Int32) : Option Int32 := (f_X3_hasParish_2 I L a1).bind (fun r1 => if r1 = 0 then (some (-1000001)) else ((f_X3_hasParish_2 I L a2).bind (fun r2 => if r2 = 0 then (some (-1000001)) else ((f_X6_isLane I L a3 a4).bind (fun r3 => if r3 = 0 then (some (-1000001)) else ((f_X10_within I L a6 0 8).bind (fun r4 => if r4 = 0 then (some (-1000001)) else ((f_X10_within I L a7 0 1).bind (fun r5 => if r5 = 0 then (some (-1000001)) else ((f_X6_fault_39 I L a3 a4 a5 (2 * a6)).bind (fun r6 => if 0 ≤ r6 then (ck (inb a3 4) ((f_X0_areStones_w I L (a3.toNatClampNeg) a5 a6).bind (fun r8 => if r8 = 0 then (some (-1000002)) else ((f_X0_turning_1_w I L a1 a2 (a3.toNatClampNeg) a5 a6).bind (fun r9 => if a7 = 0 then (some r9) else ((f_X7_weightAt_1 I L a1 1).bind (fun r10 => (f_X7_weightAt_1 I L a2 1).bind (fun r11 => (f_X0_fewest I L r9 r10 r11).bind (fun r12 => if r12 ≤ 30 then (some r12) else (some (-1000004))))))))))) else (some ((-1000000) + r6)))))))))))))
theorem ok_X10_beam_0 {d : Nat} (hd : 4 ≤ d) {I : mI} {L : mL} {a1 : Int32} {a2 : Int32} {a3 : Int32} {a4 : Int32} {a5 : Int32} {a6 : Int32} {a7 : Int32} {o : Int32} (h : f_X10_beam_0 I L a1 a2 a3 a4 a5 a6 a7 = some o) : RR mX10_beam d 0 [some (.ref 0), some (.int a1), some (.int a2), some (.int a3), some (.int a4), some (.int a5), some (.int a6), some (.int a7), none, none, none, none] [] I L (retQ (some (.int o)) I L) := by
  unfold f_X10_beam_0 at h
  refine r_aload_n (i := 0) dX10_beam_0 rfl rfl ?_
  refine r_getR f_X10_10 dX10_beam_1 rfl rfl ?_
  refine r_getR f_X10_76 dX10_beam_4 rfl rfl ?_
  refine r_iload_n (i := 1) dX10_beam_7 rfl rfl ?_
  obtain ⟨r1, hr, h⟩ := bind_some h
  refine r_V (d' := 0) k_X10_90 dX10_beam_8 (by omega) rfl rfl rfl (Nat.le_of_ble_eq_true rfl) (Nat.le_of_ble_eq_true rfl) (ok_X3_hasParish_2 (Nat.le_refl _) hr) (fun v I' L' hq => ?_)
  obtain ⟨rfl, rfl, rfl⟩ := hq
  simp only [Option.toList_some, Option.toList_none, List.drop_succ_cons, List.drop_zero, List.drop_nil, List.cons_append, List.nil_append]
  refine r_if_eq (tgt := 58) dX10_beam_11 (by decide) (fun c => ?_) (fun c => ?_)
  · rw [if_pos c] at h
    refine r_ldc n_X10_232 dX10_beam_58 ?_
    refine r_iret (by first | rfl | decide) dX10_beam_60 ?_
    obtain rfl := Option.some.inj h
    exact ⟨rfl, rfl, rfl⟩
  · rw [if_neg c] at h
    refine r_aload_n (i := 0) dX10_beam_14 rfl rfl ?_
    refine r_getR f_X10_10 dX10_beam_15 rfl rfl ?_
    refine r_getR f_X10_76 dX10_beam_18 rfl rfl ?_
    refine r_iload_n (i := 2) dX10_beam_21 rfl rfl ?_
    obtain ⟨r2, hr, h⟩ := bind_some h
    refine r_V (d' := 0) k_X10_90 dX10_beam_22 (by omega) rfl rfl rfl (Nat.le_of_ble_eq_true rfl) (Nat.le_of_ble_eq_true rfl) (ok_X3_hasParish_2 (Nat.le_refl _) hr) (fun v I' L' hq => ?_)
    obtain ⟨rfl, rfl, rfl⟩ := hq
    simp only [Option.toList_some, Option.toList_none, List.drop_succ_cons, List.drop_zero, List.drop_nil, List.cons_append, List.nil_append]
    refine r_if_eq (tgt := 58) dX10_beam_25 (by decide) (fun c => ?_) (fun c => ?_)
    · rw [if_pos c] at h
      refine r_ldc n_X10_232 dX10_beam_58 ?_
      refine r_iret (by first | rfl | decide) dX10_beam_60 ?_
      obtain rfl := Option.some.inj h
      exact ⟨rfl, rfl, rfl⟩
    · rw [if_neg c] at h
      refine r_iload_n (i := 3) dX10_beam_28 rfl rfl ?_
      refine r_iload dX10_beam_29 rfl ?_
      obtain ⟨r3, hr, h⟩ := bind_some h
      refine r_S (d' := 1) k_X10_311 dX10_beam_31 (by omega) rfl (Nat.le_of_ble_eq_true rfl) (Nat.le_of_ble_eq_true rfl) (ok_X6_isLane (Nat.le_refl _) hr) (fun v I' L' hq => ?_)
      obtain ⟨rfl, rfl, rfl⟩ := hq
      simp only [Option.toList_some, Option.toList_none, List.drop_succ_cons, List.drop_zero, List.drop_nil, List.cons_append, List.nil_append]
      refine r_if_eq (tgt := 58) dX10_beam_34 (by decide) (fun c => ?_) (fun c => ?_)
      · rw [if_pos c] at h
        refine r_ldc n_X10_232 dX10_beam_58 ?_
        refine r_iret (by first | rfl | decide) dX10_beam_60 ?_
        obtain rfl := Option.some.inj h
        exact ⟨rfl, rfl, rfl⟩
      · rw [if_neg c] at h
        refine r_iload dX10_beam_37 rfl ?_
        refine r_iconst (v := 0) dX10_beam_39 (by decide) ?_
        refine r_bipush (v := 8) dX10_beam_40 (by decide) ?_
        obtain ⟨r4, hr, h⟩ := bind_some h
        refine r_S (d' := 0) k_X10_72 dX10_beam_42 (by omega) rfl (Nat.le_of_ble_eq_true rfl) (Nat.le_of_ble_eq_true rfl) (ok_X10_within (Nat.le_refl _) hr) (fun v I' L' hq => ?_)
        obtain ⟨rfl, rfl, rfl⟩ := hq
        simp only [Option.toList_some, Option.toList_none, List.drop_succ_cons, List.drop_zero, List.drop_nil, List.cons_append, List.nil_append]
        refine r_if_eq (tgt := 58) dX10_beam_45 (by decide) (fun c => ?_) (fun c => ?_)
        · rw [if_pos c] at h
          refine r_ldc n_X10_232 dX10_beam_58 ?_
          refine r_iret (by first | rfl | decide) dX10_beam_60 ?_
          obtain rfl := Option.some.inj h
          exact ⟨rfl, rfl, rfl⟩
        · rw [if_neg c] at h
          refine r_iload dX10_beam_48 rfl ?_
          refine r_iconst (v := 0) dX10_beam_50 (by decide) ?_
          refine r_iconst (v := 1) dX10_beam_51 (by decide) ?_
          obtain ⟨r5, hr, h⟩ := bind_some h
          refine r_S (d' := 0) k_X10_72 dX10_beam_52 (by omega) rfl (Nat.le_of_ble_eq_true rfl) (Nat.le_of_ble_eq_true rfl) (ok_X10_within (Nat.le_refl _) hr) (fun v I' L' hq => ?_)
          obtain ⟨rfl, rfl, rfl⟩ := hq
          simp only [Option.toList_some, Option.toList_none, List.drop_succ_cons, List.drop_zero, List.drop_nil, List.cons_append, List.nil_append]
          refine r_if_ne (tgt := 61) dX10_beam_55 (by decide) (fun c => ?_) (fun c => ?_)
          · rw [if_neg c] at h
            refine r_aload_n (i := 0) dX10_beam_61 rfl rfl ?_
            refine r_getR f_X10_29 dX10_beam_62 rfl rfl ?_
            refine r_iload_n (i := 3) dX10_beam_65 rfl rfl ?_
            refine r_iload dX10_beam_66 rfl ?_
            refine r_iload dX10_beam_68 rfl ?_
            refine r_iconst (v := 2) dX10_beam_70 (by decide) ?_
            refine r_iload dX10_beam_71 rfl ?_
            refine r_imul dX10_beam_73 ?_
            obtain ⟨r6, hr, h⟩ := bind_some h
            refine r_V (d' := 1) k_X10_316 dX10_beam_74 (by omega) rfl rfl rfl (Nat.le_of_ble_eq_true rfl) (Nat.le_of_ble_eq_true rfl) (ok_X6_fault_39 (Nat.le_refl _) hr) (fun v I' L' hq => ?_)
            obtain ⟨rfl, rfl, rfl⟩ := hq
            simp only [Option.toList_some, Option.toList_none, List.drop_succ_cons, List.drop_zero, List.drop_nil, List.cons_append, List.nil_append]
            refine r_istore dX10_beam_77 (by decide) rfl ?_
            simp only [List.set_cons_zero, List.set_cons_succ]
            refine r_iload dX10_beam_79 rfl ?_
            refine r_if_ge (tgt := 91) dX10_beam_81 (by decide) (fun c => ?_) (fun c => ?_)
            · rw [if_pos c] at h
              refine r_aload_n (i := 0) dX10_beam_91 rfl rfl ?_
              refine r_getR f_X10_29 dX10_beam_92 rfl rfl ?_
              refine r_getR f_X10_321 dX10_beam_95 rfl rfl ?_
              refine r_iload_n (i := 3) dX10_beam_98 rfl rfl ?_
              obtain ⟨hb7, h⟩ := ck_some h
              refine r_aald rfl (inb_vp hb7) dX10_beam_99 ?_
              refine r_astore dX10_beam_100 (by decide) rfl ?_
              simp only [List.set_cons_zero, List.set_cons_succ]
              refine r_aload dX10_beam_102 rfl ?_
              refine r_iload dX10_beam_104 rfl ?_
              refine r_iload dX10_beam_106 rfl ?_
              obtain ⟨r8, hr, h⟩ := bind_some h
              refine r_S (d' := 0) k_X10_325 dX10_beam_108 (by omega) rfl (Nat.le_of_ble_eq_true rfl) (Nat.le_of_ble_eq_true rfl) (ok_X0_areStones_w (Nat.le_refl _) (inb_lt hb7) hr) (fun v I' L' hq => ?_)
              obtain ⟨rfl, rfl, rfl⟩ := hq
              simp only [Option.toList_some, Option.toList_none, List.drop_succ_cons, List.drop_zero, List.drop_nil, List.cons_append, List.nil_append]
              refine r_if_ne (tgt := 118) dX10_beam_111 (by decide) (fun c => ?_) (fun c => ?_)
              · rw [if_neg c] at h
                refine r_aload_n (i := 0) dX10_beam_118 rfl rfl ?_
                refine r_getR f_X10_10 dX10_beam_119 rfl rfl ?_
                refine r_iload_n (i := 1) dX10_beam_122 rfl rfl ?_
                refine r_iload_n (i := 2) dX10_beam_123 rfl rfl ?_
                refine r_aload dX10_beam_124 rfl ?_
                refine r_iload dX10_beam_126 rfl ?_
                refine r_iload dX10_beam_128 rfl ?_
                obtain ⟨r9, hr, h⟩ := bind_some h
                refine r_S (d' := 3) k_X10_330 dX10_beam_130 (by omega) rfl (Nat.le_of_ble_eq_true rfl) (Nat.le_of_ble_eq_true rfl) (ok_X0_turning_1_w (Nat.le_refl _) (inb_lt hb7) hr) (fun v I' L' hq => ?_)
                obtain ⟨rfl, rfl, rfl⟩ := hq
                simp only [Option.toList_some, Option.toList_none, List.drop_succ_cons, List.drop_zero, List.drop_nil, List.cons_append, List.nil_append]
                refine r_istore dX10_beam_133 (by decide) rfl ?_
                simp only [List.set_cons_zero, List.set_cons_succ]
                refine r_iload dX10_beam_135 rfl ?_
                refine r_if_ne (tgt := 143) dX10_beam_137 (by decide) (fun c => ?_) (fun c => ?_)
                · rw [if_neg c] at h
                  refine r_iload dX10_beam_143 rfl ?_
                  refine r_aload_n (i := 0) dX10_beam_145 rfl rfl ?_
                  refine r_getR f_X10_10 dX10_beam_146 rfl rfl ?_
                  refine r_iload_n (i := 1) dX10_beam_149 rfl rfl ?_
                  refine r_iconst (v := 1) dX10_beam_150 (by decide) ?_
                  obtain ⟨r10, hr, h⟩ := bind_some h
                  refine r_V (d' := 2) k_X10_171 dX10_beam_151 (by omega) rfl rfl rfl (Nat.le_of_ble_eq_true rfl) (Nat.le_of_ble_eq_true rfl) (ok_X7_weightAt_1 (Nat.le_refl _) hr) (fun v I' L' hq => ?_)
                  obtain ⟨rfl, rfl, rfl⟩ := hq
                  simp only [Option.toList_some, Option.toList_none, List.drop_succ_cons, List.drop_zero, List.drop_nil, List.cons_append, List.nil_append]
                  refine r_aload_n (i := 0) dX10_beam_154 rfl rfl ?_
                  refine r_getR f_X10_10 dX10_beam_155 rfl rfl ?_
                  refine r_iload_n (i := 2) dX10_beam_158 rfl rfl ?_
                  refine r_iconst (v := 1) dX10_beam_159 (by decide) ?_
                  obtain ⟨r11, hr, h⟩ := bind_some h
                  refine r_V (d' := 2) k_X10_171 dX10_beam_160 (by omega) rfl rfl rfl (Nat.le_of_ble_eq_true rfl) (Nat.le_of_ble_eq_true rfl) (ok_X7_weightAt_1 (Nat.le_refl _) hr) (fun v I' L' hq => ?_)
                  obtain ⟨rfl, rfl, rfl⟩ := hq
                  simp only [Option.toList_some, Option.toList_none, List.drop_succ_cons, List.drop_zero, List.drop_nil, List.cons_append, List.nil_append]
                  obtain ⟨r12, hr, h⟩ := bind_some h
                  refine r_S (d' := 1) k_X10_334 dX10_beam_163 (by omega) rfl (Nat.le_of_ble_eq_true rfl) (Nat.le_of_ble_eq_true rfl) (ok_X0_fewest (Nat.le_refl _) hr) (fun v I' L' hq => ?_)
                  obtain ⟨rfl, rfl, rfl⟩ := hq
                  simp only [Option.toList_some, Option.toList_none, List.drop_succ_cons, List.drop_zero, List.drop_nil, List.cons_append, List.nil_append]
                  refine r_istore dX10_beam_166 (by decide) rfl ?_
                  simp only [List.set_cons_zero, List.set_cons_succ]
                  refine r_iload dX10_beam_168 rfl ?_
                  refine r_bipush (v := 30) dX10_beam_170 (by decide) ?_
                  refine r_icmp_le (tgt := 180) dX10_beam_172 (by decide) (fun c => ?_) (fun c => ?_)
                  · rw [if_pos c] at h
                    refine r_iload dX10_beam_180 rfl ?_
                    refine r_iret (by first | rfl | decide) dX10_beam_182 ?_
                    obtain rfl := Option.some.inj h
                    exact ⟨rfl, rfl, rfl⟩
                  · rw [if_neg c] at h
                    refine r_ldc n_X10_243 dX10_beam_175 ?_
                    refine r_goto (tgt := 182) dX10_beam_177 (by decide) ?_
                    refine r_iret (by first | rfl | decide) dX10_beam_182 ?_
                    obtain rfl := Option.some.inj h
                    exact ⟨rfl, rfl, rfl⟩
                · rw [if_pos c] at h
                  refine r_iload dX10_beam_140 rfl ?_
                  refine r_iret (by first | rfl | decide) dX10_beam_142 ?_
                  obtain rfl := Option.some.inj h
                  exact ⟨rfl, rfl, rfl⟩
              · rw [if_pos c] at h
                refine r_ldcw n_X10_329 dX10_beam_114 ?_
                refine r_iret (by first | rfl | decide) dX10_beam_117 ?_
                obtain rfl := Option.some.inj h
                exact ⟨rfl, rfl, rfl⟩
            · rw [if_neg c] at h
              refine r_ldcw n_X10_320 dX10_beam_84 ?_
              refine r_iload dX10_beam_87 rfl ?_
              refine r_iadd dX10_beam_89 ?_
              refine r_iret (by first | rfl | decide) dX10_beam_90 ?_
              obtain rfl := Option.some.inj h
              exact ⟨rfl, rfl, rfl⟩
          · rw [if_pos c] at h
            refine r_ldc n_X10_232 dX10_beam_58 ?_
            refine r_iret (by first | rfl | decide) dX10_beam_60 ?_
            obtain rfl := Option.some.inj h
            exact ⟨rfl, rfl, rfl⟩
def f_J7_fill_53178_66_l5 : Nat → Int32 → Int32 → Int32 → mI → mL → rV
  | 0, _, _, _, _, _ => none
  | n + 1, x1, x2, x3, I, L => if x3 ≤ x2 then (some (I, L)) else (ck (inb x2 4) (lt (uI I 66 x2.toNatClampNeg x1) (fun M1 => lt (x2 + Int32.ofInt 1) (fun v2 => f_J7_fill_53178_66_l5 n x1 v2 x3 M1 L))))
theorem ok_J7_fill_53178_66_l5 {d : Nat} (hd : 0 ≤ d) : ∀ (n : Nat) (x1 : Int32) (x2 : Int32) (x3 : Int32) (I : mI) (L : mL) (o : mI × mL), f_J7_fill_53178_66_l5 n x1 x2 x3 I L = some o → RR mJ7_fill_53178 d 5 [some (.ref 66), some (.int x1), some (.int x2), some (.int x3)] [] I L (retQ none o.1 o.2) := by
  intro n
  induction n with
  | zero => intro x1 x2 x3 I L o h; rw [f_J7_fill_53178_66_l5] at h; cases h
  | succ n ih =>
    intro x1 x2 x3 I L o h
    rw [f_J7_fill_53178_66_l5] at h
    refine r_iload_n (i := 2) dJ7_fill_53178_5 rfl rfl ?_
    refine r_iload_n (i := 3) dJ7_fill_53178_6 rfl rfl ?_
    refine r_icmp_ge (tgt := 20) dJ7_fill_53178_7 (by decide) (fun c => ?_) (fun c => ?_)
    · rw [if_pos c] at h
      refine r_vret dJ7_fill_53178_20 ?_
      obtain rfl := Option.some.inj h
      exact ⟨rfl, rfl, rfl⟩
    · rw [if_neg c] at h
      refine r_aload_n (i := 0) dJ7_fill_53178_10 rfl rfl ?_
      refine r_iload_n (i := 2) dJ7_fill_53178_11 rfl rfl ?_
      refine r_iload_n (i := 1) dJ7_fill_53178_12 rfl rfl ?_
      obtain ⟨hb, h⟩ := ck_some h
      refine r_iast rfl (inb_vp hb) dJ7_fill_53178_13 ?_
      replace h := lt_some h
      refine r_iinc (v := _) dJ7_fill_53178_14 rfl rfl (by decide) rfl ?_
      simp only [List.set_cons_zero, List.set_cons_succ]
      replace h := lt_some h
      refine r_goto (tgt := 5) dJ7_fill_53178_17 (by decide) ?_
      exact RR.wk (ih _ _ _ _ _ _ h) (And.intro rfl (And.intro rfl (And.intro rfl (And.intro rfl (trivial)))))
def f_J7_fill_53178_66 (I : mI) (L : mL) (a1 : Int32) : rV := f_J7_fill_53178_66_l5 fuel a1 0 4 I L
theorem ok_J7_fill_53178_66 {d : Nat} (hd : 0 ≤ d) {I : mI} {L : mL} {a1 : Int32} {o : mI × mL} (h : f_J7_fill_53178_66 I L a1 = some o) : RR mJ7_fill_53178 d 0 [some (.ref 66), some (.int a1), none, none] [] I L (retQ none o.1 o.2) := by
  unfold f_J7_fill_53178_66 at h
  refine r_iconst (v := 0) dJ7_fill_53178_0 (by decide) ?_
  refine r_istore_n (i := 2) dJ7_fill_53178_1 rfl (by decide) rfl ?_
  simp only [List.set_cons_zero, List.set_cons_succ]
  refine r_aload_n (i := 0) dJ7_fill_53178_2 rfl rfl ?_
  refine r_alenI (v := 4) rfl (by decide) dJ7_fill_53178_3 ?_
  refine r_istore_n (i := 3) dJ7_fill_53178_4 rfl (by decide) rfl ?_
  simp only [List.set_cons_zero, List.set_cons_succ]
  exact RR.wk (ok_J7_fill_53178_66_l5 hd _ _ _ _ _ _ _ h) (And.intro rfl (And.intro rfl (And.intro rfl (And.intro rfl (trivial)))))
def f_X1_open_65 (I : mI) (L : mL) (a1 : Int32) (a2 : Int32) (a3 : Int32) : rV := lt (uI I 65 1 a1) (fun M1 => lt (uI M1 65 2 a2) (fun M2 => lt (uI M2 65 3 a3) (fun M3 => bndV (f_J7_fill_53178_66 M3 L 1022) (fun Ir4 Lr4 => some (Ir4, Lr4)))))
theorem ok_X1_open_65 {d : Nat} (hd : 1 ≤ d) {I : mI} {L : mL} {a1 : Int32} {a2 : Int32} {a3 : Int32} {o : mI × mL} (h : f_X1_open_65 I L a1 a2 a3 = some o) : RR mX1_open d 0 [some (.ref 65), some (.int a1), some (.int a2), some (.int a3)] [] I L (retQ none o.1 o.2) := by
  unfold f_X1_open_65 at h
  refine r_aload_n (i := 0) dX1_open_0 rfl rfl ?_
  refine r_iload_n (i := 1) dX1_open_1 rfl rfl ?_
  refine r_putI f_X1_15 rfl rfl dX1_open_2 rfl rfl ?_
  replace h := lt_some h
  refine r_aload_n (i := 0) dX1_open_5 rfl rfl ?_
  refine r_iload_n (i := 2) dX1_open_6 rfl rfl ?_
  refine r_putI f_X1_19 rfl rfl dX1_open_7 rfl rfl ?_
  replace h := lt_some h
  refine r_aload_n (i := 0) dX1_open_10 rfl rfl ?_
  refine r_iload_n (i := 3) dX1_open_11 rfl rfl ?_
  refine r_putI f_X1_22 rfl rfl dX1_open_12 rfl rfl ?_
  replace h := lt_some h
  refine r_aload_n (i := 0) dX1_open_15 rfl rfl ?_
  refine r_getR f_X1_9 dX1_open_16 rfl rfl ?_
  refine r_sipush (v := 1022) dX1_open_19 (by decide) ?_
  obtain ⟨⟨Ir4, Lr4⟩, hr, h⟩ := bind_some h
  refine r_S (d' := 0) k_X1_25 dX1_open_22 (by omega) rfl (Nat.le_of_ble_eq_true rfl) (Nat.le_of_ble_eq_true rfl) (ok_J7_fill_53178_66 (Nat.le_refl _) hr) (fun v I' L' hq => ?_)
  obtain ⟨rfl, rfl, rfl⟩ := hq
  simp only [Option.toList_some, Option.toList_none, List.drop_succ_cons, List.drop_zero, List.drop_nil, List.cons_append, List.nil_append]
  dsimp only at h
  refine r_vret dX1_open_25 ?_
  obtain rfl := Option.some.inj h
  exact ⟨rfl, rfl, rfl⟩
def f_X1_pullsFor_65_l5 (I : mI) (L : mL) : Nat → Int64 → Int32 → Int32 → Option Int32
  | 0, _, _, _ => none
  | n + 1, x1, x3, x4 => if 9 < x4 then (some x3) else ((f_X3_weight I L (I 65 1) x4 (I 65 2)).bind (fun r1 => if (lg_cmp (r1.toInt64) x1) = 0 then (lt (x3 ||| ((1 : Int32) <<< (x4 &&& 31))) (fun v3 => lt (x4 + Int32.ofInt 1) (fun v4 => f_X1_pullsFor_65_l5 I L n x1 v3 v4))) else (lt (x4 + Int32.ofInt 1) (fun v2 => f_X1_pullsFor_65_l5 I L n x1 x3 v2))))
theorem ok_X1_pullsFor_65_l5 {d : Nat} (hd : 1 ≤ d){I : mI} {L : mL} : ∀ (n : Nat) (x1 : Int64) (x3 : Int32) (x4 : Int32) (o : Int32), f_X1_pullsFor_65_l5 I L n x1 x3 x4 = some o → RR mX1_pullsFor d 5 [some (.ref 65), some (.long x1), none, some (.int x3), some (.int x4)] [] I L (retQ (some (.int o)) I L) := by
  intro n
  induction n with
  | zero => intro x1 x3 x4 o h; rw [f_X1_pullsFor_65_l5] at h; cases h
  | succ n ih =>
    intro x1 x3 x4 o h
    rw [f_X1_pullsFor_65_l5] at h
    refine r_iload dX1_pullsFor_5 rfl ?_
    refine r_bipush (v := 9) dX1_pullsFor_7 (by decide) ?_
    refine r_icmp_gt (tgt := 44) dX1_pullsFor_9 (by decide) (fun c => ?_) (fun c => ?_)
    · rw [if_pos c] at h
      refine r_iload_n (i := 3) dX1_pullsFor_44 rfl rfl ?_
      refine r_iret (by first | rfl | decide) dX1_pullsFor_45 ?_
      obtain rfl := Option.some.inj h
      exact ⟨rfl, rfl, rfl⟩
    · rw [if_neg c] at h
      refine r_aload_n (i := 0) dX1_pullsFor_12 rfl rfl ?_
      refine r_getI f_X1_15 dX1_pullsFor_13 rfl rfl ?_
      refine r_iload dX1_pullsFor_16 rfl ?_
      refine r_aload_n (i := 0) dX1_pullsFor_18 rfl rfl ?_
      refine r_getI f_X1_19 dX1_pullsFor_19 rfl rfl ?_
      obtain ⟨r1, hr, h⟩ := bind_some h
      refine r_S (d' := 0) k_X1_46 dX1_pullsFor_22 (by omega) rfl (Nat.le_of_ble_eq_true rfl) (Nat.le_of_ble_eq_true rfl) (ok_X3_weight (Nat.le_refl _) hr) (fun v I' L' hq => ?_)
      obtain ⟨rfl, rfl, rfl⟩ := hq
      simp only [Option.toList_some, Option.toList_none, List.drop_succ_cons, List.drop_zero, List.drop_nil, List.cons_append, List.nil_append]
      refine r_i2l dX1_pullsFor_25 ?_
      refine r_lload_n (i := 1) dX1_pullsFor_26 rfl rfl ?_
      refine r_lcmp dX1_pullsFor_27 ?_
      refine r_if_ne (tgt := 38) dX1_pullsFor_28 (by decide) (fun c => ?_) (fun c => ?_)
      · rw [if_neg c] at h
        refine r_iinc (v := _) dX1_pullsFor_38 rfl rfl (by decide) rfl ?_
        simp only [List.set_cons_zero, List.set_cons_succ]
        replace h := lt_some h
        refine r_goto (tgt := 5) dX1_pullsFor_41 (by decide) ?_
        exact RR.wk (ih _ _ _ _ h) (And.intro rfl (And.intro rfl (And.intro rfl (And.intro rfl (trivial)))))
      · rw [if_pos c] at h
        refine r_iload_n (i := 3) dX1_pullsFor_31 rfl rfl ?_
        refine r_iconst (v := 1) dX1_pullsFor_32 (by decide) ?_
        refine r_iload dX1_pullsFor_33 rfl ?_
        refine r_ishl dX1_pullsFor_35 ?_
        refine r_ior dX1_pullsFor_36 ?_
        refine r_istore_n (i := 3) dX1_pullsFor_37 rfl (by decide) rfl ?_
        simp only [List.set_cons_zero, List.set_cons_succ]
        replace h := lt_some h
        refine r_iinc (v := _) dX1_pullsFor_38 rfl rfl (by decide) rfl ?_
        simp only [List.set_cons_zero, List.set_cons_succ]
        replace h := lt_some h
        refine r_goto (tgt := 5) dX1_pullsFor_41 (by decide) ?_
        exact RR.wk (ih _ _ _ _ h) (And.intro rfl (And.intro rfl (And.intro rfl (And.intro rfl (trivial)))))
def f_X1_pullsFor_65 (I : mI) (L : mL) (a1 : Int64) : Option Int32 := f_X1_pullsFor_65_l5 I L fuel a1 0 1
theorem ok_X1_pullsFor_65 {d : Nat} (hd : 1 ≤ d) {I : mI} {L : mL} {a1 : Int64} {o : Int32} (h : f_X1_pullsFor_65 I L a1 = some o) : RR mX1_pullsFor d 0 [some (.ref 65), some (.long a1), none, none, none] [] I L (retQ (some (.int o)) I L) := by
  unfold f_X1_pullsFor_65 at h
  refine r_iconst (v := 0) dX1_pullsFor_0 (by decide) ?_
  refine r_istore_n (i := 3) dX1_pullsFor_1 rfl (by decide) rfl ?_
  simp only [List.set_cons_zero, List.set_cons_succ]
  refine r_iconst (v := 1) dX1_pullsFor_2 (by decide) ?_
  refine r_istore dX1_pullsFor_3 (by decide) rfl ?_
  simp only [List.set_cons_zero, List.set_cons_succ]
  exact RR.wk (ok_X1_pullsFor_65_l5 hd _ _ _ _ _ h) (And.intro rfl (And.intro rfl (And.intro rfl (And.intro rfl (trivial)))))
def f_X1_readItems_65_w_l3 : Nat → Nat → Int32 → Int32 → Int32 → mI → mL → rI
  | 0, _, _, _, _, _, _ => none
  | n + 1, x1, x2, x3, x4, I, L => if x3 ≤ x4 then (some ((-1), I, L)) else (ck (inb (x2 + x4) 24) (if (lg_cmp (L (41 + x1) (x2 + x4).toNatClampNeg) 0) < 0 then (lt (x4 + Int32.ofInt 1) (fun v1 => f_X1_readItems_65_w_l3 n x1 x2 x3 v1 I L)) else ((f_X7_seasonOf I L ((I 65 3) + x4)).bind (fun r2 => ck (inb r2 4) (ck (inb (x2 + x4) 24) ((f_X1_pullsFor_65 I L (L (41 + x1) (x2 + x4).toNatClampNeg)).bind (fun r3 => ck (inb r2 4) (lt (uI I 66 r2.toNatClampNeg ((I 66 r2.toNatClampNeg) &&& r3)) (fun M4 => ck (inb r2 4) (if (M4 66 r2.toNatClampNeg) = 0 then (some (x4, M4, L)) else (lt (x4 + Int32.ofInt 1) (fun v5 => f_X1_readItems_65_w_l3 n x1 x2 x3 v5 M4 L))))))))))))
theorem ok_X1_readItems_65_w_l3 {d : Nat} (hd : 2 ≤ d) : ∀ (n : Nat) (x1 : Nat) (x2 : Int32) (x3 : Int32) (x4 : Int32) (hx1 : x1 < 4) (I : mI) (L : mL) (o : Int32 × mI × mL), f_X1_readItems_65_w_l3 n x1 x2 x3 x4 I L = some o → RR mX1_readItems d 3 [some (.ref 65), some (.ref (41 + x1)), some (.int x2), some (.int x3), some (.int x4), none] [] I L (retQ (some (.int o.1)) o.2.1 o.2.2) := by
  intro n
  induction n with
  | zero => intro x1 x2 x3 x4 hx1 I L o h; rw [f_X1_readItems_65_w_l3] at h; cases h
  | succ n ih =>
    intro x1 x2 x3 x4 hx1 I L o h
    rw [f_X1_readItems_65_w_l3] at h
    refine r_iload dX1_readItems_3 rfl ?_
    refine r_iload_n (i := 3) dX1_readItems_5 rfl rfl ?_
    refine r_icmp_ge (tgt := 71) dX1_readItems_6 (by decide) (fun c => ?_) (fun c => ?_)
    · rw [if_pos c] at h
      refine r_iconst (v := (-1)) dX1_readItems_71 (by decide) ?_
      refine r_iret (by first | rfl | decide) dX1_readItems_72 ?_
      obtain rfl := Option.some.inj h
      exact ⟨rfl, rfl, rfl⟩
    · rw [if_neg c] at h
      refine r_aload_n (i := 1) dX1_readItems_9 rfl rfl ?_
      refine r_iload_n (i := 2) dX1_readItems_10 rfl rfl ?_
      refine r_iload dX1_readItems_11 rfl ?_
      refine r_iadd dX1_readItems_13 ?_
      obtain ⟨hb, h⟩ := ck_some h
      refine r_lald (sh_row hx1) (inb_vp hb) dX1_readItems_14 ?_
      refine r_lconst (v := 0) dX1_readItems_15 (by decide) ?_
      refine r_lcmp dX1_readItems_16 ?_
      refine r_if_lt (tgt := 65) dX1_readItems_17 (by decide) (fun c => ?_) (fun c => ?_)
      · rw [if_pos c] at h
        refine r_iinc (v := _) dX1_readItems_65 rfl rfl (by decide) rfl ?_
        simp only [List.set_cons_zero, List.set_cons_succ]
        replace h := lt_some h
        refine r_goto (tgt := 3) dX1_readItems_68 (by decide) ?_
        exact RR.wk (ih _ _ _ _ hx1 _ _ _ h) (And.intro rfl (And.intro rfl (And.intro rfl (And.intro rfl (And.intro rfl (trivial))))))
      · rw [if_neg c] at h
        refine r_aload_n (i := 0) dX1_readItems_20 rfl rfl ?_
        refine r_getI f_X1_22 dX1_readItems_21 rfl rfl ?_
        refine r_iload dX1_readItems_24 rfl ?_
        refine r_iadd dX1_readItems_26 ?_
        obtain ⟨r2, hr, h⟩ := bind_some h
        refine r_S (d' := 0) k_X1_31 dX1_readItems_27 (by omega) rfl (Nat.le_of_ble_eq_true rfl) (Nat.le_of_ble_eq_true rfl) (ok_X7_seasonOf (Nat.le_refl _) hr) (fun v I' L' hq => ?_)
        obtain ⟨rfl, rfl, rfl⟩ := hq
        simp only [Option.toList_some, Option.toList_none, List.drop_succ_cons, List.drop_zero, List.drop_nil, List.cons_append, List.nil_append]
        refine r_istore dX1_readItems_30 (by decide) rfl ?_
        simp only [List.set_cons_zero, List.set_cons_succ]
        refine r_aload_n (i := 0) dX1_readItems_32 rfl rfl ?_
        refine r_getR f_X1_9 dX1_readItems_33 rfl rfl ?_
        refine r_iload dX1_readItems_36 rfl ?_
        refine r_dup2 dX1_readItems_38 rfl rfl ?_
        obtain ⟨hb, h⟩ := ck_some h
        refine r_iald rfl (inb_vp hb) dX1_readItems_39 ?_
        refine r_aload_n (i := 0) dX1_readItems_40 rfl rfl ?_
        refine r_aload_n (i := 1) dX1_readItems_41 rfl rfl ?_
        refine r_iload_n (i := 2) dX1_readItems_42 rfl rfl ?_
        refine r_iload dX1_readItems_43 rfl ?_
        refine r_iadd dX1_readItems_45 ?_
        obtain ⟨hb, h⟩ := ck_some h
        refine r_lald (sh_row hx1) (inb_vp hb) dX1_readItems_46 ?_
        obtain ⟨r3, hr, h⟩ := bind_some h
        refine r_V (d' := 1) k_X1_37 dX1_readItems_47 (by omega) rfl rfl rfl (Nat.le_of_ble_eq_true rfl) (Nat.le_of_ble_eq_true rfl) (ok_X1_pullsFor_65 (Nat.le_refl _) hr) (fun v I' L' hq => ?_)
        obtain ⟨rfl, rfl, rfl⟩ := hq
        simp only [Option.toList_some, Option.toList_none, List.drop_succ_cons, List.drop_zero, List.drop_nil, List.cons_append, List.nil_append]
        refine r_iand dX1_readItems_50 ?_
        obtain ⟨hb, h⟩ := ck_some h
        refine r_iast rfl (inb_vp hb) dX1_readItems_51 ?_
        replace h := lt_some h
        refine r_aload_n (i := 0) dX1_readItems_52 rfl rfl ?_
        refine r_getR f_X1_9 dX1_readItems_53 rfl rfl ?_
        refine r_iload dX1_readItems_56 rfl ?_
        obtain ⟨hb, h⟩ := ck_some h
        refine r_iald rfl (inb_vp hb) dX1_readItems_58 ?_
        refine r_if_ne (tgt := 65) dX1_readItems_59 (by decide) (fun c => ?_) (fun c => ?_)
        · rw [if_neg c] at h
          refine r_iinc (v := _) dX1_readItems_65 rfl rfl (by decide) rfl ?_
          simp only [List.set_cons_zero, List.set_cons_succ]
          replace h := lt_some h
          refine r_goto (tgt := 3) dX1_readItems_68 (by decide) ?_
          exact RR.wk (ih _ _ _ _ hx1 _ _ _ h) (And.intro rfl (And.intro rfl (And.intro rfl (And.intro rfl (And.intro rfl (trivial))))))
        · rw [if_pos c] at h
          refine r_iload dX1_readItems_62 rfl ?_
          refine r_iret (by first | rfl | decide) dX1_readItems_64 ?_
          obtain rfl := Option.some.inj h
          exact ⟨rfl, rfl, rfl⟩
def f_X1_readItems_65_w (I : mI) (L : mL) (a1 : Nat) (a2 : Int32) (a3 : Int32) : rI := f_X1_readItems_65_w_l3 fuel a1 a2 a3 0 I L
theorem ok_X1_readItems_65_w {d : Nat} (hd : 2 ≤ d) {I : mI} {L : mL} {a1 : Nat} {a2 : Int32} {a3 : Int32} (hw1 : a1 < 4) {o : Int32 × mI × mL} (h : f_X1_readItems_65_w I L a1 a2 a3 = some o) : RR mX1_readItems d 0 [some (.ref 65), some (.ref (41 + a1)), some (.int a2), some (.int a3), none, none] [] I L (retQ (some (.int o.1)) o.2.1 o.2.2) := by
  unfold f_X1_readItems_65_w at h
  refine r_iconst (v := 0) dX1_readItems_0 (by decide) ?_
  refine r_istore dX1_readItems_1 (by decide) rfl ?_
  simp only [List.set_cons_zero, List.set_cons_succ]
  exact RR.wk (ok_X1_readItems_65_w_l3 hd _ _ _ _ _ hw1 _ _ _ h) (And.intro rfl (And.intro rfl (And.intro rfl (And.intro rfl (And.intro rfl (trivial))))))
def f_X1_sureSeasons_65_l4 (I : mI) (L : mL) : Nat → Int32 → Int32 → Option Int32
  | 0, _, _ => none
  | n + 1, x1, x2 => if 4 ≤ x2 then (some x1) else (ck (inb x2 4) ((f_J6_bitCount_0f7a4 I L (I 66 x2.toNatClampNeg)).bind (fun r1 => if r1 = 1 then (lt (x1 ||| ((1 : Int32) <<< (x2 &&& 31))) (fun v3 => lt (x2 + Int32.ofInt 1) (fun v4 => f_X1_sureSeasons_65_l4 I L n v3 v4))) else (lt (x2 + Int32.ofInt 1) (fun v2 => f_X1_sureSeasons_65_l4 I L n x1 v2)))))
theorem ok_X1_sureSeasons_65_l4 {d : Nat} (hd : 1 ≤ d){I : mI} {L : mL} : ∀ (n : Nat) (x1 : Int32) (x2 : Int32) (o : Int32), f_X1_sureSeasons_65_l4 I L n x1 x2 = some o → RR mX1_sureSeasons d 4 [some (.ref 65), some (.int x1), some (.int x2)] [] I L (retQ (some (.int o)) I L) := by
  intro n
  induction n with
  | zero => intro x1 x2 o h; rw [f_X1_sureSeasons_65_l4] at h; cases h
  | succ n ih =>
    intro x1 x2 o h
    rw [f_X1_sureSeasons_65_l4] at h
    refine r_iload_n (i := 2) dX1_sureSeasons_4 rfl rfl ?_
    refine r_iconst (v := 4) dX1_sureSeasons_5 (by decide) ?_
    refine r_icmp_ge (tgt := 34) dX1_sureSeasons_6 (by decide) (fun c => ?_) (fun c => ?_)
    · rw [if_pos c] at h
      refine r_iload_n (i := 1) dX1_sureSeasons_34 rfl rfl ?_
      refine r_iret (by first | rfl | decide) dX1_sureSeasons_35 ?_
      obtain rfl := Option.some.inj h
      exact ⟨rfl, rfl, rfl⟩
    · rw [if_neg c] at h
      refine r_aload_n (i := 0) dX1_sureSeasons_9 rfl rfl ?_
      refine r_getR f_X1_9 dX1_sureSeasons_10 rfl rfl ?_
      refine r_iload_n (i := 2) dX1_sureSeasons_13 rfl rfl ?_
      obtain ⟨hb, h⟩ := ck_some h
      refine r_iald rfl (inb_vp hb) dX1_sureSeasons_14 ?_
      obtain ⟨r1, hr, h⟩ := bind_some h
      refine r_S (d' := 0) k_X1_41 dX1_sureSeasons_15 (by omega) rfl (Nat.le_of_ble_eq_true rfl) (Nat.le_of_ble_eq_true rfl) (ok_J6_bitCount_0f7a4 (Nat.le_refl _) hr) (fun v I' L' hq => ?_)
      obtain ⟨rfl, rfl, rfl⟩ := hq
      simp only [Option.toList_some, Option.toList_none, List.drop_succ_cons, List.drop_zero, List.drop_nil, List.cons_append, List.nil_append]
      refine r_iconst (v := 1) dX1_sureSeasons_18 (by decide) ?_
      refine r_icmp_ne (tgt := 28) dX1_sureSeasons_19 (by decide) (fun c => ?_) (fun c => ?_)
      · rw [if_neg c] at h
        refine r_iinc (v := _) dX1_sureSeasons_28 rfl rfl (by decide) rfl ?_
        simp only [List.set_cons_zero, List.set_cons_succ]
        replace h := lt_some h
        refine r_goto (tgt := 4) dX1_sureSeasons_31 (by decide) ?_
        exact RR.wk (ih _ _ _ h) (And.intro rfl (And.intro rfl (And.intro rfl (trivial))))
      · rw [if_pos c] at h
        refine r_iload_n (i := 1) dX1_sureSeasons_22 rfl rfl ?_
        refine r_iconst (v := 1) dX1_sureSeasons_23 (by decide) ?_
        refine r_iload_n (i := 2) dX1_sureSeasons_24 rfl rfl ?_
        refine r_ishl dX1_sureSeasons_25 ?_
        refine r_ior dX1_sureSeasons_26 ?_
        refine r_istore_n (i := 1) dX1_sureSeasons_27 rfl (by decide) rfl ?_
        simp only [List.set_cons_zero, List.set_cons_succ]
        replace h := lt_some h
        refine r_iinc (v := _) dX1_sureSeasons_28 rfl rfl (by decide) rfl ?_
        simp only [List.set_cons_zero, List.set_cons_succ]
        replace h := lt_some h
        refine r_goto (tgt := 4) dX1_sureSeasons_31 (by decide) ?_
        exact RR.wk (ih _ _ _ h) (And.intro rfl (And.intro rfl (And.intro rfl (trivial))))
def f_X1_sureSeasons_65 (I : mI) (L : mL) : Option Int32 := f_X1_sureSeasons_65_l4 I L fuel 0 0
theorem ok_X1_sureSeasons_65 {d : Nat} (hd : 1 ≤ d) {I : mI} {L : mL} {o : Int32} (h : f_X1_sureSeasons_65 I L = some o) : RR mX1_sureSeasons d 0 [some (.ref 65), none, none] [] I L (retQ (some (.int o)) I L) := by
  unfold f_X1_sureSeasons_65 at h
  refine r_iconst (v := 0) dX1_sureSeasons_0 (by decide) ?_
  refine r_istore_n (i := 1) dX1_sureSeasons_1 rfl (by decide) rfl ?_
  simp only [List.set_cons_zero, List.set_cons_succ]
  refine r_iconst (v := 0) dX1_sureSeasons_2 (by decide) ?_
  refine r_istore_n (i := 2) dX1_sureSeasons_3 rfl (by decide) rfl ?_
  simp only [List.set_cons_zero, List.set_cons_succ]
  exact RR.wk (ok_X1_sureSeasons_65_l4 hd _ _ _ _ h) (And.intro rfl (And.intro rfl (And.intro rfl (trivial))))
def f_X1_fittingRows_65_l4 (I : mI) (L : mL) : Nat → Int32 → Int32 → Option Int32
  | 0, _, _ => none
  | n + 1, x1, x2 => if 4 ≤ x2 then (some x1) else (ck (inb x2 4) ((f_J6_bitCount_0f7a4 I L (I 66 x2.toNatClampNeg)).bind (fun r1 => lt (x1 * r1) (fun v2 => lt (x2 + Int32.ofInt 1) (fun v3 => f_X1_fittingRows_65_l4 I L n v2 v3)))))
theorem ok_X1_fittingRows_65_l4 {d : Nat} (hd : 1 ≤ d){I : mI} {L : mL} : ∀ (n : Nat) (x1 : Int32) (x2 : Int32) (o : Int32), f_X1_fittingRows_65_l4 I L n x1 x2 = some o → RR mX1_fittingRows d 4 [some (.ref 65), some (.int x1), some (.int x2)] [] I L (retQ (some (.int o)) I L) := by
  intro n
  induction n with
  | zero => intro x1 x2 o h; rw [f_X1_fittingRows_65_l4] at h; cases h
  | succ n ih =>
    intro x1 x2 o h
    rw [f_X1_fittingRows_65_l4] at h
    refine r_iload_n (i := 2) dX1_fittingRows_4 rfl rfl ?_
    refine r_iconst (v := 4) dX1_fittingRows_5 (by decide) ?_
    refine r_icmp_ge (tgt := 27) dX1_fittingRows_6 (by decide) (fun c => ?_) (fun c => ?_)
    · rw [if_pos c] at h
      refine r_iload_n (i := 1) dX1_fittingRows_27 rfl rfl ?_
      refine r_iret (by first | rfl | decide) dX1_fittingRows_28 ?_
      obtain rfl := Option.some.inj h
      exact ⟨rfl, rfl, rfl⟩
    · rw [if_neg c] at h
      refine r_iload_n (i := 1) dX1_fittingRows_9 rfl rfl ?_
      refine r_aload_n (i := 0) dX1_fittingRows_10 rfl rfl ?_
      refine r_getR f_X1_9 dX1_fittingRows_11 rfl rfl ?_
      refine r_iload_n (i := 2) dX1_fittingRows_14 rfl rfl ?_
      obtain ⟨hb, h⟩ := ck_some h
      refine r_iald rfl (inb_vp hb) dX1_fittingRows_15 ?_
      obtain ⟨r1, hr, h⟩ := bind_some h
      refine r_S (d' := 0) k_X1_41 dX1_fittingRows_16 (by omega) rfl (Nat.le_of_ble_eq_true rfl) (Nat.le_of_ble_eq_true rfl) (ok_J6_bitCount_0f7a4 (Nat.le_refl _) hr) (fun v I' L' hq => ?_)
      obtain ⟨rfl, rfl, rfl⟩ := hq
      simp only [Option.toList_some, Option.toList_none, List.drop_succ_cons, List.drop_zero, List.drop_nil, List.cons_append, List.nil_append]
      refine r_imul dX1_fittingRows_19 ?_
      refine r_istore_n (i := 1) dX1_fittingRows_20 rfl (by decide) rfl ?_
      simp only [List.set_cons_zero, List.set_cons_succ]
      replace h := lt_some h
      refine r_iinc (v := _) dX1_fittingRows_21 rfl rfl (by decide) rfl ?_
      simp only [List.set_cons_zero, List.set_cons_succ]
      replace h := lt_some h
      refine r_goto (tgt := 4) dX1_fittingRows_24 (by decide) ?_
      exact RR.wk (ih _ _ _ h) (And.intro rfl (And.intro rfl (And.intro rfl (trivial))))
def f_X1_fittingRows_65 (I : mI) (L : mL) : Option Int32 := f_X1_fittingRows_65_l4 I L fuel 1 0
theorem ok_X1_fittingRows_65 {d : Nat} (hd : 1 ≤ d) {I : mI} {L : mL} {o : Int32} (h : f_X1_fittingRows_65 I L = some o) : RR mX1_fittingRows d 0 [some (.ref 65), none, none] [] I L (retQ (some (.int o)) I L) := by
  unfold f_X1_fittingRows_65 at h
  refine r_iconst (v := 1) dX1_fittingRows_0 (by decide) ?_
  refine r_istore_n (i := 1) dX1_fittingRows_1 rfl (by decide) rfl ?_
  simp only [List.set_cons_zero, List.set_cons_succ]
  refine r_iconst (v := 0) dX1_fittingRows_2 (by decide) ?_
  refine r_istore_n (i := 2) dX1_fittingRows_3 rfl (by decide) rfl ?_
  simp only [List.set_cons_zero, List.set_cons_succ]
  exact RR.wk (ok_X1_fittingRows_65_l4 hd _ _ _ _ h) (And.intro rfl (And.intro rfl (And.intro rfl (trivial))))
def f_X10_book_0 (I : mI) (L : mL) (a1 : Int32) (a2 : Int32) (a3 : Int32) (a4 : Int32) (a5 : Int32) (a6 : Int32) (a7 : Int32) (a8 : Int32) : rI := (f_X3_hasParish_2 I L a1).bind (fun r1 => if r1 = 0 then (some ((-1), I, L)) else ((f_X10_within I L a2 1 99).bind (fun r2 => if r2 = 0 then (some ((-1), I, L)) else ((f_X10_within I L a3 0 9975).bind (fun r3 => if r3 = 0 then (some ((-1), I, L)) else ((f_X6_isLane I L a4 a5).bind (fun r4 => if r4 = 0 then (some ((-1), I, L)) else ((f_X10_within I L a7 1 24).bind (fun r5 => if r5 = 0 then (some ((-1), I, L)) else ((f_X10_within I L a8 0 2).bind (fun r6 => if r6 = 0 then (some ((-1), I, L)) else ((f_X6_fault_39 I L a4 a5 a6 a7).bind (fun r7 => if 0 ≤ r7 then (ck (inb a1 8) (bndV (f_X1_open_65 I L (I 3 a1.toNatClampNeg) a2 a3) (fun Ir8 Lr8 => ck (inb a4 4) (bndI (f_X1_readItems_65_w Ir8 Lr8 (a4.toNatClampNeg) a6 a7) (fun r11 Ir11 Lr11 => if a8 = 0 then ((f_X1_fittingRows_65 Ir11 Lr11).bind (fun r14 => some (r14, Ir11, Lr11))) else (if a8 = 1 then (if 0 ≤ r11 then (some ((-4), Ir11, Lr11)) else ((f_X1_sureSeasons_65 Ir11 Lr11).bind (fun r13 => some (r13, Ir11, Lr11)))) else (if 0 ≤ r11 then (some (r11, Ir11, Lr11)) else (some ((-4), Ir11, Lr11))))))))) else (some (r7, I, L)))))))))))))))
theorem ok_X10_book_0 {d : Nat} (hd : 3 ≤ d) {I : mI} {L : mL} {a1 : Int32} {a2 : Int32} {a3 : Int32} {a4 : Int32} {a5 : Int32} {a6 : Int32} {a7 : Int32} {a8 : Int32} {o : Int32 × mI × mL} (h : f_X10_book_0 I L a1 a2 a3 a4 a5 a6 a7 a8 = some o) : RR mX10_book d 0 [some (.ref 0), some (.int a1), some (.int a2), some (.int a3), some (.int a4), some (.int a5), some (.int a6), some (.int a7), some (.int a8), none, none] [] I L (retQ (some (.int o.1)) o.2.1 o.2.2) := by
  unfold f_X10_book_0 at h
  refine r_aload_n (i := 0) dX10_book_0 rfl rfl ?_
  refine r_getR f_X10_10 dX10_book_1 rfl rfl ?_
  refine r_getR f_X10_76 dX10_book_4 rfl rfl ?_
  refine r_iload_n (i := 1) dX10_book_7 rfl rfl ?_
  obtain ⟨r1, hr, h⟩ := bind_some h
  refine r_V (d' := 0) k_X10_90 dX10_book_8 (by omega) rfl rfl rfl (Nat.le_of_ble_eq_true rfl) (Nat.le_of_ble_eq_true rfl) (ok_X3_hasParish_2 (Nat.le_refl _) hr) (fun v I' L' hq => ?_)
  obtain ⟨rfl, rfl, rfl⟩ := hq
  simp only [Option.toList_some, Option.toList_none, List.drop_succ_cons, List.drop_zero, List.drop_nil, List.cons_append, List.nil_append]
  refine r_if_eq (tgt := 66) dX10_book_11 (by decide) (fun c => ?_) (fun c => ?_)
  · rw [if_pos c] at h
    refine r_iconst (v := (-1)) dX10_book_66 (by decide) ?_
    refine r_iret (by first | rfl | decide) dX10_book_67 ?_
    obtain rfl := Option.some.inj h
    exact ⟨rfl, rfl, rfl⟩
  · rw [if_neg c] at h
    refine r_iload_n (i := 2) dX10_book_14 rfl rfl ?_
    refine r_iconst (v := 1) dX10_book_15 (by decide) ?_
    refine r_bipush (v := 99) dX10_book_16 (by decide) ?_
    obtain ⟨r2, hr, h⟩ := bind_some h
    refine r_S (d' := 0) k_X10_72 dX10_book_18 (by omega) rfl (Nat.le_of_ble_eq_true rfl) (Nat.le_of_ble_eq_true rfl) (ok_X10_within (Nat.le_refl _) hr) (fun v I' L' hq => ?_)
    obtain ⟨rfl, rfl, rfl⟩ := hq
    simp only [Option.toList_some, Option.toList_none, List.drop_succ_cons, List.drop_zero, List.drop_nil, List.cons_append, List.nil_append]
    refine r_if_eq (tgt := 66) dX10_book_21 (by decide) (fun c => ?_) (fun c => ?_)
    · rw [if_pos c] at h
      refine r_iconst (v := (-1)) dX10_book_66 (by decide) ?_
      refine r_iret (by first | rfl | decide) dX10_book_67 ?_
      obtain rfl := Option.some.inj h
      exact ⟨rfl, rfl, rfl⟩
    · rw [if_neg c] at h
      refine r_iload_n (i := 3) dX10_book_24 rfl rfl ?_
      refine r_iconst (v := 0) dX10_book_25 (by decide) ?_
      refine r_sipush (v := 9975) dX10_book_26 (by decide) ?_
      obtain ⟨r3, hr, h⟩ := bind_some h
      refine r_S (d' := 0) k_X10_72 dX10_book_29 (by omega) rfl (Nat.le_of_ble_eq_true rfl) (Nat.le_of_ble_eq_true rfl) (ok_X10_within (Nat.le_refl _) hr) (fun v I' L' hq => ?_)
      obtain ⟨rfl, rfl, rfl⟩ := hq
      simp only [Option.toList_some, Option.toList_none, List.drop_succ_cons, List.drop_zero, List.drop_nil, List.cons_append, List.nil_append]
      refine r_if_eq (tgt := 66) dX10_book_32 (by decide) (fun c => ?_) (fun c => ?_)
      · rw [if_pos c] at h
        refine r_iconst (v := (-1)) dX10_book_66 (by decide) ?_
        refine r_iret (by first | rfl | decide) dX10_book_67 ?_
        obtain rfl := Option.some.inj h
        exact ⟨rfl, rfl, rfl⟩
      · rw [if_neg c] at h
        refine r_iload dX10_book_35 rfl ?_
        refine r_iload dX10_book_37 rfl ?_
        obtain ⟨r4, hr, h⟩ := bind_some h
        refine r_S (d' := 1) k_X10_311 dX10_book_39 (by omega) rfl (Nat.le_of_ble_eq_true rfl) (Nat.le_of_ble_eq_true rfl) (ok_X6_isLane (Nat.le_refl _) hr) (fun v I' L' hq => ?_)
        obtain ⟨rfl, rfl, rfl⟩ := hq
        simp only [Option.toList_some, Option.toList_none, List.drop_succ_cons, List.drop_zero, List.drop_nil, List.cons_append, List.nil_append]
        refine r_if_eq (tgt := 66) dX10_book_42 (by decide) (fun c => ?_) (fun c => ?_)
        · rw [if_pos c] at h
          refine r_iconst (v := (-1)) dX10_book_66 (by decide) ?_
          refine r_iret (by first | rfl | decide) dX10_book_67 ?_
          obtain rfl := Option.some.inj h
          exact ⟨rfl, rfl, rfl⟩
        · rw [if_neg c] at h
          refine r_iload dX10_book_45 rfl ?_
          refine r_iconst (v := 1) dX10_book_47 (by decide) ?_
          refine r_bipush (v := 24) dX10_book_48 (by decide) ?_
          obtain ⟨r5, hr, h⟩ := bind_some h
          refine r_S (d' := 0) k_X10_72 dX10_book_50 (by omega) rfl (Nat.le_of_ble_eq_true rfl) (Nat.le_of_ble_eq_true rfl) (ok_X10_within (Nat.le_refl _) hr) (fun v I' L' hq => ?_)
          obtain ⟨rfl, rfl, rfl⟩ := hq
          simp only [Option.toList_some, Option.toList_none, List.drop_succ_cons, List.drop_zero, List.drop_nil, List.cons_append, List.nil_append]
          refine r_if_eq (tgt := 66) dX10_book_53 (by decide) (fun c => ?_) (fun c => ?_)
          · rw [if_pos c] at h
            refine r_iconst (v := (-1)) dX10_book_66 (by decide) ?_
            refine r_iret (by first | rfl | decide) dX10_book_67 ?_
            obtain rfl := Option.some.inj h
            exact ⟨rfl, rfl, rfl⟩
          · rw [if_neg c] at h
            refine r_iload dX10_book_56 rfl ?_
            refine r_iconst (v := 0) dX10_book_58 (by decide) ?_
            refine r_iconst (v := 2) dX10_book_59 (by decide) ?_
            obtain ⟨r6, hr, h⟩ := bind_some h
            refine r_S (d' := 0) k_X10_72 dX10_book_60 (by omega) rfl (Nat.le_of_ble_eq_true rfl) (Nat.le_of_ble_eq_true rfl) (ok_X10_within (Nat.le_refl _) hr) (fun v I' L' hq => ?_)
            obtain ⟨rfl, rfl, rfl⟩ := hq
            simp only [Option.toList_some, Option.toList_none, List.drop_succ_cons, List.drop_zero, List.drop_nil, List.cons_append, List.nil_append]
            refine r_if_ne (tgt := 68) dX10_book_63 (by decide) (fun c => ?_) (fun c => ?_)
            · rw [if_neg c] at h
              refine r_aload_n (i := 0) dX10_book_68 rfl rfl ?_
              refine r_getR f_X10_29 dX10_book_69 rfl rfl ?_
              refine r_iload dX10_book_72 rfl ?_
              refine r_iload dX10_book_74 rfl ?_
              refine r_iload dX10_book_76 rfl ?_
              refine r_iload dX10_book_78 rfl ?_
              obtain ⟨r7, hr, h⟩ := bind_some h
              refine r_V (d' := 1) k_X10_316 dX10_book_80 (by omega) rfl rfl rfl (Nat.le_of_ble_eq_true rfl) (Nat.le_of_ble_eq_true rfl) (ok_X6_fault_39 (Nat.le_refl _) hr) (fun v I' L' hq => ?_)
              obtain ⟨rfl, rfl, rfl⟩ := hq
              simp only [Option.toList_some, Option.toList_none, List.drop_succ_cons, List.drop_zero, List.drop_nil, List.cons_append, List.nil_append]
              refine r_istore dX10_book_83 (by decide) rfl ?_
              simp only [List.set_cons_zero, List.set_cons_succ]
              refine r_iload dX10_book_85 rfl ?_
              refine r_if_ge (tgt := 93) dX10_book_87 (by decide) (fun c => ?_) (fun c => ?_)
              · rw [if_pos c] at h
                refine r_aload_n (i := 0) dX10_book_93 rfl rfl ?_
                refine r_getR f_X10_68 dX10_book_94 rfl rfl ?_
                refine r_aload_n (i := 0) dX10_book_97 rfl rfl ?_
                refine r_getR f_X10_10 dX10_book_98 rfl rfl ?_
                refine r_getR f_X10_76 dX10_book_101 rfl rfl ?_
                refine r_getR f_X10_143 dX10_book_104 rfl rfl ?_
                refine r_iload_n (i := 1) dX10_book_107 rfl rfl ?_
                obtain ⟨hb, h⟩ := ck_some h
                refine r_iald rfl (inb_vp hb) dX10_book_108 ?_
                refine r_iload_n (i := 2) dX10_book_109 rfl rfl ?_
                refine r_iload_n (i := 3) dX10_book_110 rfl rfl ?_
                obtain ⟨⟨Ir8, Lr8⟩, hr, h⟩ := bind_some h
                refine r_V (d' := 1) k_X10_337 dX10_book_111 (by omega) rfl rfl rfl (Nat.le_of_ble_eq_true rfl) (Nat.le_of_ble_eq_true rfl) (ok_X1_open_65 (Nat.le_refl _) hr) (fun v I' L' hq => ?_)
                obtain ⟨rfl, rfl, rfl⟩ := hq
                simp only [Option.toList_some, Option.toList_none, List.drop_succ_cons, List.drop_zero, List.drop_nil, List.cons_append, List.nil_append]
                dsimp only at h
                refine r_aload_n (i := 0) dX10_book_114 rfl rfl ?_
                refine r_getR f_X10_68 dX10_book_115 rfl rfl ?_
                refine r_aload_n (i := 0) dX10_book_118 rfl rfl ?_
                refine r_getR f_X10_29 dX10_book_119 rfl rfl ?_
                refine r_getR f_X10_321 dX10_book_122 rfl rfl ?_
                refine r_iload dX10_book_125 rfl ?_
                obtain ⟨hb10, h⟩ := ck_some h
                refine r_aald rfl (inb_vp hb10) dX10_book_127 ?_
                refine r_iload dX10_book_128 rfl ?_
                refine r_iload dX10_book_130 rfl ?_
                obtain ⟨⟨r11, Ir11, Lr11⟩, hr, h⟩ := bind_some h
                refine r_V (d' := 2) k_X10_340 dX10_book_132 (by omega) rfl rfl rfl (Nat.le_of_ble_eq_true rfl) (Nat.le_of_ble_eq_true rfl) (ok_X1_readItems_65_w (Nat.le_refl _) (inb_lt hb10) hr) (fun v I' L' hq => ?_)
                obtain ⟨rfl, rfl, rfl⟩ := hq
                simp only [Option.toList_some, Option.toList_none, List.drop_succ_cons, List.drop_zero, List.drop_nil, List.cons_append, List.nil_append]
                dsimp only at h
                refine r_istore dX10_book_135 (by decide) rfl ?_
                simp only [List.set_cons_zero, List.set_cons_succ]
                refine r_iload dX10_book_137 rfl ?_
                refine r_if_ne (tgt := 150) dX10_book_139 (by decide) (fun c => ?_) (fun c => ?_)
                · rw [if_neg c] at h
                  refine r_iload dX10_book_150 rfl ?_
                  refine r_iconst (v := 1) dX10_book_152 (by decide) ?_
                  refine r_icmp_ne (tgt := 174) dX10_book_153 (by decide) (fun c => ?_) (fun c => ?_)
                  · rw [if_neg c] at h
                    refine r_iload dX10_book_174 rfl ?_
                    refine r_if_ge (tgt := 184) dX10_book_176 (by decide) (fun c => ?_) (fun c => ?_)
                    · rw [if_pos c] at h
                      refine r_iload dX10_book_184 rfl ?_
                      refine r_iret (by first | rfl | decide) dX10_book_186 ?_
                      obtain rfl := Option.some.inj h
                      exact ⟨rfl, rfl, rfl⟩
                    · rw [if_neg c] at h
                      refine r_bipush (v := (-4)) dX10_book_179 (by decide) ?_
                      refine r_goto (tgt := 186) dX10_book_181 (by decide) ?_
                      refine r_iret (by first | rfl | decide) dX10_book_186 ?_
                      obtain rfl := Option.some.inj h
                      exact ⟨rfl, rfl, rfl⟩
                  · rw [if_pos c] at h
                    refine r_iload dX10_book_156 rfl ?_
                    refine r_if_ge (tgt := 171) dX10_book_158 (by decide) (fun c => ?_) (fun c => ?_)
                    · rw [if_pos c] at h
                      refine r_bipush (v := (-4)) dX10_book_171 (by decide) ?_
                      refine r_iret (by first | rfl | decide) dX10_book_173 ?_
                      obtain rfl := Option.some.inj h
                      exact ⟨rfl, rfl, rfl⟩
                    · rw [if_neg c] at h
                      refine r_aload_n (i := 0) dX10_book_161 rfl rfl ?_
                      refine r_getR f_X10_68 dX10_book_162 rfl rfl ?_
                      obtain ⟨r13, hr, h⟩ := bind_some h
                      refine r_V (d' := 1) k_X10_347 dX10_book_165 (by omega) rfl rfl rfl (Nat.le_of_ble_eq_true rfl) (Nat.le_of_ble_eq_true rfl) (ok_X1_sureSeasons_65 (Nat.le_refl _) hr) (fun v I' L' hq => ?_)
                      obtain ⟨rfl, rfl, rfl⟩ := hq
                      simp only [Option.toList_some, Option.toList_none, List.drop_succ_cons, List.drop_zero, List.drop_nil, List.cons_append, List.nil_append]
                      refine r_goto (tgt := 173) dX10_book_168 (by decide) ?_
                      refine r_iret (by first | rfl | decide) dX10_book_173 ?_
                      obtain rfl := Option.some.inj h
                      exact ⟨rfl, rfl, rfl⟩
                · rw [if_pos c] at h
                  refine r_aload_n (i := 0) dX10_book_142 rfl rfl ?_
                  refine r_getR f_X10_68 dX10_book_143 rfl rfl ?_
                  obtain ⟨r14, hr, h⟩ := bind_some h
                  refine r_V (d' := 1) k_X10_344 dX10_book_146 (by omega) rfl rfl rfl (Nat.le_of_ble_eq_true rfl) (Nat.le_of_ble_eq_true rfl) (ok_X1_fittingRows_65 (Nat.le_refl _) hr) (fun v I' L' hq => ?_)
                  obtain ⟨rfl, rfl, rfl⟩ := hq
                  simp only [Option.toList_some, Option.toList_none, List.drop_succ_cons, List.drop_zero, List.drop_nil, List.cons_append, List.nil_append]
                  refine r_iret (by first | rfl | decide) dX10_book_149 ?_
                  obtain rfl := Option.some.inj h
                  exact ⟨rfl, rfl, rfl⟩
              · rw [if_neg c] at h
                refine r_iload dX10_book_90 rfl ?_
                refine r_iret (by first | rfl | decide) dX10_book_92 ?_
                obtain rfl := Option.some.inj h
                exact ⟨rfl, rfl, rfl⟩
            · rw [if_pos c] at h
              refine r_iconst (v := (-1)) dX10_book_66 (by decide) ?_
              refine r_iret (by first | rfl | decide) dX10_book_67 ?_
              obtain rfl := Option.some.inj h
              exact ⟨rfl, rfl, rfl⟩
def f_X10_mills_0_l62 (I : mI) (L : mL) : Nat → Int32 → Int32 → Nat → Int32 → Int32 → Option Int32
  | 0, _, _, _, _, _ => none
  | n + 1, x3, x4, x6, x7, x8 => if (x3 + (2 * x4)) ≤ x8 then (some x7) else (ck (inb (x8 + 1) 24) (lt (L (41 + x6) (x8 + 1).toNatClampNeg) (fun v5 => ck (inb x8 24) (if (lg_cmp (L (41 + x6) x8.toNatClampNeg) 0) < 0 then (some (-2)) else (ck (inb x8 24) (if 0 ≤ (lg_cmp (L (41 + x6) x8.toNatClampNeg) ((I 2 5).toInt64)) then (some (-2)) else (if (lg_cmp v5 0) < 0 then (some (-2)) else (if (lg_cmp v5 99) ≤ 0 then (ck (inb x8 24) ((f_X7_weightAt_1 I L ((L (41 + x6) x8.toNatClampNeg).toInt32) 1).bind (fun r6 => lt (x7 + (r6 * (v5.toInt32))) (fun v7 => lt (x8 + Int32.ofInt 2) (fun v8 => f_X10_mills_0_l62 I L n x3 x4 x6 v7 v8))))) else (some (-2))))))))))
theorem ok_X10_mills_0_l62 {d : Nat} (hd : 3 ≤ d){I : mI} {L : mL} : ∀ (n : Nat) (x3 : Int32) (x4 : Int32) (x6 : Nat) (x7 : Int32) (x8 : Int32) (hx6 : x6 < 4) (o : Int32), f_X10_mills_0_l62 I L n x3 x4 x6 x7 x8 = some o → RR mX10_mills d 62 [some (.ref 0), none, none, some (.int x3), some (.int x4), none, some (.ref (41 + x6)), some (.int x7), some (.int x8), none, none] [] I L (retQ (some (.int o)) I L) := by
  intro n
  induction n with
  | zero => intro x3 x4 x6 x7 x8 hx6 o h; rw [f_X10_mills_0_l62] at h; cases h
  | succ n ih =>
    intro x3 x4 x6 x7 x8 hx6 o h
    rw [f_X10_mills_0_l62] at h
    refine r_iload dX10_mills_62 rfl ?_
    refine r_iload_n (i := 3) dX10_mills_64 rfl rfl ?_
    refine r_iconst (v := 2) dX10_mills_65 (by decide) ?_
    refine r_iload dX10_mills_66 rfl ?_
    refine r_imul dX10_mills_68 ?_
    refine r_iadd dX10_mills_69 ?_
    refine r_icmp_ge (tgt := 160) dX10_mills_70 (by decide) (fun c => ?_) (fun c => ?_)
    · rw [if_pos c] at h
      refine r_iload dX10_mills_160 rfl ?_
      refine r_iret (by first | rfl | decide) dX10_mills_162 ?_
      obtain rfl := Option.some.inj h
      exact ⟨rfl, rfl, rfl⟩
    · rw [if_neg c] at h
      refine r_aload dX10_mills_73 rfl ?_
      refine r_iload dX10_mills_75 rfl ?_
      refine r_iconst (v := 1) dX10_mills_77 (by decide) ?_
      refine r_iadd dX10_mills_78 ?_
      obtain ⟨hb, h⟩ := ck_some h
      refine r_lald (sh_row hx6) (inb_vp hb) dX10_mills_79 ?_
      refine r_lstore dX10_mills_80 (by decide) rfl ?_
      simp only [List.set_cons_zero, List.set_cons_succ]
      replace h := lt_some h
      refine r_aload dX10_mills_82 rfl ?_
      refine r_iload dX10_mills_84 rfl ?_
      obtain ⟨hb, h⟩ := ck_some h
      refine r_lald (sh_row hx6) (inb_vp hb) dX10_mills_86 ?_
      refine r_lconst (v := 0) dX10_mills_87 (by decide) ?_
      refine r_lcmp dX10_mills_88 ?_
      refine r_if_lt (tgt := 128) dX10_mills_89 (by decide) (fun c => ?_) (fun c => ?_)
      · rw [if_pos c] at h
        refine r_bipush (v := (-2)) dX10_mills_128 (by decide) ?_
        refine r_iret (by first | rfl | decide) dX10_mills_130 ?_
        obtain rfl := Option.some.inj h
        exact ⟨rfl, rfl, rfl⟩
      · rw [if_neg c] at h
        refine r_aload dX10_mills_92 rfl ?_
        refine r_iload dX10_mills_94 rfl ?_
        obtain ⟨hb, h⟩ := ck_some h
        refine r_lald (sh_row hx6) (inb_vp hb) dX10_mills_96 ?_
        refine r_aload_n (i := 0) dX10_mills_97 rfl rfl ?_
        refine r_getR f_X10_10 dX10_mills_98 rfl rfl ?_
        refine r_getR f_X10_76 dX10_mills_101 rfl rfl ?_
        refine r_getI f_X10_80 dX10_mills_104 rfl rfl ?_
        refine r_i2l dX10_mills_107 ?_
        refine r_lcmp dX10_mills_108 ?_
        refine r_if_ge (tgt := 128) dX10_mills_109 (by decide) (fun c => ?_) (fun c => ?_)
        · rw [if_pos c] at h
          refine r_bipush (v := (-2)) dX10_mills_128 (by decide) ?_
          refine r_iret (by first | rfl | decide) dX10_mills_130 ?_
          obtain rfl := Option.some.inj h
          exact ⟨rfl, rfl, rfl⟩
        · rw [if_neg c] at h
          refine r_lload dX10_mills_112 rfl ?_
          refine r_lconst (v := 0) dX10_mills_114 (by decide) ?_
          refine r_lcmp dX10_mills_115 ?_
          refine r_if_lt (tgt := 128) dX10_mills_116 (by decide) (fun c => ?_) (fun c => ?_)
          · rw [if_pos c] at h
            refine r_bipush (v := (-2)) dX10_mills_128 (by decide) ?_
            refine r_iret (by first | rfl | decide) dX10_mills_130 ?_
            obtain rfl := Option.some.inj h
            exact ⟨rfl, rfl, rfl⟩
          · rw [if_neg c] at h
            refine r_lload dX10_mills_119 rfl ?_
            refine r_ldc2 n_X10_350 dX10_mills_121 ?_
            refine r_lcmp dX10_mills_124 ?_
            refine r_if_le (tgt := 131) dX10_mills_125 (by decide) (fun c => ?_) (fun c => ?_)
            · rw [if_pos c] at h
              refine r_iload dX10_mills_131 rfl ?_
              refine r_aload_n (i := 0) dX10_mills_133 rfl rfl ?_
              refine r_getR f_X10_10 dX10_mills_134 rfl rfl ?_
              refine r_aload dX10_mills_137 rfl ?_
              refine r_iload dX10_mills_139 rfl ?_
              obtain ⟨hb, h⟩ := ck_some h
              refine r_lald (sh_row hx6) (inb_vp hb) dX10_mills_141 ?_
              refine r_l2i dX10_mills_142 ?_
              refine r_iconst (v := 1) dX10_mills_143 (by decide) ?_
              obtain ⟨r6, hr, h⟩ := bind_some h
              refine r_V (d' := 2) k_X10_171 dX10_mills_144 (by omega) rfl rfl rfl (Nat.le_of_ble_eq_true rfl) (Nat.le_of_ble_eq_true rfl) (ok_X7_weightAt_1 (Nat.le_refl _) hr) (fun v I' L' hq => ?_)
              obtain ⟨rfl, rfl, rfl⟩ := hq
              simp only [Option.toList_some, Option.toList_none, List.drop_succ_cons, List.drop_zero, List.drop_nil, List.cons_append, List.nil_append]
              refine r_lload dX10_mills_147 rfl ?_
              refine r_l2i dX10_mills_149 ?_
              refine r_imul dX10_mills_150 ?_
              refine r_iadd dX10_mills_151 ?_
              refine r_istore dX10_mills_152 (by decide) rfl ?_
              simp only [List.set_cons_zero, List.set_cons_succ]
              replace h := lt_some h
              refine r_iinc (v := _) dX10_mills_154 rfl rfl (by decide) rfl ?_
              simp only [List.set_cons_zero, List.set_cons_succ]
              replace h := lt_some h
              refine r_goto (tgt := 62) dX10_mills_157 (by decide) ?_
              exact RR.wk (ih _ _ _ _ _ hx6 _ h) (And.intro rfl (And.intro rfl (And.intro rfl (And.intro rfl (And.intro rfl (And.intro rfl (trivial)))))))
            · rw [if_neg c] at h
              refine r_bipush (v := (-2)) dX10_mills_128 (by decide) ?_
              refine r_iret (by first | rfl | decide) dX10_mills_130 ?_
              obtain rfl := Option.some.inj h
              exact ⟨rfl, rfl, rfl⟩
def f_X10_mills_0 (I : mI) (L : mL) (a1 : Int32) (a2 : Int32) (a3 : Int32) (a4 : Int32) : Option Int32 := (f_X6_isLane I L a1 a2).bind (fun r1 => if r1 = 0 then (some (-1)) else ((f_X10_within I L a4 1 8).bind (fun r2 => if r2 = 0 then (some (-1)) else ((f_X6_fault_39 I L a1 a2 a3 (2 * a4)).bind (fun r3 => if 0 ≤ r3 then (ck (inb a1 4) (f_X10_mills_0_l62 I L fuel a3 a4 (a1.toNatClampNeg) 0 a3)) else (some r3))))))
theorem ok_X10_mills_0 {d : Nat} (hd : 3 ≤ d) {I : mI} {L : mL} {a1 : Int32} {a2 : Int32} {a3 : Int32} {a4 : Int32} {o : Int32} (h : f_X10_mills_0 I L a1 a2 a3 a4 = some o) : RR mX10_mills d 0 [some (.ref 0), some (.int a1), some (.int a2), some (.int a3), some (.int a4), none, none, none, none, none, none] [] I L (retQ (some (.int o)) I L) := by
  unfold f_X10_mills_0 at h
  refine r_iload_n (i := 1) dX10_mills_0 rfl rfl ?_
  refine r_iload_n (i := 2) dX10_mills_1 rfl rfl ?_
  obtain ⟨r1, hr, h⟩ := bind_some h
  refine r_S (d' := 1) k_X10_311 dX10_mills_2 (by omega) rfl (Nat.le_of_ble_eq_true rfl) (Nat.le_of_ble_eq_true rfl) (ok_X6_isLane (Nat.le_refl _) hr) (fun v I' L' hq => ?_)
  obtain ⟨rfl, rfl, rfl⟩ := hq
  simp only [Option.toList_some, Option.toList_none, List.drop_succ_cons, List.drop_zero, List.drop_nil, List.cons_append, List.nil_append]
  refine r_if_eq (tgt := 19) dX10_mills_5 (by decide) (fun c => ?_) (fun c => ?_)
  · rw [if_pos c] at h
    refine r_iconst (v := (-1)) dX10_mills_19 (by decide) ?_
    refine r_iret (by first | rfl | decide) dX10_mills_20 ?_
    obtain rfl := Option.some.inj h
    exact ⟨rfl, rfl, rfl⟩
  · rw [if_neg c] at h
    refine r_iload dX10_mills_8 rfl ?_
    refine r_iconst (v := 1) dX10_mills_10 (by decide) ?_
    refine r_bipush (v := 8) dX10_mills_11 (by decide) ?_
    obtain ⟨r2, hr, h⟩ := bind_some h
    refine r_S (d' := 0) k_X10_72 dX10_mills_13 (by omega) rfl (Nat.le_of_ble_eq_true rfl) (Nat.le_of_ble_eq_true rfl) (ok_X10_within (Nat.le_refl _) hr) (fun v I' L' hq => ?_)
    obtain ⟨rfl, rfl, rfl⟩ := hq
    simp only [Option.toList_some, Option.toList_none, List.drop_succ_cons, List.drop_zero, List.drop_nil, List.cons_append, List.nil_append]
    refine r_if_ne (tgt := 21) dX10_mills_16 (by decide) (fun c => ?_) (fun c => ?_)
    · rw [if_neg c] at h
      refine r_aload_n (i := 0) dX10_mills_21 rfl rfl ?_
      refine r_getR f_X10_29 dX10_mills_22 rfl rfl ?_
      refine r_iload_n (i := 1) dX10_mills_25 rfl rfl ?_
      refine r_iload_n (i := 2) dX10_mills_26 rfl rfl ?_
      refine r_iload_n (i := 3) dX10_mills_27 rfl rfl ?_
      refine r_iconst (v := 2) dX10_mills_28 (by decide) ?_
      refine r_iload dX10_mills_29 rfl ?_
      refine r_imul dX10_mills_31 ?_
      obtain ⟨r3, hr, h⟩ := bind_some h
      refine r_V (d' := 1) k_X10_316 dX10_mills_32 (by omega) rfl rfl rfl (Nat.le_of_ble_eq_true rfl) (Nat.le_of_ble_eq_true rfl) (ok_X6_fault_39 (Nat.le_refl _) hr) (fun v I' L' hq => ?_)
      obtain ⟨rfl, rfl, rfl⟩ := hq
      simp only [Option.toList_some, Option.toList_none, List.drop_succ_cons, List.drop_zero, List.drop_nil, List.cons_append, List.nil_append]
      refine r_istore dX10_mills_35 (by decide) rfl ?_
      simp only [List.set_cons_zero, List.set_cons_succ]
      refine r_iload dX10_mills_37 rfl ?_
      refine r_if_ge (tgt := 45) dX10_mills_39 (by decide) (fun c => ?_) (fun c => ?_)
      · rw [if_pos c] at h
        refine r_aload_n (i := 0) dX10_mills_45 rfl rfl ?_
        refine r_getR f_X10_29 dX10_mills_46 rfl rfl ?_
        refine r_getR f_X10_321 dX10_mills_49 rfl rfl ?_
        refine r_iload_n (i := 1) dX10_mills_52 rfl rfl ?_
        obtain ⟨hb4, h⟩ := ck_some h
        refine r_aald rfl (inb_vp hb4) dX10_mills_53 ?_
        refine r_astore dX10_mills_54 (by decide) rfl ?_
        simp only [List.set_cons_zero, List.set_cons_succ]
        refine r_iconst (v := 0) dX10_mills_56 (by decide) ?_
        refine r_istore dX10_mills_57 (by decide) rfl ?_
        simp only [List.set_cons_zero, List.set_cons_succ]
        refine r_iload_n (i := 3) dX10_mills_59 rfl rfl ?_
        refine r_istore dX10_mills_60 (by decide) rfl ?_
        simp only [List.set_cons_zero, List.set_cons_succ]
        exact RR.wk (ok_X10_mills_0_l62 hd _ _ _ _ _ _ (inb_lt hb4) _ h) (And.intro rfl (And.intro rfl (And.intro rfl (And.intro rfl (And.intro rfl (And.intro rfl (trivial)))))))
      · rw [if_neg c] at h
        refine r_iload dX10_mills_42 rfl ?_
        refine r_iret (by first | rfl | decide) dX10_mills_44 ?_
        obtain rfl := Option.some.inj h
        exact ⟨rfl, rfl, rfl⟩
    · rw [if_pos c] at h
      refine r_iconst (v := (-1)) dX10_mills_19 (by decide) ?_
      refine r_iret (by first | rfl | decide) dX10_mills_20 ?_
      obtain rfl := Option.some.inj h
      exact ⟨rfl, rfl, rfl⟩
def f_X6_put_39 (I : mI) (L : mL) (a1 : Int32) (a2 : Int32) (a3 : Int64) : rV := ck (inb a1 4) (if (I 45 a1.toNatClampNeg) = 0 then (ck (inb a1 4) (ck (inb a2 24) (lt (uL L (41 + (a1.toNatClampNeg)) a2.toNatClampNeg (((a3.toInt32).toInt16.toInt32).toInt64)) (fun M5 => some (I, M5))))) else (ck (inb a1 4) (ck (inb a1 4) (if (I 45 a1.toNatClampNeg) = 1 then (ck (inb a2 24) (lt (uL L (41 + (a1.toNatClampNeg)) a2.toNatClampNeg ((a3.toInt32).toInt64)) (fun M3 => some (I, M3)))) else (ck (inb a2 24) (lt (uL L (41 + (a1.toNatClampNeg)) a2.toNatClampNeg a3) (fun M2 => some (I, M2))))))))
theorem ok_X6_put_39 {d : Nat} (hd : 0 ≤ d) {I : mI} {L : mL} {a1 : Int32} {a2 : Int32} {a3 : Int64} {o : mI × mL} (h : f_X6_put_39 I L a1 a2 a3 = some o) : RR mX6_put d 0 [some (.ref 39), some (.int a1), some (.int a2), some (.long a3), none] [] I L (retQ none o.1 o.2) := by
  unfold f_X6_put_39 at h
  refine r_aload_n (i := 0) dX6_put_0 rfl rfl ?_
  refine r_getR f_X6_16 dX6_put_1 rfl rfl ?_
  refine r_iload_n (i := 1) dX6_put_4 rfl rfl ?_
  obtain ⟨hb, h⟩ := ck_some h
  refine r_iald rfl (inb_vp hb) dX6_put_5 ?_
  refine r_if_ne (tgt := 24) dX6_put_6 (by decide) (fun c => ?_) (fun c => ?_)
  · rw [if_neg c] at h
    refine r_aload_n (i := 0) dX6_put_24 rfl rfl ?_
    refine r_getR f_X6_13 dX6_put_25 rfl rfl ?_
    refine r_iload_n (i := 1) dX6_put_28 rfl rfl ?_
    obtain ⟨hb1, h⟩ := ck_some h
    refine r_aald rfl (inb_vp hb1) dX6_put_29 ?_
    refine r_iload_n (i := 2) dX6_put_30 rfl rfl ?_
    refine r_aload_n (i := 0) dX6_put_31 rfl rfl ?_
    refine r_getR f_X6_16 dX6_put_32 rfl rfl ?_
    refine r_iload_n (i := 1) dX6_put_35 rfl rfl ?_
    obtain ⟨hb, h⟩ := ck_some h
    refine r_iald rfl (inb_vp hb) dX6_put_36 ?_
    refine r_iconst (v := 1) dX6_put_37 (by decide) ?_
    refine r_icmp_ne (tgt := 47) dX6_put_38 (by decide) (fun c => ?_) (fun c => ?_)
    · rw [if_neg c] at h
      refine r_lload_n (i := 3) dX6_put_47 rfl rfl ?_
      obtain ⟨hb, h⟩ := ck_some h
      refine r_last (sh_row (inb_lt hb1)) (inb_vp hb) dX6_put_48 ?_
      replace h := lt_some h
      refine r_vret dX6_put_49 ?_
      obtain rfl := Option.some.inj h
      exact ⟨rfl, rfl, rfl⟩
    · rw [if_pos c] at h
      refine r_lload_n (i := 3) dX6_put_41 rfl rfl ?_
      refine r_l2i dX6_put_42 ?_
      refine r_i2l dX6_put_43 ?_
      refine r_goto (tgt := 48) dX6_put_44 (by decide) ?_
      obtain ⟨hb, h⟩ := ck_some h
      refine r_last (sh_row (inb_lt hb1)) (inb_vp hb) dX6_put_48 ?_
      replace h := lt_some h
      refine r_vret dX6_put_49 ?_
      obtain rfl := Option.some.inj h
      exact ⟨rfl, rfl, rfl⟩
  · rw [if_pos c] at h
    refine r_aload_n (i := 0) dX6_put_9 rfl rfl ?_
    refine r_getR f_X6_13 dX6_put_10 rfl rfl ?_
    refine r_iload_n (i := 1) dX6_put_13 rfl rfl ?_
    obtain ⟨hb4, h⟩ := ck_some h
    refine r_aald rfl (inb_vp hb4) dX6_put_14 ?_
    refine r_iload_n (i := 2) dX6_put_15 rfl rfl ?_
    refine r_lload_n (i := 3) dX6_put_16 rfl rfl ?_
    refine r_l2i dX6_put_17 ?_
    refine r_i2s dX6_put_18 ?_
    refine r_i2l dX6_put_19 ?_
    obtain ⟨hb, h⟩ := ck_some h
    refine r_last (sh_row (inb_lt hb4)) (inb_vp hb) dX6_put_20 ?_
    replace h := lt_some h
    refine r_goto (tgt := 49) dX6_put_21 (by decide) ?_
    refine r_vret dX6_put_49 ?_
    obtain rfl := Option.some.inj h
    exact ⟨rfl, rfl, rfl⟩
def f_X10_film_0_l40 : Nat → Int32 → Int32 → Int32 → mI → mL → rI
  | 0, _, _, _, _, _ => none
  | n + 1, x1, x3, x5, I, L => if (I 1 10) ≤ x5 then (some (I 1 10, I, L)) else ((f_X7_weightOfGood_1 I L x5).bind (fun r3 => bndV (f_X6_put_39 I L x1 (x3 + x5) (r3.toInt64)) (fun Ir4 Lr4 => lt (x5 + Int32.ofInt 1) (fun v6 => f_X10_film_0_l40 n x1 x3 v6 Ir4 Lr4))))
theorem ok_X10_film_0_l40 {d : Nat} (hd : 4 ≤ d) : ∀ (n : Nat) (x1 : Int32) (x3 : Int32) (x5 : Int32) (I : mI) (L : mL) (o : Int32 × mI × mL), f_X10_film_0_l40 n x1 x3 x5 I L = some o → RR mX10_film d 40 [some (.ref 0), some (.int x1), none, some (.int x3), none, some (.int x5)] [] I L (retQ (some (.int o.1)) o.2.1 o.2.2) := by
  intro n
  induction n with
  | zero => intro x1 x3 x5 I L o h; rw [f_X10_film_0_l40] at h; cases h
  | succ n ih =>
    intro x1 x3 x5 I L o h
    rw [f_X10_film_0_l40] at h
    refine r_iload dX10_film_40 rfl ?_
    refine r_aload_n (i := 0) dX10_film_42 rfl rfl ?_
    refine r_getR f_X10_10 dX10_film_43 rfl rfl ?_
    refine r_getI f_X10_122 dX10_film_46 rfl rfl ?_
    refine r_icmp_ge (tgt := 80) dX10_film_49 (by decide) (fun c => ?_) (fun c => ?_)
    · rw [if_pos c] at h
      refine r_aload_n (i := 0) dX10_film_80 rfl rfl ?_
      refine r_getR f_X10_10 dX10_film_81 rfl rfl ?_
      refine r_getI f_X10_122 dX10_film_84 rfl rfl ?_
      refine r_iret (by first | rfl | decide) dX10_film_87 ?_
      obtain rfl := Option.some.inj h
      exact ⟨rfl, rfl, rfl⟩
    · rw [if_neg c] at h
      refine r_aload_n (i := 0) dX10_film_52 rfl rfl ?_
      refine r_getR f_X10_29 dX10_film_53 rfl rfl ?_
      refine r_iload_n (i := 1) dX10_film_56 rfl rfl ?_
      refine r_iload_n (i := 3) dX10_film_57 rfl rfl ?_
      refine r_iload dX10_film_58 rfl ?_
      refine r_iadd dX10_film_60 ?_
      refine r_aload_n (i := 0) dX10_film_61 rfl rfl ?_
      refine r_getR f_X10_10 dX10_film_62 rfl rfl ?_
      refine r_iload dX10_film_65 rfl ?_
      obtain ⟨r3, hr, h⟩ := bind_some h
      refine r_V (d' := 3) k_X10_131 dX10_film_67 (by omega) rfl rfl rfl (Nat.le_of_ble_eq_true rfl) (Nat.le_of_ble_eq_true rfl) (ok_X7_weightOfGood_1 (Nat.le_refl _) hr) (fun v I' L' hq => ?_)
      obtain ⟨rfl, rfl, rfl⟩ := hq
      simp only [Option.toList_some, Option.toList_none, List.drop_succ_cons, List.drop_zero, List.drop_nil, List.cons_append, List.nil_append]
      refine r_i2l dX10_film_70 ?_
      obtain ⟨⟨Ir4, Lr4⟩, hr, h⟩ := bind_some h
      refine r_V (d' := 0) k_X10_352 dX10_film_71 (by omega) rfl rfl rfl (Nat.le_of_ble_eq_true rfl) (Nat.le_of_ble_eq_true rfl) (ok_X6_put_39 (Nat.le_refl _) hr) (fun v I' L' hq => ?_)
      obtain ⟨rfl, rfl, rfl⟩ := hq
      simp only [Option.toList_some, Option.toList_none, List.drop_succ_cons, List.drop_zero, List.drop_nil, List.cons_append, List.nil_append]
      dsimp only at h
      refine r_iinc (v := _) dX10_film_74 rfl rfl (by decide) rfl ?_
      simp only [List.set_cons_zero, List.set_cons_succ]
      replace h := lt_some h
      refine r_goto (tgt := 40) dX10_film_77 (by decide) ?_
      exact RR.wk (ih _ _ _ _ _ _ h) (And.intro rfl (And.intro rfl (And.intro rfl (And.intro rfl (trivial)))))
def f_X10_film_0 (I : mI) (L : mL) (a1 : Int32) (a2 : Int32) (a3 : Int32) : rI := (f_X6_isLane I L a1 a2).bind (fun r1 => if r1 = 0 then (some ((-1), I, L)) else ((f_X6_fault_39 I L a1 a2 a3 (I 1 10)).bind (fun r2 => if 0 ≤ r2 then (f_X10_film_0_l40 fuel a1 a3 0 I L) else (some (r2, I, L)))))
theorem ok_X10_film_0 {d : Nat} (hd : 4 ≤ d) {I : mI} {L : mL} {a1 : Int32} {a2 : Int32} {a3 : Int32} {o : Int32 × mI × mL} (h : f_X10_film_0 I L a1 a2 a3 = some o) : RR mX10_film d 0 [some (.ref 0), some (.int a1), some (.int a2), some (.int a3), none, none] [] I L (retQ (some (.int o.1)) o.2.1 o.2.2) := by
  unfold f_X10_film_0 at h
  refine r_iload_n (i := 1) dX10_film_0 rfl rfl ?_
  refine r_iload_n (i := 2) dX10_film_1 rfl rfl ?_
  obtain ⟨r1, hr, h⟩ := bind_some h
  refine r_S (d' := 1) k_X10_311 dX10_film_2 (by omega) rfl (Nat.le_of_ble_eq_true rfl) (Nat.le_of_ble_eq_true rfl) (ok_X6_isLane (Nat.le_refl _) hr) (fun v I' L' hq => ?_)
  obtain ⟨rfl, rfl, rfl⟩ := hq
  simp only [Option.toList_some, Option.toList_none, List.drop_succ_cons, List.drop_zero, List.drop_nil, List.cons_append, List.nil_append]
  refine r_if_ne (tgt := 10) dX10_film_5 (by decide) (fun c => ?_) (fun c => ?_)
  · rw [if_neg c] at h
    refine r_aload_n (i := 0) dX10_film_10 rfl rfl ?_
    refine r_getR f_X10_29 dX10_film_11 rfl rfl ?_
    refine r_iload_n (i := 1) dX10_film_14 rfl rfl ?_
    refine r_iload_n (i := 2) dX10_film_15 rfl rfl ?_
    refine r_iload_n (i := 3) dX10_film_16 rfl rfl ?_
    refine r_aload_n (i := 0) dX10_film_17 rfl rfl ?_
    refine r_getR f_X10_10 dX10_film_18 rfl rfl ?_
    refine r_getI f_X10_122 dX10_film_21 rfl rfl ?_
    obtain ⟨r2, hr, h⟩ := bind_some h
    refine r_V (d' := 1) k_X10_316 dX10_film_24 (by omega) rfl rfl rfl (Nat.le_of_ble_eq_true rfl) (Nat.le_of_ble_eq_true rfl) (ok_X6_fault_39 (Nat.le_refl _) hr) (fun v I' L' hq => ?_)
    obtain ⟨rfl, rfl, rfl⟩ := hq
    simp only [Option.toList_some, Option.toList_none, List.drop_succ_cons, List.drop_zero, List.drop_nil, List.cons_append, List.nil_append]
    refine r_istore dX10_film_27 (by decide) rfl ?_
    simp only [List.set_cons_zero, List.set_cons_succ]
    refine r_iload dX10_film_29 rfl ?_
    refine r_if_ge (tgt := 37) dX10_film_31 (by decide) (fun c => ?_) (fun c => ?_)
    · rw [if_pos c] at h
      refine r_iconst (v := 0) dX10_film_37 (by decide) ?_
      refine r_istore dX10_film_38 (by decide) rfl ?_
      simp only [List.set_cons_zero, List.set_cons_succ]
      exact RR.wk (ok_X10_film_0_l40 hd _ _ _ _ _ _ _ h) (And.intro rfl (And.intro rfl (And.intro rfl (And.intro rfl (trivial)))))
    · rw [if_neg c] at h
      refine r_iload dX10_film_34 rfl ?_
      refine r_iret (by first | rfl | decide) dX10_film_36 ?_
      obtain rfl := Option.some.inj h
      exact ⟨rfl, rfl, rfl⟩
  · rw [if_pos c] at h
    refine r_iconst (v := (-1)) dX10_film_8 (by decide) ?_
    refine r_iret (by first | rfl | decide) dX10_film_9 ?_
    obtain rfl := Option.some.inj h
    exact ⟨rfl, rfl, rfl⟩
def f_J7_fill_d0a16_w_l6 : Nat → Nat → Int64 → Int32 → Int32 → mI → mL → rV
  | 0, _, _, _, _, _, _ => none
  | n + 1, x0, x1, x3, x4, I, L => if x4 ≤ x3 then (some (I, L)) else (ck (inb x3 24) (lt (uL L (41 + x0) x3.toNatClampNeg x1) (fun M1 => lt (x3 + Int32.ofInt 1) (fun v2 => f_J7_fill_d0a16_w_l6 n x0 x1 v2 x4 I M1))))
theorem ok_J7_fill_d0a16_w_l6 {d : Nat} (hd : 0 ≤ d) : ∀ (n : Nat) (x0 : Nat) (x1 : Int64) (x3 : Int32) (x4 : Int32) (hx0 : x0 < 4) (I : mI) (L : mL) (o : mI × mL), f_J7_fill_d0a16_w_l6 n x0 x1 x3 x4 I L = some o → RR mJ7_fill_d0a16 d 6 [some (.ref (41 + x0)), some (.long x1), none, some (.int x3), some (.int x4)] [] I L (retQ none o.1 o.2) := by
  intro n
  induction n with
  | zero => intro x0 x1 x3 x4 hx0 I L o h; rw [f_J7_fill_d0a16_w_l6] at h; cases h
  | succ n ih =>
    intro x0 x1 x3 x4 hx0 I L o h
    rw [f_J7_fill_d0a16_w_l6] at h
    refine r_iload_n (i := 3) dJ7_fill_d0a16_6 rfl rfl ?_
    refine r_iload dJ7_fill_d0a16_7 rfl ?_
    refine r_icmp_ge (tgt := 22) dJ7_fill_d0a16_9 (by decide) (fun c => ?_) (fun c => ?_)
    · rw [if_pos c] at h
      refine r_vret dJ7_fill_d0a16_22 ?_
      obtain rfl := Option.some.inj h
      exact ⟨rfl, rfl, rfl⟩
    · rw [if_neg c] at h
      refine r_aload_n (i := 0) dJ7_fill_d0a16_12 rfl rfl ?_
      refine r_iload_n (i := 3) dJ7_fill_d0a16_13 rfl rfl ?_
      refine r_lload_n (i := 1) dJ7_fill_d0a16_14 rfl rfl ?_
      obtain ⟨hb, h⟩ := ck_some h
      refine r_last (sh_row hx0) (inb_vp hb) dJ7_fill_d0a16_15 ?_
      replace h := lt_some h
      refine r_iinc (v := _) dJ7_fill_d0a16_16 rfl rfl (by decide) rfl ?_
      simp only [List.set_cons_zero, List.set_cons_succ]
      replace h := lt_some h
      refine r_goto (tgt := 6) dJ7_fill_d0a16_19 (by decide) ?_
      exact RR.wk (ih _ _ _ _ hx0 _ _ _ h) (And.intro rfl (And.intro rfl (And.intro rfl (And.intro rfl (trivial)))))
def f_J7_fill_d0a16_w (I : mI) (L : mL) (a0 : Nat) (a1 : Int64) : rV := f_J7_fill_d0a16_w_l6 fuel a0 a1 0 24 I L
theorem ok_J7_fill_d0a16_w {d : Nat} (hd : 0 ≤ d) {I : mI} {L : mL} {a0 : Nat} {a1 : Int64} (hw0 : a0 < 4) {o : mI × mL} (h : f_J7_fill_d0a16_w I L a0 a1 = some o) : RR mJ7_fill_d0a16 d 0 [some (.ref (41 + a0)), some (.long a1), none, none, none] [] I L (retQ none o.1 o.2) := by
  unfold f_J7_fill_d0a16_w at h
  refine r_iconst (v := 0) dJ7_fill_d0a16_0 (by decide) ?_
  refine r_istore_n (i := 3) dJ7_fill_d0a16_1 rfl (by decide) rfl ?_
  simp only [List.set_cons_zero, List.set_cons_succ]
  refine r_aload_n (i := 0) dJ7_fill_d0a16_2 rfl rfl ?_
  refine r_alenL (v := 24) (sh_row hw0) (by decide) dJ7_fill_d0a16_3 ?_
  refine r_istore dJ7_fill_d0a16_4 (by decide) rfl ?_
  simp only [List.set_cons_zero, List.set_cons_succ]
  exact RR.wk (ok_J7_fill_d0a16_w_l6 hd _ _ _ _ _ hw0 _ _ _ h) (And.intro rfl (And.intro rfl (And.intro rfl (And.intro rfl (trivial)))))
def f_X6_renew_39 (I : mI) (L : mL) (a1 : Int32) (a2 : Int32) (a3 : Int32) : rV := ck (inb a1 4) (bndV (f_J7_fill_d0a16_w I L (a1.toNatClampNeg) 0) (fun Ir2 Lr2 => ck (inb a1 4) (lt (uI Ir2 45 a1.toNatClampNeg a2) (fun M4 => ck (inb a1 4) (lt (uI M4 46 a1.toNatClampNeg a3) (fun M5 => ck (inb a1 4) (lt (uI M5 47 a1.toNatClampNeg (vp_nar .boolean 1)) (fun M6 => some (M6, Lr2)))))))))
theorem ok_X6_renew_39 {d : Nat} (hd : 1 ≤ d) {I : mI} {L : mL} {a1 : Int32} {a2 : Int32} {a3 : Int32} {o : mI × mL} (h : f_X6_renew_39 I L a1 a2 a3 = some o) : RR mX6_renew d 0 [some (.ref 39), some (.int a1), some (.int a2), some (.int a3)] [] I L (retQ none o.1 o.2) := by
  unfold f_X6_renew_39 at h
  refine r_aload_n (i := 0) dX6_renew_0 rfl rfl ?_
  refine r_getR f_X6_13 dX6_renew_1 rfl rfl ?_
  refine r_iload_n (i := 1) dX6_renew_4 rfl rfl ?_
  obtain ⟨hb1, h⟩ := ck_some h
  refine r_aald rfl (inb_vp hb1) dX6_renew_5 ?_
  refine r_lconst (v := 0) dX6_renew_6 (by decide) ?_
  obtain ⟨⟨Ir2, Lr2⟩, hr, h⟩ := bind_some h
  refine r_S (d' := 0) k_X6_38 dX6_renew_7 (by omega) rfl (Nat.le_of_ble_eq_true rfl) (Nat.le_of_ble_eq_true rfl) (ok_J7_fill_d0a16_w (Nat.le_refl _) (inb_lt hb1) hr) (fun v I' L' hq => ?_)
  obtain ⟨rfl, rfl, rfl⟩ := hq
  simp only [Option.toList_some, Option.toList_none, List.drop_succ_cons, List.drop_zero, List.drop_nil, List.cons_append, List.nil_append]
  dsimp only at h
  refine r_aload_n (i := 0) dX6_renew_10 rfl rfl ?_
  refine r_getR f_X6_16 dX6_renew_11 rfl rfl ?_
  refine r_iload_n (i := 1) dX6_renew_14 rfl rfl ?_
  refine r_iload_n (i := 2) dX6_renew_15 rfl rfl ?_
  obtain ⟨hb, h⟩ := ck_some h
  refine r_iast rfl (inb_vp hb) dX6_renew_16 ?_
  replace h := lt_some h
  refine r_aload_n (i := 0) dX6_renew_17 rfl rfl ?_
  refine r_getR f_X6_20 dX6_renew_18 rfl rfl ?_
  refine r_iload_n (i := 1) dX6_renew_21 rfl rfl ?_
  refine r_iload_n (i := 3) dX6_renew_22 rfl rfl ?_
  obtain ⟨hb, h⟩ := ck_some h
  refine r_iast rfl (inb_vp hb) dX6_renew_23 ?_
  replace h := lt_some h
  refine r_aload_n (i := 0) dX6_renew_24 rfl rfl ?_
  refine r_getR f_X6_23 dX6_renew_25 rfl rfl ?_
  refine r_iload_n (i := 1) dX6_renew_28 rfl rfl ?_
  refine r_iconst (v := 1) dX6_renew_29 (by decide) ?_
  obtain ⟨hb, h⟩ := ck_some h
  refine r_zast rfl (inb_vp hb) dX6_renew_30 ?_
  replace h := lt_some h
  refine r_vret dX6_renew_31 ?_
  obtain rfl := Option.some.inj h
  exact ⟨rfl, rfl, rfl⟩
def f_X10_sheet_0 (I : mI) (L : mL) (a1 : Int32) (a2 : Int32) (a3 : Int32) : rI := (f_X6_isLane I L a1 a2).bind (fun r1 => if r1 = 0 then (some ((-1), I, L)) else (if a3 ≤ 24 then (if 0 ≤ a3 then (bndV (f_X6_renew_39 I L a1 a2 a3) (fun Ir2 Lr2 => some (a3, Ir2, Lr2))) else (some ((-14), I, L))) else (some ((-1), I, L))))
theorem ok_X10_sheet_0 {d : Nat} (hd : 2 ≤ d) {I : mI} {L : mL} {a1 : Int32} {a2 : Int32} {a3 : Int32} {o : Int32 × mI × mL} (h : f_X10_sheet_0 I L a1 a2 a3 = some o) : RR mX10_sheet d 0 [some (.ref 0), some (.int a1), some (.int a2), some (.int a3)] [] I L (retQ (some (.int o.1)) o.2.1 o.2.2) := by
  unfold f_X10_sheet_0 at h
  refine r_iload_n (i := 1) dX10_sheet_0 rfl rfl ?_
  refine r_iload_n (i := 2) dX10_sheet_1 rfl rfl ?_
  obtain ⟨r1, hr, h⟩ := bind_some h
  refine r_S (d' := 1) k_X10_311 dX10_sheet_2 (by omega) rfl (Nat.le_of_ble_eq_true rfl) (Nat.le_of_ble_eq_true rfl) (ok_X6_isLane (Nat.le_refl _) hr) (fun v I' L' hq => ?_)
  obtain ⟨rfl, rfl, rfl⟩ := hq
  simp only [Option.toList_some, Option.toList_none, List.drop_succ_cons, List.drop_zero, List.drop_nil, List.cons_append, List.nil_append]
  refine r_if_eq (tgt := 14) dX10_sheet_5 (by decide) (fun c => ?_) (fun c => ?_)
  · rw [if_pos c] at h
    refine r_iconst (v := (-1)) dX10_sheet_14 (by decide) ?_
    refine r_iret (by first | rfl | decide) dX10_sheet_15 ?_
    obtain rfl := Option.some.inj h
    exact ⟨rfl, rfl, rfl⟩
  · rw [if_neg c] at h
    refine r_iload_n (i := 3) dX10_sheet_8 rfl rfl ?_
    refine r_bipush (v := 24) dX10_sheet_9 (by decide) ?_
    refine r_icmp_le (tgt := 16) dX10_sheet_11 (by decide) (fun c => ?_) (fun c => ?_)
    · rw [if_pos c] at h
      refine r_iload_n (i := 3) dX10_sheet_16 rfl rfl ?_
      refine r_if_ge (tgt := 23) dX10_sheet_17 (by decide) (fun c => ?_) (fun c => ?_)
      · rw [if_pos c] at h
        refine r_aload_n (i := 0) dX10_sheet_23 rfl rfl ?_
        refine r_getR f_X10_29 dX10_sheet_24 rfl rfl ?_
        refine r_iload_n (i := 1) dX10_sheet_27 rfl rfl ?_
        refine r_iload_n (i := 2) dX10_sheet_28 rfl rfl ?_
        refine r_iload_n (i := 3) dX10_sheet_29 rfl rfl ?_
        obtain ⟨⟨Ir2, Lr2⟩, hr, h⟩ := bind_some h
        refine r_V (d' := 1) k_X10_356 dX10_sheet_30 (by omega) rfl rfl rfl (Nat.le_of_ble_eq_true rfl) (Nat.le_of_ble_eq_true rfl) (ok_X6_renew_39 (Nat.le_refl _) hr) (fun v I' L' hq => ?_)
        obtain ⟨rfl, rfl, rfl⟩ := hq
        simp only [Option.toList_some, Option.toList_none, List.drop_succ_cons, List.drop_zero, List.drop_nil, List.cons_append, List.nil_append]
        dsimp only at h
        refine r_iload_n (i := 3) dX10_sheet_33 rfl rfl ?_
        refine r_iret (by first | rfl | decide) dX10_sheet_34 ?_
        obtain rfl := Option.some.inj h
        exact ⟨rfl, rfl, rfl⟩
      · rw [if_neg c] at h
        refine r_bipush (v := (-14)) dX10_sheet_20 (by decide) ?_
        refine r_iret (by first | rfl | decide) dX10_sheet_22 ?_
        obtain rfl := Option.some.inj h
        exact ⟨rfl, rfl, rfl⟩
    · rw [if_neg c] at h
      refine r_iconst (v := (-1)) dX10_sheet_14 (by decide) ?_
      refine r_iret (by first | rfl | decide) dX10_sheet_15 ?_
      obtain rfl := Option.some.inj h
      exact ⟨rfl, rfl, rfl⟩
def f_X6_empty_39 (I : mI) (L : mL) (a1 : Int32) : rI := ck (inb a1 4) (lt (uI I 47 a1.toNatClampNeg (vp_nar .boolean 0)) (fun M1 => ck (inb a1 4) (some (M1 46 a1.toNatClampNeg, M1, L))))
theorem ok_X6_empty_39 {d : Nat} (hd : 0 ≤ d) {I : mI} {L : mL} {a1 : Int32} {o : Int32 × mI × mL} (h : f_X6_empty_39 I L a1 = some o) : RR mX6_empty d 0 [some (.ref 39), some (.int a1)] [] I L (retQ (some (.int o.1)) o.2.1 o.2.2) := by
  unfold f_X6_empty_39 at h
  refine r_aload_n (i := 0) dX6_empty_0 rfl rfl ?_
  refine r_getR f_X6_23 dX6_empty_1 rfl rfl ?_
  refine r_iload_n (i := 1) dX6_empty_4 rfl rfl ?_
  refine r_iconst (v := 0) dX6_empty_5 (by decide) ?_
  obtain ⟨hb, h⟩ := ck_some h
  refine r_zast rfl (inb_vp hb) dX6_empty_6 ?_
  replace h := lt_some h
  refine r_aload_n (i := 0) dX6_empty_7 rfl rfl ?_
  refine r_getR f_X6_20 dX6_empty_8 rfl rfl ?_
  refine r_iload_n (i := 1) dX6_empty_11 rfl rfl ?_
  obtain ⟨hb, h⟩ := ck_some h
  refine r_iald rfl (inb_vp hb) dX6_empty_12 ?_
  refine r_iret (by first | rfl | decide) dX6_empty_13 ?_
  obtain rfl := Option.some.inj h
  exact ⟨rfl, rfl, rfl⟩
def f_X10_drop_0 (I : mI) (L : mL) (a1 : Int32) : rI := (f_X6_isSheet I L a1).bind (fun r1 => if r1 = 0 then (some ((-1), I, L)) else ((f_X6_isMissing_39 I L a1).bind (fun r2 => if r2 = 0 then (bndI (f_X6_empty_39 I L a1) (fun r3 Ir3 Lr3 => some (r3, Ir3, Lr3))) else (some ((-11), I, L)))))
theorem ok_X10_drop_0 {d : Nat} (hd : 1 ≤ d) {I : mI} {L : mL} {a1 : Int32} {o : Int32 × mI × mL} (h : f_X10_drop_0 I L a1 = some o) : RR mX10_drop d 0 [some (.ref 0), some (.int a1)] [] I L (retQ (some (.int o.1)) o.2.1 o.2.2) := by
  unfold f_X10_drop_0 at h
  refine r_iload_n (i := 1) dX10_drop_0 rfl rfl ?_
  obtain ⟨r1, hr, h⟩ := bind_some h
  refine r_S (d' := 0) k_X10_359 dX10_drop_1 (by omega) rfl (Nat.le_of_ble_eq_true rfl) (Nat.le_of_ble_eq_true rfl) (ok_X6_isSheet (Nat.le_refl _) hr) (fun v I' L' hq => ?_)
  obtain ⟨rfl, rfl, rfl⟩ := hq
  simp only [Option.toList_some, Option.toList_none, List.drop_succ_cons, List.drop_zero, List.drop_nil, List.cons_append, List.nil_append]
  refine r_if_ne (tgt := 9) dX10_drop_4 (by decide) (fun c => ?_) (fun c => ?_)
  · rw [if_neg c] at h
    refine r_aload_n (i := 0) dX10_drop_9 rfl rfl ?_
    refine r_getR f_X10_29 dX10_drop_10 rfl rfl ?_
    refine r_iload_n (i := 1) dX10_drop_13 rfl rfl ?_
    obtain ⟨r2, hr, h⟩ := bind_some h
    refine r_V (d' := 0) k_X10_362 dX10_drop_14 (by omega) rfl rfl rfl (Nat.le_of_ble_eq_true rfl) (Nat.le_of_ble_eq_true rfl) (ok_X6_isMissing_39 (Nat.le_refl _) hr) (fun v I' L' hq => ?_)
    obtain ⟨rfl, rfl, rfl⟩ := hq
    simp only [Option.toList_some, Option.toList_none, List.drop_succ_cons, List.drop_zero, List.drop_nil, List.cons_append, List.nil_append]
    refine r_if_eq (tgt := 25) dX10_drop_17 (by decide) (fun c => ?_) (fun c => ?_)
    · rw [if_pos c] at h
      refine r_aload_n (i := 0) dX10_drop_25 rfl rfl ?_
      refine r_getR f_X10_29 dX10_drop_26 rfl rfl ?_
      refine r_iload_n (i := 1) dX10_drop_29 rfl rfl ?_
      obtain ⟨⟨r3, Ir3, Lr3⟩, hr, h⟩ := bind_some h
      refine r_V (d' := 0) k_X10_365 dX10_drop_30 (by omega) rfl rfl rfl (Nat.le_of_ble_eq_true rfl) (Nat.le_of_ble_eq_true rfl) (ok_X6_empty_39 (Nat.le_refl _) hr) (fun v I' L' hq => ?_)
      obtain ⟨rfl, rfl, rfl⟩ := hq
      simp only [Option.toList_some, Option.toList_none, List.drop_succ_cons, List.drop_zero, List.drop_nil, List.cons_append, List.nil_append]
      dsimp only at h
      refine r_iret (by first | rfl | decide) dX10_drop_33 ?_
      obtain rfl := Option.some.inj h
      exact ⟨rfl, rfl, rfl⟩
    · rw [if_neg c] at h
      refine r_bipush (v := (-11)) dX10_drop_20 (by decide) ?_
      refine r_goto (tgt := 33) dX10_drop_22 (by decide) ?_
      refine r_iret (by first | rfl | decide) dX10_drop_33 ?_
      obtain rfl := Option.some.inj h
      exact ⟨rfl, rfl, rfl⟩
  · rw [if_pos c] at h
    refine r_iconst (v := (-1)) dX10_drop_7 (by decide) ?_
    refine r_iret (by first | rfl | decide) dX10_drop_8 ?_
    obtain rfl := Option.some.inj h
    exact ⟨rfl, rfl, rfl⟩
def f_X10_item_0 (I : mI) (L : mL) (a1 : Int32) (a2 : Int32) (a3 : Int32) (a4 : Int64) : rI := (f_X6_isLane I L a1 a2).bind (fun r1 => if r1 = 0 then (some ((-1), I, L)) else ((f_X6_fault_39 I L a1 a2 a3 1).bind (fun r2 => if 0 ≤ r2 then (bndV (f_X6_put_39 I L a1 a3 a4) (fun Ir3 Lr3 => some (1, Ir3, Lr3))) else (some (r2, I, L)))))
theorem ok_X10_item_0 {d : Nat} (hd : 2 ≤ d) {I : mI} {L : mL} {a1 : Int32} {a2 : Int32} {a3 : Int32} {a4 : Int64} {o : Int32 × mI × mL} (h : f_X10_item_0 I L a1 a2 a3 a4 = some o) : RR mX10_item d 0 [some (.ref 0), some (.int a1), some (.int a2), some (.int a3), some (.long a4), none, none] [] I L (retQ (some (.int o.1)) o.2.1 o.2.2) := by
  unfold f_X10_item_0 at h
  refine r_iload_n (i := 1) dX10_item_0 rfl rfl ?_
  refine r_iload_n (i := 2) dX10_item_1 rfl rfl ?_
  obtain ⟨r1, hr, h⟩ := bind_some h
  refine r_S (d' := 1) k_X10_311 dX10_item_2 (by omega) rfl (Nat.le_of_ble_eq_true rfl) (Nat.le_of_ble_eq_true rfl) (ok_X6_isLane (Nat.le_refl _) hr) (fun v I' L' hq => ?_)
  obtain ⟨rfl, rfl, rfl⟩ := hq
  simp only [Option.toList_some, Option.toList_none, List.drop_succ_cons, List.drop_zero, List.drop_nil, List.cons_append, List.nil_append]
  refine r_if_ne (tgt := 10) dX10_item_5 (by decide) (fun c => ?_) (fun c => ?_)
  · rw [if_neg c] at h
    refine r_aload_n (i := 0) dX10_item_10 rfl rfl ?_
    refine r_getR f_X10_29 dX10_item_11 rfl rfl ?_
    refine r_iload_n (i := 1) dX10_item_14 rfl rfl ?_
    refine r_iload_n (i := 2) dX10_item_15 rfl rfl ?_
    refine r_iload_n (i := 3) dX10_item_16 rfl rfl ?_
    refine r_iconst (v := 1) dX10_item_17 (by decide) ?_
    obtain ⟨r2, hr, h⟩ := bind_some h
    refine r_V (d' := 1) k_X10_316 dX10_item_18 (by omega) rfl rfl rfl (Nat.le_of_ble_eq_true rfl) (Nat.le_of_ble_eq_true rfl) (ok_X6_fault_39 (Nat.le_refl _) hr) (fun v I' L' hq => ?_)
    obtain ⟨rfl, rfl, rfl⟩ := hq
    simp only [Option.toList_some, Option.toList_none, List.drop_succ_cons, List.drop_zero, List.drop_nil, List.cons_append, List.nil_append]
    refine r_istore dX10_item_21 (by decide) rfl ?_
    simp only [List.set_cons_zero, List.set_cons_succ]
    refine r_iload dX10_item_23 rfl ?_
    refine r_if_ge (tgt := 31) dX10_item_25 (by decide) (fun c => ?_) (fun c => ?_)
    · rw [if_pos c] at h
      refine r_aload_n (i := 0) dX10_item_31 rfl rfl ?_
      refine r_getR f_X10_29 dX10_item_32 rfl rfl ?_
      refine r_iload_n (i := 1) dX10_item_35 rfl rfl ?_
      refine r_iload_n (i := 3) dX10_item_36 rfl rfl ?_
      refine r_lload dX10_item_37 rfl ?_
      obtain ⟨⟨Ir3, Lr3⟩, hr, h⟩ := bind_some h
      refine r_V (d' := 0) k_X10_352 dX10_item_39 (by omega) rfl rfl rfl (Nat.le_of_ble_eq_true rfl) (Nat.le_of_ble_eq_true rfl) (ok_X6_put_39 (Nat.le_refl _) hr) (fun v I' L' hq => ?_)
      obtain ⟨rfl, rfl, rfl⟩ := hq
      simp only [Option.toList_some, Option.toList_none, List.drop_succ_cons, List.drop_zero, List.drop_nil, List.cons_append, List.nil_append]
      dsimp only at h
      refine r_iconst (v := 1) dX10_item_42 (by decide) ?_
      refine r_iret (by first | rfl | decide) dX10_item_43 ?_
      obtain rfl := Option.some.inj h
      exact ⟨rfl, rfl, rfl⟩
    · rw [if_neg c] at h
      refine r_iload dX10_item_28 rfl ?_
      refine r_iret (by first | rfl | decide) dX10_item_30 ?_
      obtain rfl := Option.some.inj h
      exact ⟨rfl, rfl, rfl⟩
  · rw [if_pos c] at h
    refine r_iconst (v := (-1)) dX10_item_8 (by decide) ?_
    refine r_iret (by first | rfl | decide) dX10_item_9 ?_
    obtain rfl := Option.some.inj h
    exact ⟨rfl, rfl, rfl⟩
def f_X10_copy_0 (I : mI) (L : mL) (a1 : Int32) (a2 : Int32) (a3 : Int32) (a4 : Int32) (a5 : Int32) : rI := (f_X6_isSheet I L a1).bind (fun r1 => if r1 = 0 then (some ((-1), I, L)) else ((f_X6_isSheet I L a3).bind (fun r2 => if r2 = 0 then (some ((-1), I, L)) else ((f_X6_isMissing_39 I L a1).bind (fun r3 => if r3 = 0 then ((f_X6_isMissing_39 I L a3).bind (fun r4 => if r4 = 0 then (ck (inb a1 4) (ck (inb a3 4) (if (I 45 a1.toNatClampNeg) = (I 45 a3.toNatClampNeg) then ((f_X6_holds_39 I L a1 a2 a5).bind (fun r5 => if r5 = 0 then (some ((-13), I, L)) else ((f_X6_holds_39 I L a3 a4 a5).bind (fun r6 => if r6 = 0 then (some ((-13), I, L)) else (ck (inb a1 4) (ck (inb a3 4) (ck (cpk a2 a4 a5 24 24) (lt (pL L (41 + (a3.toNatClampNeg)) (va_cpy (L (41 + (a1.toNatClampNeg))) (L (41 + (a3.toNatClampNeg))) a2.toNatClampNeg a4.toNatClampNeg a5.toNatClampNeg)) (fun M9 => some (a5, I, M9)))))))))) else (some ((-12), I, L))))) else (some ((-11), I, L)))) else (some ((-11), I, L)))))))
theorem ok_X10_copy_0 {d : Nat} (hd : 1 ≤ d) {I : mI} {L : mL} {a1 : Int32} {a2 : Int32} {a3 : Int32} {a4 : Int32} {a5 : Int32} {o : Int32 × mI × mL} (h : f_X10_copy_0 I L a1 a2 a3 a4 a5 = some o) : RR mX10_copy d 0 [some (.ref 0), some (.int a1), some (.int a2), some (.int a3), some (.int a4), some (.int a5)] [] I L (retQ (some (.int o.1)) o.2.1 o.2.2) := by
  unfold f_X10_copy_0 at h
  refine r_iload_n (i := 1) dX10_copy_0 rfl rfl ?_
  obtain ⟨r1, hr, h⟩ := bind_some h
  refine r_S (d' := 0) k_X10_359 dX10_copy_1 (by omega) rfl (Nat.le_of_ble_eq_true rfl) (Nat.le_of_ble_eq_true rfl) (ok_X6_isSheet (Nat.le_refl _) hr) (fun v I' L' hq => ?_)
  obtain ⟨rfl, rfl, rfl⟩ := hq
  simp only [Option.toList_some, Option.toList_none, List.drop_succ_cons, List.drop_zero, List.drop_nil, List.cons_append, List.nil_append]
  refine r_if_eq (tgt := 14) dX10_copy_4 (by decide) (fun c => ?_) (fun c => ?_)
  · rw [if_pos c] at h
    refine r_iconst (v := (-1)) dX10_copy_14 (by decide) ?_
    refine r_iret (by first | rfl | decide) dX10_copy_15 ?_
    obtain rfl := Option.some.inj h
    exact ⟨rfl, rfl, rfl⟩
  · rw [if_neg c] at h
    refine r_iload_n (i := 3) dX10_copy_7 rfl rfl ?_
    obtain ⟨r2, hr, h⟩ := bind_some h
    refine r_S (d' := 0) k_X10_359 dX10_copy_8 (by omega) rfl (Nat.le_of_ble_eq_true rfl) (Nat.le_of_ble_eq_true rfl) (ok_X6_isSheet (Nat.le_refl _) hr) (fun v I' L' hq => ?_)
    obtain ⟨rfl, rfl, rfl⟩ := hq
    simp only [Option.toList_some, Option.toList_none, List.drop_succ_cons, List.drop_zero, List.drop_nil, List.cons_append, List.nil_append]
    refine r_if_ne (tgt := 16) dX10_copy_11 (by decide) (fun c => ?_) (fun c => ?_)
    · rw [if_neg c] at h
      refine r_aload_n (i := 0) dX10_copy_16 rfl rfl ?_
      refine r_getR f_X10_29 dX10_copy_17 rfl rfl ?_
      refine r_iload_n (i := 1) dX10_copy_20 rfl rfl ?_
      obtain ⟨r3, hr, h⟩ := bind_some h
      refine r_V (d' := 0) k_X10_362 dX10_copy_21 (by omega) rfl rfl rfl (Nat.le_of_ble_eq_true rfl) (Nat.le_of_ble_eq_true rfl) (ok_X6_isMissing_39 (Nat.le_refl _) hr) (fun v I' L' hq => ?_)
      obtain ⟨rfl, rfl, rfl⟩ := hq
      simp only [Option.toList_some, Option.toList_none, List.drop_succ_cons, List.drop_zero, List.drop_nil, List.cons_append, List.nil_append]
      refine r_if_ne (tgt := 38) dX10_copy_24 (by decide) (fun c => ?_) (fun c => ?_)
      · rw [if_neg c] at h
        refine r_bipush (v := (-11)) dX10_copy_38 (by decide) ?_
        refine r_iret (by first | rfl | decide) dX10_copy_40 ?_
        obtain rfl := Option.some.inj h
        exact ⟨rfl, rfl, rfl⟩
      · rw [if_pos c] at h
        refine r_aload_n (i := 0) dX10_copy_27 rfl rfl ?_
        refine r_getR f_X10_29 dX10_copy_28 rfl rfl ?_
        refine r_iload_n (i := 3) dX10_copy_31 rfl rfl ?_
        obtain ⟨r4, hr, h⟩ := bind_some h
        refine r_V (d' := 0) k_X10_362 dX10_copy_32 (by omega) rfl rfl rfl (Nat.le_of_ble_eq_true rfl) (Nat.le_of_ble_eq_true rfl) (ok_X6_isMissing_39 (Nat.le_refl _) hr) (fun v I' L' hq => ?_)
        obtain ⟨rfl, rfl, rfl⟩ := hq
        simp only [Option.toList_some, Option.toList_none, List.drop_succ_cons, List.drop_zero, List.drop_nil, List.cons_append, List.nil_append]
        refine r_if_eq (tgt := 41) dX10_copy_35 (by decide) (fun c => ?_) (fun c => ?_)
        · rw [if_pos c] at h
          refine r_aload_n (i := 0) dX10_copy_41 rfl rfl ?_
          refine r_getR f_X10_29 dX10_copy_42 rfl rfl ?_
          refine r_getR f_X10_368 dX10_copy_45 rfl rfl ?_
          refine r_iload_n (i := 1) dX10_copy_48 rfl rfl ?_
          obtain ⟨hb, h⟩ := ck_some h
          refine r_iald rfl (inb_vp hb) dX10_copy_49 ?_
          refine r_aload_n (i := 0) dX10_copy_50 rfl rfl ?_
          refine r_getR f_X10_29 dX10_copy_51 rfl rfl ?_
          refine r_getR f_X10_368 dX10_copy_54 rfl rfl ?_
          refine r_iload_n (i := 3) dX10_copy_57 rfl rfl ?_
          obtain ⟨hb, h⟩ := ck_some h
          refine r_iald rfl (inb_vp hb) dX10_copy_58 ?_
          refine r_icmp_eq (tgt := 65) dX10_copy_59 (by decide) (fun c => ?_) (fun c => ?_)
          · rw [if_pos c] at h
            refine r_aload_n (i := 0) dX10_copy_65 rfl rfl ?_
            refine r_getR f_X10_29 dX10_copy_66 rfl rfl ?_
            refine r_iload_n (i := 1) dX10_copy_69 rfl rfl ?_
            refine r_iload_n (i := 2) dX10_copy_70 rfl rfl ?_
            refine r_iload dX10_copy_71 rfl ?_
            obtain ⟨r5, hr, h⟩ := bind_some h
            refine r_V (d' := 0) k_X10_371 dX10_copy_73 (by omega) rfl rfl rfl (Nat.le_of_ble_eq_true rfl) (Nat.le_of_ble_eq_true rfl) (ok_X6_holds_39 (Nat.le_refl _) hr) (fun v I' L' hq => ?_)
            obtain ⟨rfl, rfl, rfl⟩ := hq
            simp only [Option.toList_some, Option.toList_none, List.drop_succ_cons, List.drop_zero, List.drop_nil, List.cons_append, List.nil_append]
            refine r_if_eq (tgt := 94) dX10_copy_76 (by decide) (fun c => ?_) (fun c => ?_)
            · rw [if_pos c] at h
              refine r_bipush (v := (-13)) dX10_copy_94 (by decide) ?_
              refine r_iret (by first | rfl | decide) dX10_copy_96 ?_
              obtain rfl := Option.some.inj h
              exact ⟨rfl, rfl, rfl⟩
            · rw [if_neg c] at h
              refine r_aload_n (i := 0) dX10_copy_79 rfl rfl ?_
              refine r_getR f_X10_29 dX10_copy_80 rfl rfl ?_
              refine r_iload_n (i := 3) dX10_copy_83 rfl rfl ?_
              refine r_iload dX10_copy_84 rfl ?_
              refine r_iload dX10_copy_86 rfl ?_
              obtain ⟨r6, hr, h⟩ := bind_some h
              refine r_V (d' := 0) k_X10_371 dX10_copy_88 (by omega) rfl rfl rfl (Nat.le_of_ble_eq_true rfl) (Nat.le_of_ble_eq_true rfl) (ok_X6_holds_39 (Nat.le_refl _) hr) (fun v I' L' hq => ?_)
              obtain ⟨rfl, rfl, rfl⟩ := hq
              simp only [Option.toList_some, Option.toList_none, List.drop_succ_cons, List.drop_zero, List.drop_nil, List.cons_append, List.nil_append]
              refine r_if_ne (tgt := 97) dX10_copy_91 (by decide) (fun c => ?_) (fun c => ?_)
              · rw [if_neg c] at h
                refine r_aload_n (i := 0) dX10_copy_97 rfl rfl ?_
                refine r_getR f_X10_29 dX10_copy_98 rfl rfl ?_
                refine r_getR f_X10_321 dX10_copy_101 rfl rfl ?_
                refine r_iload_n (i := 1) dX10_copy_104 rfl rfl ?_
                obtain ⟨hb7, h⟩ := ck_some h
                refine r_aald rfl (inb_vp hb7) dX10_copy_105 ?_
                refine r_iload_n (i := 2) dX10_copy_106 rfl rfl ?_
                refine r_aload_n (i := 0) dX10_copy_107 rfl rfl ?_
                refine r_getR f_X10_29 dX10_copy_108 rfl rfl ?_
                refine r_getR f_X10_321 dX10_copy_111 rfl rfl ?_
                refine r_iload_n (i := 3) dX10_copy_114 rfl rfl ?_
                obtain ⟨hb8, h⟩ := ck_some h
                refine r_aald rfl (inb_vp hb8) dX10_copy_115 ?_
                refine r_iload dX10_copy_116 rfl ?_
                refine r_iload dX10_copy_118 rfl ?_
                obtain ⟨hb, h⟩ := ck_some h
                obtain ⟨hc1, hc2, hc3, hc4, hc5⟩ := cpk_spec hb
                refine r_copyL k_X10_374 (sh_row (inb_lt hb7)) (sh_row (inb_lt hb8)) hc1 hc2 hc3 hc4 hc5 dX10_copy_120 (by omega) (Nat.le_of_ble_eq_true rfl) ?_
                replace h := lt_some h
                refine r_iload dX10_copy_123 rfl ?_
                refine r_iret (by first | rfl | decide) dX10_copy_125 ?_
                obtain rfl := Option.some.inj h
                exact ⟨rfl, rfl, rfl⟩
              · rw [if_pos c] at h
                refine r_bipush (v := (-13)) dX10_copy_94 (by decide) ?_
                refine r_iret (by first | rfl | decide) dX10_copy_96 ?_
                obtain rfl := Option.some.inj h
                exact ⟨rfl, rfl, rfl⟩
          · rw [if_neg c] at h
            refine r_bipush (v := (-12)) dX10_copy_62 (by decide) ?_
            refine r_iret (by first | rfl | decide) dX10_copy_64 ?_
            obtain rfl := Option.some.inj h
            exact ⟨rfl, rfl, rfl⟩
        · rw [if_neg c] at h
          refine r_bipush (v := (-11)) dX10_copy_38 (by decide) ?_
          refine r_iret (by first | rfl | decide) dX10_copy_40 ?_
          obtain rfl := Option.some.inj h
          exact ⟨rfl, rfl, rfl⟩
    · rw [if_pos c] at h
      refine r_iconst (v := (-1)) dX10_copy_14 (by decide) ?_
      refine r_iret (by first | rfl | decide) dX10_copy_15 ?_
      obtain rfl := Option.some.inj h
      exact ⟨rfl, rfl, rfl⟩
def f_X11_in (I : mI) (L : mL) (a0 : Int64) (a1 : Int64) (a2 : Int64) : Option Int32 := if (lg_cmp a0 a1) < 0 then (some 0) else (if 0 < (lg_cmp a0 a2) then (some 0) else (some 1))
theorem ok_X11_in {d : Nat} (hd : 0 ≤ d) {I : mI} {L : mL} {a0 : Int64} {a1 : Int64} {a2 : Int64} {o : Int32} (h : f_X11_in I L a0 a1 a2 = some o) : RR mX11_in d 0 [some (.long a0), none, some (.long a1), none, some (.long a2), none] [] I L (retQ (some (.int o)) I L) := by
  unfold f_X11_in at h
  refine r_lload_n (i := 0) dX11_in_0 rfl rfl ?_
  refine r_lload_n (i := 2) dX11_in_1 rfl rfl ?_
  refine r_lcmp dX11_in_2 ?_
  refine r_if_lt (tgt := 17) dX11_in_3 (by decide) (fun c => ?_) (fun c => ?_)
  · rw [if_pos c] at h
    refine r_iconst (v := 0) dX11_in_17 (by decide) ?_
    refine r_iret (by first | rfl | decide) dX11_in_18 ?_
    obtain rfl := Option.some.inj h
    exact ⟨rfl, rfl, rfl⟩
  · rw [if_neg c] at h
    refine r_lload_n (i := 0) dX11_in_6 rfl rfl ?_
    refine r_lload dX11_in_7 rfl ?_
    refine r_lcmp dX11_in_9 ?_
    refine r_if_gt (tgt := 17) dX11_in_10 (by decide) (fun c => ?_) (fun c => ?_)
    · rw [if_pos c] at h
      refine r_iconst (v := 0) dX11_in_17 (by decide) ?_
      refine r_iret (by first | rfl | decide) dX11_in_18 ?_
      obtain rfl := Option.some.inj h
      exact ⟨rfl, rfl, rfl⟩
    · rw [if_neg c] at h
      refine r_iconst (v := 1) dX11_in_13 (by decide) ?_
      refine r_goto (tgt := 18) dX11_in_14 (by decide) ?_
      refine r_iret (by first | rfl | decide) dX11_in_18 ?_
      obtain rfl := Option.some.inj h
      exact ⟨rfl, rfl, rfl⟩
def f_X11_isParish_67 (I : mI) (L : mL) (a1 : Int32) : Option Int32 := (f_X11_in I L (a1.toInt64) 0 (((I 68 (0 : Int32).toNatClampNeg) - 1).toInt64)).bind (fun r1 => ck (isb r1) (some r1))
theorem ok_X11_isParish_67 {d : Nat} (hd : 1 ≤ d) {I : mI} {L : mL} {a1 : Int32} {o : Int32} (h : f_X11_isParish_67 I L a1 = some o) : RR mX11_isParish d 0 [some (.ref 67), some (.int a1)] [] I L (retQ (some (.int o)) I L) := by
  unfold f_X11_isParish_67 at h
  refine r_iload_n (i := 1) dX11_isParish_0 rfl rfl ?_
  refine r_i2l dX11_isParish_1 ?_
  refine r_lconst (v := 0) dX11_isParish_2 (by decide) ?_
  refine r_aload_n (i := 0) dX11_isParish_3 rfl rfl ?_
  refine r_getR f_X11_7 dX11_isParish_4 rfl rfl ?_
  refine r_iconst (v := 0) dX11_isParish_7 (by decide) ?_
  refine r_iald rfl (vp_lit (by decide)) dX11_isParish_8 ?_
  refine r_iconst (v := 1) dX11_isParish_9 (by decide) ?_
  refine r_isub dX11_isParish_10 ?_
  refine r_i2l dX11_isParish_11 ?_
  obtain ⟨r1, hr, h⟩ := bind_some h
  refine r_S (d' := 0) k_X11_50 dX11_isParish_12 (by omega) rfl (Nat.le_of_ble_eq_true rfl) (Nat.le_of_ble_eq_true rfl) (ok_X11_in (Nat.le_refl _) hr) (fun v I' L' hq => ?_)
  obtain ⟨rfl, rfl, rfl⟩ := hq
  simp only [Option.toList_some, Option.toList_none, List.drop_succ_cons, List.drop_zero, List.drop_nil, List.cons_append, List.nil_append]
  obtain ⟨hb, h⟩ := ck_some h
  refine r_iret (isb_nar hb) dX11_isParish_15 ?_
  obtain rfl := Option.some.inj h
  exact ⟨rfl, rfl, rfl⟩
def f_X11_isRoad_67 (I : mI) (L : mL) (a1 : Int32) : Option Int32 := (f_X11_in I L (a1.toInt64) 0 (((I 68 (1 : Int32).toNatClampNeg) - 1).toInt64)).bind (fun r1 => ck (isb r1) (some r1))
theorem ok_X11_isRoad_67 {d : Nat} (hd : 1 ≤ d) {I : mI} {L : mL} {a1 : Int32} {o : Int32} (h : f_X11_isRoad_67 I L a1 = some o) : RR mX11_isRoad d 0 [some (.ref 67), some (.int a1)] [] I L (retQ (some (.int o)) I L) := by
  unfold f_X11_isRoad_67 at h
  refine r_iload_n (i := 1) dX11_isRoad_0 rfl rfl ?_
  refine r_i2l dX11_isRoad_1 ?_
  refine r_lconst (v := 0) dX11_isRoad_2 (by decide) ?_
  refine r_aload_n (i := 0) dX11_isRoad_3 rfl rfl ?_
  refine r_getR f_X11_7 dX11_isRoad_4 rfl rfl ?_
  refine r_iconst (v := 1) dX11_isRoad_7 (by decide) ?_
  refine r_iald rfl (vp_lit (by decide)) dX11_isRoad_8 ?_
  refine r_iconst (v := 1) dX11_isRoad_9 (by decide) ?_
  refine r_isub dX11_isRoad_10 ?_
  refine r_i2l dX11_isRoad_11 ?_
  obtain ⟨r1, hr, h⟩ := bind_some h
  refine r_S (d' := 0) k_X11_50 dX11_isRoad_12 (by omega) rfl (Nat.le_of_ble_eq_true rfl) (Nat.le_of_ble_eq_true rfl) (ok_X11_in (Nat.le_refl _) hr) (fun v I' L' hq => ?_)
  obtain ⟨rfl, rfl, rfl⟩ := hq
  simp only [Option.toList_some, Option.toList_none, List.drop_succ_cons, List.drop_zero, List.drop_nil, List.cons_append, List.nil_append]
  obtain ⟨hb, h⟩ := ck_some h
  refine r_iret (isb_nar hb) dX11_isRoad_15 ?_
  obtain rfl := Option.some.inj h
  exact ⟨rfl, rfl, rfl⟩
def f_X11_isCart_67 (I : mI) (L : mL) (a1 : Int32) : Option Int32 := (f_X11_in I L (a1.toInt64) 0 (((I 68 (2 : Int32).toNatClampNeg) - 1).toInt64)).bind (fun r1 => ck (isb r1) (some r1))
theorem ok_X11_isCart_67 {d : Nat} (hd : 1 ≤ d) {I : mI} {L : mL} {a1 : Int32} {o : Int32} (h : f_X11_isCart_67 I L a1 = some o) : RR mX11_isCart d 0 [some (.ref 67), some (.int a1)] [] I L (retQ (some (.int o)) I L) := by
  unfold f_X11_isCart_67 at h
  refine r_iload_n (i := 1) dX11_isCart_0 rfl rfl ?_
  refine r_i2l dX11_isCart_1 ?_
  refine r_lconst (v := 0) dX11_isCart_2 (by decide) ?_
  refine r_aload_n (i := 0) dX11_isCart_3 rfl rfl ?_
  refine r_getR f_X11_7 dX11_isCart_4 rfl rfl ?_
  refine r_iconst (v := 2) dX11_isCart_7 (by decide) ?_
  refine r_iald rfl (vp_lit (by decide)) dX11_isCart_8 ?_
  refine r_iconst (v := 1) dX11_isCart_9 (by decide) ?_
  refine r_isub dX11_isCart_10 ?_
  refine r_i2l dX11_isCart_11 ?_
  obtain ⟨r1, hr, h⟩ := bind_some h
  refine r_S (d' := 0) k_X11_50 dX11_isCart_12 (by omega) rfl (Nat.le_of_ble_eq_true rfl) (Nat.le_of_ble_eq_true rfl) (ok_X11_in (Nat.le_refl _) hr) (fun v I' L' hq => ?_)
  obtain ⟨rfl, rfl, rfl⟩ := hq
  simp only [Option.toList_some, Option.toList_none, List.drop_succ_cons, List.drop_zero, List.drop_nil, List.cons_append, List.nil_append]
  obtain ⟨hb, h⟩ := ck_some h
  refine r_iret (isb_nar hb) dX11_isCart_15 ?_
  obtain rfl := Option.some.inj h
  exact ⟨rfl, rfl, rfl⟩
def f_X11_isGood_67 (I : mI) (L : mL) (a1 : Int32) : Option Int32 := (f_X11_in I L (a1.toInt64) 0 (((I 68 (3 : Int32).toNatClampNeg) - 1).toInt64)).bind (fun r1 => ck (isb r1) (some r1))
theorem ok_X11_isGood_67 {d : Nat} (hd : 1 ≤ d) {I : mI} {L : mL} {a1 : Int32} {o : Int32} (h : f_X11_isGood_67 I L a1 = some o) : RR mX11_isGood d 0 [some (.ref 67), some (.int a1)] [] I L (retQ (some (.int o)) I L) := by
  unfold f_X11_isGood_67 at h
  refine r_iload_n (i := 1) dX11_isGood_0 rfl rfl ?_
  refine r_i2l dX11_isGood_1 ?_
  refine r_lconst (v := 0) dX11_isGood_2 (by decide) ?_
  refine r_aload_n (i := 0) dX11_isGood_3 rfl rfl ?_
  refine r_getR f_X11_7 dX11_isGood_4 rfl rfl ?_
  refine r_iconst (v := 3) dX11_isGood_7 (by decide) ?_
  refine r_iald rfl (vp_lit (by decide)) dX11_isGood_8 ?_
  refine r_iconst (v := 1) dX11_isGood_9 (by decide) ?_
  refine r_isub dX11_isGood_10 ?_
  refine r_i2l dX11_isGood_11 ?_
  obtain ⟨r1, hr, h⟩ := bind_some h
  refine r_S (d' := 0) k_X11_50 dX11_isGood_12 (by omega) rfl (Nat.le_of_ble_eq_true rfl) (Nat.le_of_ble_eq_true rfl) (ok_X11_in (Nat.le_refl _) hr) (fun v I' L' hq => ?_)
  obtain ⟨rfl, rfl, rfl⟩ := hq
  simp only [Option.toList_some, Option.toList_none, List.drop_succ_cons, List.drop_zero, List.drop_nil, List.cons_append, List.nil_append]
  obtain ⟨hb, h⟩ := ck_some h
  refine r_iret (isb_nar hb) dX11_isGood_15 ?_
  obtain rfl := Option.some.inj h
  exact ⟨rfl, rfl, rfl⟩
def f_X11_isPerson_67 (I : mI) (L : mL) (a1 : Int32) : Option Int32 := (f_X11_in I L (a1.toInt64) 0 (((I 68 (4 : Int32).toNatClampNeg) - 1).toInt64)).bind (fun r1 => ck (isb r1) (some r1))
theorem ok_X11_isPerson_67 {d : Nat} (hd : 1 ≤ d) {I : mI} {L : mL} {a1 : Int32} {o : Int32} (h : f_X11_isPerson_67 I L a1 = some o) : RR mX11_isPerson d 0 [some (.ref 67), some (.int a1)] [] I L (retQ (some (.int o)) I L) := by
  unfold f_X11_isPerson_67 at h
  refine r_iload_n (i := 1) dX11_isPerson_0 rfl rfl ?_
  refine r_i2l dX11_isPerson_1 ?_
  refine r_lconst (v := 0) dX11_isPerson_2 (by decide) ?_
  refine r_aload_n (i := 0) dX11_isPerson_3 rfl rfl ?_
  refine r_getR f_X11_7 dX11_isPerson_4 rfl rfl ?_
  refine r_iconst (v := 4) dX11_isPerson_7 (by decide) ?_
  refine r_iald rfl (vp_lit (by decide)) dX11_isPerson_8 ?_
  refine r_iconst (v := 1) dX11_isPerson_9 (by decide) ?_
  refine r_isub dX11_isPerson_10 ?_
  refine r_i2l dX11_isPerson_11 ?_
  obtain ⟨r1, hr, h⟩ := bind_some h
  refine r_S (d' := 0) k_X11_50 dX11_isPerson_12 (by omega) rfl (Nat.le_of_ble_eq_true rfl) (Nat.le_of_ble_eq_true rfl) (ok_X11_in (Nat.le_refl _) hr) (fun v I' L' hq => ?_)
  obtain ⟨rfl, rfl, rfl⟩ := hq
  simp only [Option.toList_some, Option.toList_none, List.drop_succ_cons, List.drop_zero, List.drop_nil, List.cons_append, List.nil_append]
  obtain ⟨hb, h⟩ := ck_some h
  refine r_iret (isb_nar hb) dX11_isPerson_15 ?_
  obtain rfl := Option.some.inj h
  exact ⟨rfl, rfl, rfl⟩
