def f_X11_book_67_l126 : Nat → Int32 → Int32 → Int32 → Int32 → Int32 → mI → mL → rI
  | 0, _, _, _, _, _, _, _ => none
  | n + 1, x8, x10, x11, x12, x13, I, L => if 4 ≤ x13 then (if x8 = 0 then (some (x11, I, L)) else (if x8 = 2 then (some (x10, I, L)) else (if x11 = 0 then (some ((-4), I, L)) else (some (x12, I, L))))) else (ck (inb x13 4) ((f_X11_bits I L (I 80 x13.toNatClampNeg)).bind (fun r11 => lt (x11 * r11) (fun v12 => ck (inb x13 4) ((f_X11_bits I L (I 80 x13.toNatClampNeg)).bind (fun r13 => if r13 = 1 then (lt (x12 ||| ((1 : Int32) <<< (x13 &&& 31))) (fun v16 => lt (x13 + Int32.ofInt 1) (fun v17 => f_X11_book_67_l126 n x8 x10 v12 v16 v17 I L))) else (lt (x12 ||| 0) (fun v14 => lt (x13 + Int32.ofInt 1) (fun v15 => f_X11_book_67_l126 n x8 x10 v12 v14 v15 I L)))))))))
theorem ok_X11_book_67_l126 {d : Nat} (hd : 2 ≤ d) : ∀ (n : Nat) (x8 : Int32) (x10 : Int32) (x11 : Int32) (x12 : Int32) (x13 : Int32) (I : mI) (L : mL) (o : Int32 × mI × mL), f_X11_book_67_l126 n x8 x10 x11 x12 x13 I L = some o → RR mX11_book d 126 [some (.ref 67), none, none, none, none, none, none, none, some (.int x8), none, some (.int x10), some (.int x11), some (.int x12), some (.int x13)] [] I L (retQ (some (.int o.1)) o.2.1 o.2.2) := by
  intro n
  induction n with
  | zero => intro x8 x10 x11 x12 x13 I L o h; rw [f_X11_book_67_l126] at h; cases h
  | succ n ih =>
    intro x8 x10 x11 x12 x13 I L o h
    rw [f_X11_book_67_l126] at h
    refine r_iload dX11_book_126 rfl ?_
    refine r_iconst (v := 4) dX11_book_128 (by decide) ?_
    refine r_icmp_ge (tgt := 180) dX11_book_129 (by decide) (fun c => ?_) (fun c => ?_)
    · rw [if_pos c] at h
      refine r_iload dX11_book_180 rfl ?_
      refine r_if_ne (tgt := 190) dX11_book_182 (by decide) (fun c => ?_) (fun c => ?_)
      · rw [if_neg c] at h
        refine r_iload dX11_book_190 rfl ?_
        refine r_iconst (v := 2) dX11_book_192 (by decide) ?_
        refine r_icmp_ne (tgt := 201) dX11_book_193 (by decide) (fun c => ?_) (fun c => ?_)
        · rw [if_neg c] at h
          refine r_iload dX11_book_201 rfl ?_
          refine r_if_ne (tgt := 211) dX11_book_203 (by decide) (fun c => ?_) (fun c => ?_)
          · rw [if_neg c] at h
            refine r_iload dX11_book_211 rfl ?_
            refine r_iret (by first | rfl | decide) dX11_book_213 ?_
            obtain rfl := Option.some.inj h
            exact ⟨rfl, rfl, rfl⟩
          · rw [if_pos c] at h
            refine r_bipush (v := (-4)) dX11_book_206 (by decide) ?_
            refine r_goto (tgt := 213) dX11_book_208 (by decide) ?_
            refine r_iret (by first | rfl | decide) dX11_book_213 ?_
            obtain rfl := Option.some.inj h
            exact ⟨rfl, rfl, rfl⟩
        · rw [if_pos c] at h
          refine r_iload dX11_book_196 rfl ?_
          refine r_goto (tgt := 213) dX11_book_198 (by decide) ?_
          refine r_iret (by first | rfl | decide) dX11_book_213 ?_
          obtain rfl := Option.some.inj h
          exact ⟨rfl, rfl, rfl⟩
      · rw [if_pos c] at h
        refine r_iload dX11_book_185 rfl ?_
        refine r_goto (tgt := 213) dX11_book_187 (by decide) ?_
        refine r_iret (by first | rfl | decide) dX11_book_213 ?_
        obtain rfl := Option.some.inj h
        exact ⟨rfl, rfl, rfl⟩
    · rw [if_neg c] at h
      refine r_iload dX11_book_132 rfl ?_
      refine r_aload_n (i := 0) dX11_book_134 rfl rfl ?_
      refine r_getR f_X11_47 dX11_book_135 rfl rfl ?_
      refine r_iload dX11_book_138 rfl ?_
      obtain ⟨hb, h⟩ := ck_some h
      refine r_iald rfl (inb_vp hb) dX11_book_140 ?_
      obtain ⟨r11, hr, h⟩ := bind_some h
      refine r_S (d' := 0) k_X11_185 dX11_book_141 (by omega) rfl (Nat.le_of_ble_eq_true rfl) (Nat.le_of_ble_eq_true rfl) (ok_X11_bits (Nat.le_refl _) hr) (fun v I' L' hq => ?_)
      obtain ⟨rfl, rfl, rfl⟩ := hq
      simp only [Option.toList_some, Option.toList_none, List.drop_succ_cons, List.drop_zero, List.drop_nil, List.cons_append, List.nil_append]
      refine r_imul dX11_book_144 ?_
      refine r_istore dX11_book_145 (by decide) rfl ?_
      simp only [List.set_cons_zero, List.set_cons_succ]
      replace h := lt_some h
      refine r_iload dX11_book_147 rfl ?_
      refine r_aload_n (i := 0) dX11_book_149 rfl rfl ?_
      refine r_getR f_X11_47 dX11_book_150 rfl rfl ?_
      refine r_iload dX11_book_153 rfl ?_
      obtain ⟨hb, h⟩ := ck_some h
      refine r_iald rfl (inb_vp hb) dX11_book_155 ?_
      obtain ⟨r13, hr, h⟩ := bind_some h
      refine r_S (d' := 0) k_X11_185 dX11_book_156 (by omega) rfl (Nat.le_of_ble_eq_true rfl) (Nat.le_of_ble_eq_true rfl) (ok_X11_bits (Nat.le_refl _) hr) (fun v I' L' hq => ?_)
      obtain ⟨rfl, rfl, rfl⟩ := hq
      simp only [Option.toList_some, Option.toList_none, List.drop_succ_cons, List.drop_zero, List.drop_nil, List.cons_append, List.nil_append]
      refine r_iconst (v := 1) dX11_book_159 (by decide) ?_
      refine r_icmp_ne (tgt := 170) dX11_book_160 (by decide) (fun c => ?_) (fun c => ?_)
      · rw [if_neg c] at h
        refine r_iconst (v := 0) dX11_book_170 (by decide) ?_
        refine r_ior dX11_book_171 ?_
        refine r_istore dX11_book_172 (by decide) rfl ?_
        simp only [List.set_cons_zero, List.set_cons_succ]
        replace h := lt_some h
        refine r_iinc (v := _) dX11_book_174 rfl rfl (by decide) rfl ?_
        simp only [List.set_cons_zero, List.set_cons_succ]
        replace h := lt_some h
        refine r_goto (tgt := 126) dX11_book_177 (by decide) ?_
        exact RR.wk (ih _ _ _ _ _ _ _ _ h) (And.intro rfl (And.intro rfl (And.intro rfl (And.intro rfl (And.intro rfl (And.intro rfl (trivial)))))))
      · rw [if_pos c] at h
        refine r_iconst (v := 1) dX11_book_163 (by decide) ?_
        refine r_iload dX11_book_164 rfl ?_
        refine r_ishl dX11_book_166 ?_
        refine r_goto (tgt := 171) dX11_book_167 (by decide) ?_
        refine r_ior dX11_book_171 ?_
        refine r_istore dX11_book_172 (by decide) rfl ?_
        simp only [List.set_cons_zero, List.set_cons_succ]
        replace h := lt_some h
        refine r_iinc (v := _) dX11_book_174 rfl rfl (by decide) rfl ?_
        simp only [List.set_cons_zero, List.set_cons_succ]
        replace h := lt_some h
        refine r_goto (tgt := 126) dX11_book_177 (by decide) ?_
        exact RR.wk (ih _ _ _ _ _ _ _ _ h) (And.intro rfl (And.intro rfl (And.intro rfl (And.intro rfl (And.intro rfl (And.intro rfl (trivial)))))))
def f_X11_book_67 (I : mI) (L : mL) (a1 : Int32) (a2 : Int32) (a3 : Int32) (a4 : Int32) (a5 : Int32) (a6 : Int32) (a7 : Int32) (a8 : Int32) : rI := (f_X11_isParish_67 I L a1).bind (fun r1 => if r1 = 0 then (some ((-1), I, L)) else ((f_X11_in I L (a2.toInt64) 1 99).bind (fun r2 => if r2 = 0 then (some ((-1), I, L)) else ((f_X11_in I L (a3.toInt64) 0 9975).bind (fun r3 => if r3 = 0 then (some ((-1), I, L)) else ((f_X11_isSheet I L a4).bind (fun r4 => if r4 = 0 then (some ((-1), I, L)) else ((f_X11_isLane I L a5).bind (fun r5 => if r5 = 0 then (some ((-1), I, L)) else ((f_X11_in I L (a7.toInt64) 1 24).bind (fun r6 => if r6 = 0 then (some ((-1), I, L)) else ((f_X11_in I L (a8.toInt64) 0 2).bind (fun r7 => if r7 = 0 then (some ((-1), I, L)) else ((f_X11_finds_67 I L a4 a5 a6 a7).bind (fun r8 => if 0 ≤ r8 then (bndI (f_X11_layBook_67 I L a1 a2 a3 ((24 * a4) + a6) a7) (fun r9 Ir9 Lr9 => f_X11_book_67_l126 fuel a8 r9 1 0 0 Ir9 Lr9)) else (some (r8, I, L)))))))))))))))))
theorem ok_X11_book_67 {d : Nat} (hd : 2 ≤ d) {I : mI} {L : mL} {a1 : Int32} {a2 : Int32} {a3 : Int32} {a4 : Int32} {a5 : Int32} {a6 : Int32} {a7 : Int32} {a8 : Int32} {o : Int32 × mI × mL} (h : f_X11_book_67 I L a1 a2 a3 a4 a5 a6 a7 a8 = some o) : RR mX11_book d 0 [some (.ref 67), some (.int a1), some (.int a2), some (.int a3), some (.int a4), some (.int a5), some (.int a6), some (.int a7), some (.int a8), none, none, none, none, none] [] I L (retQ (some (.int o.1)) o.2.1 o.2.2) := by
  unfold f_X11_book_67 at h
  refine r_aload_n (i := 0) dX11_book_0 rfl rfl ?_
  refine r_iload_n (i := 1) dX11_book_1 rfl rfl ?_
  obtain ⟨r1, hr, h⟩ := bind_some h
  refine r_V (d' := 1) k_X11_68 dX11_book_2 (by omega) rfl rfl rfl (Nat.le_of_ble_eq_true rfl) (Nat.le_of_ble_eq_true rfl) (ok_X11_isParish_67 (Nat.le_refl _) hr) (fun v I' L' hq => ?_)
  obtain ⟨rfl, rfl, rfl⟩ := hq
  simp only [Option.toList_some, Option.toList_none, List.drop_succ_cons, List.drop_zero, List.drop_nil, List.cons_append, List.nil_append]
  refine r_if_eq (tgt := 74) dX11_book_5 (by decide) (fun c => ?_) (fun c => ?_)
  · rw [if_pos c] at h
    refine r_iconst (v := (-1)) dX11_book_74 (by decide) ?_
    refine r_iret (by first | rfl | decide) dX11_book_75 ?_
    obtain rfl := Option.some.inj h
    exact ⟨rfl, rfl, rfl⟩
  · rw [if_neg c] at h
    refine r_iload_n (i := 2) dX11_book_8 rfl rfl ?_
    refine r_i2l dX11_book_9 ?_
    refine r_lconst (v := 1) dX11_book_10 (by decide) ?_
    refine r_ldc2 n_X11_83 dX11_book_11 ?_
    obtain ⟨r2, hr, h⟩ := bind_some h
    refine r_S (d' := 0) k_X11_50 dX11_book_14 (by omega) rfl (Nat.le_of_ble_eq_true rfl) (Nat.le_of_ble_eq_true rfl) (ok_X11_in (Nat.le_refl _) hr) (fun v I' L' hq => ?_)
    obtain ⟨rfl, rfl, rfl⟩ := hq
    simp only [Option.toList_some, Option.toList_none, List.drop_succ_cons, List.drop_zero, List.drop_nil, List.cons_append, List.nil_append]
    refine r_if_eq (tgt := 74) dX11_book_17 (by decide) (fun c => ?_) (fun c => ?_)
    · rw [if_pos c] at h
      refine r_iconst (v := (-1)) dX11_book_74 (by decide) ?_
      refine r_iret (by first | rfl | decide) dX11_book_75 ?_
      obtain rfl := Option.some.inj h
      exact ⟨rfl, rfl, rfl⟩
    · rw [if_neg c] at h
      refine r_iload_n (i := 3) dX11_book_20 rfl rfl ?_
      refine r_i2l dX11_book_21 ?_
      refine r_lconst (v := 0) dX11_book_22 (by decide) ?_
      refine r_ldc2 n_X11_238 dX11_book_23 ?_
      obtain ⟨r3, hr, h⟩ := bind_some h
      refine r_S (d' := 0) k_X11_50 dX11_book_26 (by omega) rfl (Nat.le_of_ble_eq_true rfl) (Nat.le_of_ble_eq_true rfl) (ok_X11_in (Nat.le_refl _) hr) (fun v I' L' hq => ?_)
      obtain ⟨rfl, rfl, rfl⟩ := hq
      simp only [Option.toList_some, Option.toList_none, List.drop_succ_cons, List.drop_zero, List.drop_nil, List.cons_append, List.nil_append]
      refine r_if_eq (tgt := 74) dX11_book_29 (by decide) (fun c => ?_) (fun c => ?_)
      · rw [if_pos c] at h
        refine r_iconst (v := (-1)) dX11_book_74 (by decide) ?_
        refine r_iret (by first | rfl | decide) dX11_book_75 ?_
        obtain rfl := Option.some.inj h
        exact ⟨rfl, rfl, rfl⟩
      · rw [if_neg c] at h
        refine r_iload dX11_book_32 rfl ?_
        obtain ⟨r4, hr, h⟩ := bind_some h
        refine r_S (d' := 1) k_X11_220 dX11_book_34 (by omega) rfl (Nat.le_of_ble_eq_true rfl) (Nat.le_of_ble_eq_true rfl) (ok_X11_isSheet (Nat.le_refl _) hr) (fun v I' L' hq => ?_)
        obtain ⟨rfl, rfl, rfl⟩ := hq
        simp only [Option.toList_some, Option.toList_none, List.drop_succ_cons, List.drop_zero, List.drop_nil, List.cons_append, List.nil_append]
        refine r_if_eq (tgt := 74) dX11_book_37 (by decide) (fun c => ?_) (fun c => ?_)
        · rw [if_pos c] at h
          refine r_iconst (v := (-1)) dX11_book_74 (by decide) ?_
          refine r_iret (by first | rfl | decide) dX11_book_75 ?_
          obtain rfl := Option.some.inj h
          exact ⟨rfl, rfl, rfl⟩
        · rw [if_neg c] at h
          refine r_iload dX11_book_40 rfl ?_
          obtain ⟨r5, hr, h⟩ := bind_some h
          refine r_S (d' := 1) k_X11_223 dX11_book_42 (by omega) rfl (Nat.le_of_ble_eq_true rfl) (Nat.le_of_ble_eq_true rfl) (ok_X11_isLane (Nat.le_refl _) hr) (fun v I' L' hq => ?_)
          obtain ⟨rfl, rfl, rfl⟩ := hq
          simp only [Option.toList_some, Option.toList_none, List.drop_succ_cons, List.drop_zero, List.drop_nil, List.cons_append, List.nil_append]
          refine r_if_eq (tgt := 74) dX11_book_45 (by decide) (fun c => ?_) (fun c => ?_)
          · rw [if_pos c] at h
            refine r_iconst (v := (-1)) dX11_book_74 (by decide) ?_
            refine r_iret (by first | rfl | decide) dX11_book_75 ?_
            obtain rfl := Option.some.inj h
            exact ⟨rfl, rfl, rfl⟩
          · rw [if_neg c] at h
            refine r_iload dX11_book_48 rfl ?_
            refine r_i2l dX11_book_50 ?_
            refine r_lconst (v := 1) dX11_book_51 (by decide) ?_
            refine r_ldc2 n_X11_240 dX11_book_52 ?_
            obtain ⟨r6, hr, h⟩ := bind_some h
            refine r_S (d' := 0) k_X11_50 dX11_book_55 (by omega) rfl (Nat.le_of_ble_eq_true rfl) (Nat.le_of_ble_eq_true rfl) (ok_X11_in (Nat.le_refl _) hr) (fun v I' L' hq => ?_)
            obtain ⟨rfl, rfl, rfl⟩ := hq
            simp only [Option.toList_some, Option.toList_none, List.drop_succ_cons, List.drop_zero, List.drop_nil, List.cons_append, List.nil_append]
            refine r_if_eq (tgt := 74) dX11_book_58 (by decide) (fun c => ?_) (fun c => ?_)
            · rw [if_pos c] at h
              refine r_iconst (v := (-1)) dX11_book_74 (by decide) ?_
              refine r_iret (by first | rfl | decide) dX11_book_75 ?_
              obtain rfl := Option.some.inj h
              exact ⟨rfl, rfl, rfl⟩
            · rw [if_neg c] at h
              refine r_iload dX11_book_61 rfl ?_
              refine r_i2l dX11_book_63 ?_
              refine r_lconst (v := 0) dX11_book_64 (by decide) ?_
              refine r_ldc2 n_X11_93 dX11_book_65 ?_
              obtain ⟨r7, hr, h⟩ := bind_some h
              refine r_S (d' := 0) k_X11_50 dX11_book_68 (by omega) rfl (Nat.le_of_ble_eq_true rfl) (Nat.le_of_ble_eq_true rfl) (ok_X11_in (Nat.le_refl _) hr) (fun v I' L' hq => ?_)
              obtain ⟨rfl, rfl, rfl⟩ := hq
              simp only [Option.toList_some, Option.toList_none, List.drop_succ_cons, List.drop_zero, List.drop_nil, List.cons_append, List.nil_append]
              refine r_if_ne (tgt := 76) dX11_book_71 (by decide) (fun c => ?_) (fun c => ?_)
              · rw [if_neg c] at h
                refine r_aload_n (i := 0) dX11_book_76 rfl rfl ?_
                refine r_iload dX11_book_77 rfl ?_
                refine r_iload dX11_book_79 rfl ?_
                refine r_iload dX11_book_81 rfl ?_
                refine r_iload dX11_book_83 rfl ?_
                obtain ⟨r8, hr, h⟩ := bind_some h
                refine r_V (d' := 0) k_X11_226 dX11_book_85 (by omega) rfl rfl rfl (Nat.le_of_ble_eq_true rfl) (Nat.le_of_ble_eq_true rfl) (ok_X11_finds_67 (Nat.le_refl _) hr) (fun v I' L' hq => ?_)
                obtain ⟨rfl, rfl, rfl⟩ := hq
                simp only [Option.toList_some, Option.toList_none, List.drop_succ_cons, List.drop_zero, List.drop_nil, List.cons_append, List.nil_append]
                refine r_istore dX11_book_88 (by decide) rfl ?_
                simp only [List.set_cons_zero, List.set_cons_succ]
                refine r_iload dX11_book_90 rfl ?_
                refine r_if_ge (tgt := 98) dX11_book_92 (by decide) (fun c => ?_) (fun c => ?_)
                · rw [if_pos c] at h
                  refine r_aload_n (i := 0) dX11_book_98 rfl rfl ?_
                  refine r_iload_n (i := 1) dX11_book_99 rfl rfl ?_
                  refine r_iload_n (i := 2) dX11_book_100 rfl rfl ?_
                  refine r_iload_n (i := 3) dX11_book_101 rfl rfl ?_
                  refine r_bipush (v := 24) dX11_book_102 (by decide) ?_
                  refine r_iload dX11_book_104 rfl ?_
                  refine r_imul dX11_book_106 ?_
                  refine r_iload dX11_book_107 rfl ?_
                  refine r_iadd dX11_book_109 ?_
                  refine r_iload dX11_book_110 rfl ?_
                  obtain ⟨⟨r9, Ir9, Lr9⟩, hr, h⟩ := bind_some h
                  refine r_V (d' := 1) k_X11_242 dX11_book_112 (by omega) rfl rfl rfl (Nat.le_of_ble_eq_true rfl) (Nat.le_of_ble_eq_true rfl) (ok_X11_layBook_67 (Nat.le_refl _) hr) (fun v I' L' hq => ?_)
                  obtain ⟨rfl, rfl, rfl⟩ := hq
                  simp only [Option.toList_some, Option.toList_none, List.drop_succ_cons, List.drop_zero, List.drop_nil, List.cons_append, List.nil_append]
                  dsimp only at h
                  refine r_istore dX11_book_115 (by decide) rfl ?_
                  simp only [List.set_cons_zero, List.set_cons_succ]
                  refine r_iconst (v := 1) dX11_book_117 (by decide) ?_
                  refine r_istore dX11_book_118 (by decide) rfl ?_
                  simp only [List.set_cons_zero, List.set_cons_succ]
                  refine r_iconst (v := 0) dX11_book_120 (by decide) ?_
                  refine r_istore dX11_book_121 (by decide) rfl ?_
                  simp only [List.set_cons_zero, List.set_cons_succ]
                  refine r_iconst (v := 0) dX11_book_123 (by decide) ?_
                  refine r_istore dX11_book_124 (by decide) rfl ?_
                  simp only [List.set_cons_zero, List.set_cons_succ]
                  exact RR.wk (ok_X11_book_67_l126 hd _ _ _ _ _ _ _ _ _ h) (And.intro rfl (And.intro rfl (And.intro rfl (And.intro rfl (And.intro rfl (And.intro rfl (trivial)))))))
                · rw [if_neg c] at h
                  refine r_iload dX11_book_95 rfl ?_
                  refine r_iret (by first | rfl | decide) dX11_book_97 ?_
                  obtain rfl := Option.some.inj h
                  exact ⟨rfl, rfl, rfl⟩
              · rw [if_pos c] at h
                refine r_iconst (v := (-1)) dX11_book_74 (by decide) ?_
                refine r_iret (by first | rfl | decide) dX11_book_75 ?_
                obtain rfl := Option.some.inj h
                exact ⟨rfl, rfl, rfl⟩
def f_X11_mills_67_l56 (I : mI) (L : mL) : Nat → Int32 → Int32 → Int32 → Int32 → Int32 → Option Int32
  | 0, _, _, _, _, _ => none
  | n + 1, x1, x3, x4, x6, x7 => if x4 ≤ x7 then (some x6) else (ck (inb (((24 * x1) + x3) + (2 * x7)) 96) (lt (L 73 (((24 * x1) + x3) + (2 * x7)).toNatClampNeg) (fun v5 => ck (inb ((((24 * x1) + x3) + (2 * x7)) + 1) 96) (lt (L 73 ((((24 * x1) + x3) + (2 * x7)) + 1).toNatClampNeg) (fun v6 => (f_X11_in I L v5 0 (((I 68 (0 : Int32).toNatClampNeg) - 1).toInt64)).bind (fun r7 => if r7 = 0 then (some (-2)) else ((f_X11_in I L v6 0 99).bind (fun r8 => if r8 = 0 then (some (-2)) else ((f_X11_weight_67 I L (v5.toInt32) 1).bind (fun r9 => lt (x6 + (r9 * (v6.toInt32))) (fun v10 => lt (x7 + Int32.ofInt 1) (fun v11 => f_X11_mills_67_l56 I L n x1 x3 x4 v10 v11))))))))))))
theorem ok_X11_mills_67_l56 {d : Nat} (hd : 2 ≤ d){I : mI} {L : mL} : ∀ (n : Nat) (x1 : Int32) (x3 : Int32) (x4 : Int32) (x6 : Int32) (x7 : Int32) (o : Int32), f_X11_mills_67_l56 I L n x1 x3 x4 x6 x7 = some o → RR mX11_mills d 56 [some (.ref 67), some (.int x1), none, some (.int x3), some (.int x4), none, some (.int x6), some (.int x7), none, none, none, none] [] I L (retQ (some (.int o)) I L) := by
  intro n
  induction n with
  | zero => intro x1 x3 x4 x6 x7 o h; rw [f_X11_mills_67_l56] at h; cases h
  | succ n ih =>
    intro x1 x3 x4 x6 x7 o h
    rw [f_X11_mills_67_l56] at h
    refine r_iload dX11_mills_56 rfl ?_
    refine r_iload dX11_mills_58 rfl ?_
    refine r_icmp_ge (tgt := 157) dX11_mills_60 (by decide) (fun c => ?_) (fun c => ?_)
    · rw [if_pos c] at h
      refine r_iload dX11_mills_157 rfl ?_
      refine r_iret (by first | rfl | decide) dX11_mills_159 ?_
      obtain rfl := Option.some.inj h
      exact ⟨rfl, rfl, rfl⟩
    · rw [if_neg c] at h
      refine r_aload_n (i := 0) dX11_mills_63 rfl rfl ?_
      refine r_getR f_X11_25 dX11_mills_64 rfl rfl ?_
      refine r_bipush (v := 24) dX11_mills_67 (by decide) ?_
      refine r_iload_n (i := 1) dX11_mills_69 rfl rfl ?_
      refine r_imul dX11_mills_70 ?_
      refine r_iload_n (i := 3) dX11_mills_71 rfl rfl ?_
      refine r_iadd dX11_mills_72 ?_
      refine r_iconst (v := 2) dX11_mills_73 (by decide) ?_
      refine r_iload dX11_mills_74 rfl ?_
      refine r_imul dX11_mills_76 ?_
      refine r_iadd dX11_mills_77 ?_
      obtain ⟨hb, h⟩ := ck_some h
      refine r_lald rfl (inb_vp hb) dX11_mills_78 ?_
      refine r_lstore dX11_mills_79 (by decide) rfl ?_
      simp only [List.set_cons_zero, List.set_cons_succ]
      replace h := lt_some h
      refine r_aload_n (i := 0) dX11_mills_81 rfl rfl ?_
      refine r_getR f_X11_25 dX11_mills_82 rfl rfl ?_
      refine r_bipush (v := 24) dX11_mills_85 (by decide) ?_
      refine r_iload_n (i := 1) dX11_mills_87 rfl rfl ?_
      refine r_imul dX11_mills_88 ?_
      refine r_iload_n (i := 3) dX11_mills_89 rfl rfl ?_
      refine r_iadd dX11_mills_90 ?_
      refine r_iconst (v := 2) dX11_mills_91 (by decide) ?_
      refine r_iload dX11_mills_92 rfl ?_
      refine r_imul dX11_mills_94 ?_
      refine r_iadd dX11_mills_95 ?_
      refine r_iconst (v := 1) dX11_mills_96 (by decide) ?_
      refine r_iadd dX11_mills_97 ?_
      obtain ⟨hb, h⟩ := ck_some h
      refine r_lald rfl (inb_vp hb) dX11_mills_98 ?_
      refine r_lstore dX11_mills_99 (by decide) rfl ?_
      simp only [List.set_cons_zero, List.set_cons_succ]
      replace h := lt_some h
      refine r_lload dX11_mills_101 rfl ?_
      refine r_lconst (v := 0) dX11_mills_103 (by decide) ?_
      refine r_aload_n (i := 0) dX11_mills_104 rfl rfl ?_
      refine r_getR f_X11_7 dX11_mills_105 rfl rfl ?_
      refine r_iconst (v := 0) dX11_mills_108 (by decide) ?_
      refine r_iald rfl (vp_lit (by decide)) dX11_mills_109 ?_
      refine r_iconst (v := 1) dX11_mills_110 (by decide) ?_
      refine r_isub dX11_mills_111 ?_
      refine r_i2l dX11_mills_112 ?_
      obtain ⟨r7, hr, h⟩ := bind_some h
      refine r_S (d' := 0) k_X11_50 dX11_mills_113 (by omega) rfl (Nat.le_of_ble_eq_true rfl) (Nat.le_of_ble_eq_true rfl) (ok_X11_in (Nat.le_refl _) hr) (fun v I' L' hq => ?_)
      obtain ⟨rfl, rfl, rfl⟩ := hq
      simp only [Option.toList_some, Option.toList_none, List.drop_succ_cons, List.drop_zero, List.drop_nil, List.cons_append, List.nil_append]
      refine r_if_eq (tgt := 131) dX11_mills_116 (by decide) (fun c => ?_) (fun c => ?_)
      · rw [if_pos c] at h
        refine r_bipush (v := (-2)) dX11_mills_131 (by decide) ?_
        refine r_iret (by first | rfl | decide) dX11_mills_133 ?_
        obtain rfl := Option.some.inj h
        exact ⟨rfl, rfl, rfl⟩
      · rw [if_neg c] at h
        refine r_lload dX11_mills_119 rfl ?_
        refine r_lconst (v := 0) dX11_mills_121 (by decide) ?_
        refine r_ldc2 n_X11_83 dX11_mills_122 ?_
        obtain ⟨r8, hr, h⟩ := bind_some h
        refine r_S (d' := 0) k_X11_50 dX11_mills_125 (by omega) rfl (Nat.le_of_ble_eq_true rfl) (Nat.le_of_ble_eq_true rfl) (ok_X11_in (Nat.le_refl _) hr) (fun v I' L' hq => ?_)
        obtain ⟨rfl, rfl, rfl⟩ := hq
        simp only [Option.toList_some, Option.toList_none, List.drop_succ_cons, List.drop_zero, List.drop_nil, List.cons_append, List.nil_append]
        refine r_if_ne (tgt := 134) dX11_mills_128 (by decide) (fun c => ?_) (fun c => ?_)
        · rw [if_neg c] at h
          refine r_iload dX11_mills_134 rfl ?_
          refine r_aload_n (i := 0) dX11_mills_136 rfl rfl ?_
          refine r_lload dX11_mills_137 rfl ?_
          refine r_l2i dX11_mills_139 ?_
          refine r_iconst (v := 1) dX11_mills_140 (by decide) ?_
          obtain ⟨r9, hr, h⟩ := bind_some h
          refine r_V (d' := 1) k_X11_88 dX11_mills_141 (by omega) rfl rfl rfl (Nat.le_of_ble_eq_true rfl) (Nat.le_of_ble_eq_true rfl) (ok_X11_weight_67 (Nat.le_refl _) hr) (fun v I' L' hq => ?_)
          obtain ⟨rfl, rfl, rfl⟩ := hq
          simp only [Option.toList_some, Option.toList_none, List.drop_succ_cons, List.drop_zero, List.drop_nil, List.cons_append, List.nil_append]
          refine r_lload dX11_mills_144 rfl ?_
          refine r_l2i dX11_mills_146 ?_
          refine r_imul dX11_mills_147 ?_
          refine r_iadd dX11_mills_148 ?_
          refine r_istore dX11_mills_149 (by decide) rfl ?_
          simp only [List.set_cons_zero, List.set_cons_succ]
          replace h := lt_some h
          refine r_iinc (v := _) dX11_mills_151 rfl rfl (by decide) rfl ?_
          simp only [List.set_cons_zero, List.set_cons_succ]
          replace h := lt_some h
          refine r_goto (tgt := 56) dX11_mills_154 (by decide) ?_
          exact RR.wk (ih _ _ _ _ _ _ h) (And.intro rfl (And.intro rfl (And.intro rfl (And.intro rfl (And.intro rfl (And.intro rfl (trivial)))))))
        · rw [if_pos c] at h
          refine r_bipush (v := (-2)) dX11_mills_131 (by decide) ?_
          refine r_iret (by first | rfl | decide) dX11_mills_133 ?_
          obtain rfl := Option.some.inj h
          exact ⟨rfl, rfl, rfl⟩
def f_X11_mills_67 (I : mI) (L : mL) (a1 : Int32) (a2 : Int32) (a3 : Int32) (a4 : Int32) : Option Int32 := (f_X11_isSheet I L a1).bind (fun r1 => if r1 = 0 then (some (-1)) else ((f_X11_isLane I L a2).bind (fun r2 => if r2 = 0 then (some (-1)) else ((f_X11_in I L (a4.toInt64) 1 8).bind (fun r3 => if r3 = 0 then (some (-1)) else ((f_X11_finds_67 I L a1 a2 a3 (2 * a4)).bind (fun r4 => if 0 ≤ r4 then (f_X11_mills_67_l56 I L fuel a1 a3 a4 0 0) else (some r4))))))))
theorem ok_X11_mills_67 {d : Nat} (hd : 2 ≤ d) {I : mI} {L : mL} {a1 : Int32} {a2 : Int32} {a3 : Int32} {a4 : Int32} {o : Int32} (h : f_X11_mills_67 I L a1 a2 a3 a4 = some o) : RR mX11_mills d 0 [some (.ref 67), some (.int a1), some (.int a2), some (.int a3), some (.int a4), none, none, none, none, none, none, none] [] I L (retQ (some (.int o)) I L) := by
  unfold f_X11_mills_67 at h
  refine r_iload_n (i := 1) dX11_mills_0 rfl rfl ?_
  obtain ⟨r1, hr, h⟩ := bind_some h
  refine r_S (d' := 1) k_X11_220 dX11_mills_1 (by omega) rfl (Nat.le_of_ble_eq_true rfl) (Nat.le_of_ble_eq_true rfl) (ok_X11_isSheet (Nat.le_refl _) hr) (fun v I' L' hq => ?_)
  obtain ⟨rfl, rfl, rfl⟩ := hq
  simp only [Option.toList_some, Option.toList_none, List.drop_succ_cons, List.drop_zero, List.drop_nil, List.cons_append, List.nil_append]
  refine r_if_eq (tgt := 27) dX11_mills_4 (by decide) (fun c => ?_) (fun c => ?_)
  · rw [if_pos c] at h
    refine r_iconst (v := (-1)) dX11_mills_27 (by decide) ?_
    refine r_iret (by first | rfl | decide) dX11_mills_28 ?_
    obtain rfl := Option.some.inj h
    exact ⟨rfl, rfl, rfl⟩
  · rw [if_neg c] at h
    refine r_iload_n (i := 2) dX11_mills_7 rfl rfl ?_
    obtain ⟨r2, hr, h⟩ := bind_some h
    refine r_S (d' := 1) k_X11_223 dX11_mills_8 (by omega) rfl (Nat.le_of_ble_eq_true rfl) (Nat.le_of_ble_eq_true rfl) (ok_X11_isLane (Nat.le_refl _) hr) (fun v I' L' hq => ?_)
    obtain ⟨rfl, rfl, rfl⟩ := hq
    simp only [Option.toList_some, Option.toList_none, List.drop_succ_cons, List.drop_zero, List.drop_nil, List.cons_append, List.nil_append]
    refine r_if_eq (tgt := 27) dX11_mills_11 (by decide) (fun c => ?_) (fun c => ?_)
    · rw [if_pos c] at h
      refine r_iconst (v := (-1)) dX11_mills_27 (by decide) ?_
      refine r_iret (by first | rfl | decide) dX11_mills_28 ?_
      obtain rfl := Option.some.inj h
      exact ⟨rfl, rfl, rfl⟩
    · rw [if_neg c] at h
      refine r_iload dX11_mills_14 rfl ?_
      refine r_i2l dX11_mills_16 ?_
      refine r_lconst (v := 1) dX11_mills_17 (by decide) ?_
      refine r_ldc2 n_X11_102 dX11_mills_18 ?_
      obtain ⟨r3, hr, h⟩ := bind_some h
      refine r_S (d' := 0) k_X11_50 dX11_mills_21 (by omega) rfl (Nat.le_of_ble_eq_true rfl) (Nat.le_of_ble_eq_true rfl) (ok_X11_in (Nat.le_refl _) hr) (fun v I' L' hq => ?_)
      obtain ⟨rfl, rfl, rfl⟩ := hq
      simp only [Option.toList_some, Option.toList_none, List.drop_succ_cons, List.drop_zero, List.drop_nil, List.cons_append, List.nil_append]
      refine r_if_ne (tgt := 29) dX11_mills_24 (by decide) (fun c => ?_) (fun c => ?_)
      · rw [if_neg c] at h
        refine r_aload_n (i := 0) dX11_mills_29 rfl rfl ?_
        refine r_iload_n (i := 1) dX11_mills_30 rfl rfl ?_
        refine r_iload_n (i := 2) dX11_mills_31 rfl rfl ?_
        refine r_iload_n (i := 3) dX11_mills_32 rfl rfl ?_
        refine r_iconst (v := 2) dX11_mills_33 (by decide) ?_
        refine r_iload dX11_mills_34 rfl ?_
        refine r_imul dX11_mills_36 ?_
        obtain ⟨r4, hr, h⟩ := bind_some h
        refine r_V (d' := 0) k_X11_226 dX11_mills_37 (by omega) rfl rfl rfl (Nat.le_of_ble_eq_true rfl) (Nat.le_of_ble_eq_true rfl) (ok_X11_finds_67 (Nat.le_refl _) hr) (fun v I' L' hq => ?_)
        obtain ⟨rfl, rfl, rfl⟩ := hq
        simp only [Option.toList_some, Option.toList_none, List.drop_succ_cons, List.drop_zero, List.drop_nil, List.cons_append, List.nil_append]
        refine r_istore dX11_mills_40 (by decide) rfl ?_
        simp only [List.set_cons_zero, List.set_cons_succ]
        refine r_iload dX11_mills_42 rfl ?_
        refine r_if_ge (tgt := 50) dX11_mills_44 (by decide) (fun c => ?_) (fun c => ?_)
        · rw [if_pos c] at h
          refine r_iconst (v := 0) dX11_mills_50 (by decide) ?_
          refine r_istore dX11_mills_51 (by decide) rfl ?_
          simp only [List.set_cons_zero, List.set_cons_succ]
          refine r_iconst (v := 0) dX11_mills_53 (by decide) ?_
          refine r_istore dX11_mills_54 (by decide) rfl ?_
          simp only [List.set_cons_zero, List.set_cons_succ]
          exact RR.wk (ok_X11_mills_67_l56 hd _ _ _ _ _ _ _ h) (And.intro rfl (And.intro rfl (And.intro rfl (And.intro rfl (And.intro rfl (And.intro rfl (trivial)))))))
        · rw [if_neg c] at h
          refine r_iload dX11_mills_47 rfl ?_
          refine r_iret (by first | rfl | decide) dX11_mills_49 ?_
          obtain rfl := Option.some.inj h
          exact ⟨rfl, rfl, rfl⟩
      · rw [if_pos c] at h
        refine r_iconst (v := (-1)) dX11_mills_27 (by decide) ?_
        refine r_iret (by first | rfl | decide) dX11_mills_28 ?_
        obtain rfl := Option.some.inj h
        exact ⟨rfl, rfl, rfl⟩
def f_X11_cut (I : mI) (L : mL) (a0 : Int32) (a1 : Int64) : Option Int64 := if a0 = 0 then (some (((a1.toInt32).toInt16.toInt32).toInt64)) else (if a0 = 1 then (some ((a1.toInt32).toInt64)) else (some a1))
theorem ok_X11_cut {d : Nat} (hd : 0 ≤ d) {I : mI} {L : mL} {a0 : Int32} {a1 : Int64} {o : Int64} (h : f_X11_cut I L a0 a1 = some o) : RR mX11_cut d 0 [some (.int a0), some (.long a1), none] [] I L (retQ (some (.long o)) I L) := by
  unfold f_X11_cut at h
  refine r_iload_n (i := 0) dX11_cut_0 rfl rfl ?_
  refine r_if_ne (tgt := 11) dX11_cut_1 (by decide) (fun c => ?_) (fun c => ?_)
  · rw [if_neg c] at h
    refine r_iload_n (i := 0) dX11_cut_11 rfl rfl ?_
    refine r_iconst (v := 1) dX11_cut_12 (by decide) ?_
    refine r_icmp_ne (tgt := 22) dX11_cut_13 (by decide) (fun c => ?_) (fun c => ?_)
    · rw [if_neg c] at h
      refine r_lload_n (i := 1) dX11_cut_22 rfl rfl ?_
      refine r_lret dX11_cut_23 ?_
      obtain rfl := Option.some.inj h
      exact ⟨rfl, rfl, rfl⟩
    · rw [if_pos c] at h
      refine r_lload_n (i := 1) dX11_cut_16 rfl rfl ?_
      refine r_l2i dX11_cut_17 ?_
      refine r_i2l dX11_cut_18 ?_
      refine r_goto (tgt := 23) dX11_cut_19 (by decide) ?_
      refine r_lret dX11_cut_23 ?_
      obtain rfl := Option.some.inj h
      exact ⟨rfl, rfl, rfl⟩
  · rw [if_pos c] at h
    refine r_lload_n (i := 1) dX11_cut_4 rfl rfl ?_
    refine r_l2i dX11_cut_5 ?_
    refine r_i2s dX11_cut_6 ?_
    refine r_i2l dX11_cut_7 ?_
    refine r_goto (tgt := 23) dX11_cut_8 (by decide) ?_
    refine r_lret dX11_cut_23 ?_
    obtain rfl := Option.some.inj h
    exact ⟨rfl, rfl, rfl⟩
def f_X11_film_67_l42 : Nat → Int32 → Int32 → Int32 → Int32 → mI → mL → rI
  | 0, _, _, _, _, _, _ => none
  | n + 1, x1, x2, x3, x5, I, L => if (I 68 (3 : Int32).toNatClampNeg) ≤ x5 then (some (I 68 (3 : Int32).toNatClampNeg, I, L)) else (ck (inb (111 + x5) 135) (ck (inb (99 + x5) 135) ((f_X11_weight_67 I L (I 68 (111 + x5).toNatClampNeg) (I 68 (99 + x5).toNatClampNeg)).bind (fun r4 => (f_X11_cut I L x2 (r4.toInt64)).bind (fun r5 => ck (inb (((24 * x1) + x3) + x5) 96) (lt (uL L 73 (((24 * x1) + x3) + x5).toNatClampNeg r5) (fun M6 => lt (x5 + Int32.ofInt 1) (fun v7 => f_X11_film_67_l42 n x1 x2 x3 v7 I M6))))))))
theorem ok_X11_film_67_l42 {d : Nat} (hd : 2 ≤ d) : ∀ (n : Nat) (x1 : Int32) (x2 : Int32) (x3 : Int32) (x5 : Int32) (I : mI) (L : mL) (o : Int32 × mI × mL), f_X11_film_67_l42 n x1 x2 x3 x5 I L = some o → RR mX11_film d 42 [some (.ref 67), some (.int x1), some (.int x2), some (.int x3), none, some (.int x5)] [] I L (retQ (some (.int o.1)) o.2.1 o.2.2) := by
  intro n
  induction n with
  | zero => intro x1 x2 x3 x5 I L o h; rw [f_X11_film_67_l42] at h; cases h
  | succ n ih =>
    intro x1 x2 x3 x5 I L o h
    rw [f_X11_film_67_l42] at h
    refine r_iload dX11_film_42 rfl ?_
    refine r_aload_n (i := 0) dX11_film_44 rfl rfl ?_
    refine r_getR f_X11_7 dX11_film_45 rfl rfl ?_
    refine r_iconst (v := 3) dX11_film_48 (by decide) ?_
    refine r_iald rfl (vp_lit (by decide)) dX11_film_49 ?_
    refine r_icmp_ge (tgt := 102) dX11_film_50 (by decide) (fun c => ?_) (fun c => ?_)
    · rw [if_pos c] at h
      refine r_aload_n (i := 0) dX11_film_102 rfl rfl ?_
      refine r_getR f_X11_7 dX11_film_103 rfl rfl ?_
      refine r_iconst (v := 3) dX11_film_106 (by decide) ?_
      refine r_iald rfl (vp_lit (by decide)) dX11_film_107 ?_
      refine r_iret (by first | rfl | decide) dX11_film_108 ?_
      obtain rfl := Option.some.inj h
      exact ⟨rfl, rfl, rfl⟩
    · rw [if_neg c] at h
      refine r_aload_n (i := 0) dX11_film_53 rfl rfl ?_
      refine r_getR f_X11_25 dX11_film_54 rfl rfl ?_
      refine r_bipush (v := 24) dX11_film_57 (by decide) ?_
      refine r_iload_n (i := 1) dX11_film_59 rfl rfl ?_
      refine r_imul dX11_film_60 ?_
      refine r_iload_n (i := 3) dX11_film_61 rfl rfl ?_
      refine r_iadd dX11_film_62 ?_
      refine r_iload dX11_film_63 rfl ?_
      refine r_iadd dX11_film_65 ?_
      refine r_iload_n (i := 2) dX11_film_66 rfl rfl ?_
      refine r_aload_n (i := 0) dX11_film_67 rfl rfl ?_
      refine r_aload_n (i := 0) dX11_film_68 rfl rfl ?_
      refine r_getR f_X11_7 dX11_film_69 rfl rfl ?_
      refine r_bipush (v := 111) dX11_film_72 (by decide) ?_
      refine r_iload dX11_film_74 rfl ?_
      refine r_iadd dX11_film_76 ?_
      obtain ⟨hb, h⟩ := ck_some h
      refine r_iald rfl (inb_vp hb) dX11_film_77 ?_
      refine r_aload_n (i := 0) dX11_film_78 rfl rfl ?_
      refine r_getR f_X11_7 dX11_film_79 rfl rfl ?_
      refine r_bipush (v := 99) dX11_film_82 (by decide) ?_
      refine r_iload dX11_film_84 rfl ?_
      refine r_iadd dX11_film_86 ?_
      obtain ⟨hb, h⟩ := ck_some h
      refine r_iald rfl (inb_vp hb) dX11_film_87 ?_
      obtain ⟨r4, hr, h⟩ := bind_some h
      refine r_V (d' := 1) k_X11_88 dX11_film_88 (by omega) rfl rfl rfl (Nat.le_of_ble_eq_true rfl) (Nat.le_of_ble_eq_true rfl) (ok_X11_weight_67 (Nat.le_refl _) hr) (fun v I' L' hq => ?_)
      obtain ⟨rfl, rfl, rfl⟩ := hq
      simp only [Option.toList_some, Option.toList_none, List.drop_succ_cons, List.drop_zero, List.drop_nil, List.cons_append, List.nil_append]
      refine r_i2l dX11_film_91 ?_
      obtain ⟨r5, hr, h⟩ := bind_some h
      refine r_S (d' := 0) k_X11_245 dX11_film_92 (by omega) rfl (Nat.le_of_ble_eq_true rfl) (Nat.le_of_ble_eq_true rfl) (ok_X11_cut (Nat.le_refl _) hr) (fun v I' L' hq => ?_)
      obtain ⟨rfl, rfl, rfl⟩ := hq
      simp only [Option.toList_some, Option.toList_none, List.drop_succ_cons, List.drop_zero, List.drop_nil, List.cons_append, List.nil_append]
      obtain ⟨hb, h⟩ := ck_some h
      refine r_last rfl (inb_vp hb) dX11_film_95 ?_
      replace h := lt_some h
      refine r_iinc (v := _) dX11_film_96 rfl rfl (by decide) rfl ?_
      simp only [List.set_cons_zero, List.set_cons_succ]
      replace h := lt_some h
      refine r_goto (tgt := 42) dX11_film_99 (by decide) ?_
      exact RR.wk (ih _ _ _ _ _ _ _ h) (And.intro rfl (And.intro rfl (And.intro rfl (And.intro rfl (And.intro rfl (trivial))))))
def f_X11_film_67 (I : mI) (L : mL) (a1 : Int32) (a2 : Int32) (a3 : Int32) : rI := (f_X11_isSheet I L a1).bind (fun r1 => if r1 = 0 then (some ((-1), I, L)) else ((f_X11_isLane I L a2).bind (fun r2 => if r2 = 0 then (some ((-1), I, L)) else ((f_X11_finds_67 I L a1 a2 a3 (I 68 (3 : Int32).toNatClampNeg)).bind (fun r3 => if 0 ≤ r3 then (f_X11_film_67_l42 fuel a1 a2 a3 0 I L) else (some (r3, I, L)))))))
theorem ok_X11_film_67 {d : Nat} (hd : 2 ≤ d) {I : mI} {L : mL} {a1 : Int32} {a2 : Int32} {a3 : Int32} {o : Int32 × mI × mL} (h : f_X11_film_67 I L a1 a2 a3 = some o) : RR mX11_film d 0 [some (.ref 67), some (.int a1), some (.int a2), some (.int a3), none, none] [] I L (retQ (some (.int o.1)) o.2.1 o.2.2) := by
  unfold f_X11_film_67 at h
  refine r_iload_n (i := 1) dX11_film_0 rfl rfl ?_
  obtain ⟨r1, hr, h⟩ := bind_some h
  refine r_S (d' := 1) k_X11_220 dX11_film_1 (by omega) rfl (Nat.le_of_ble_eq_true rfl) (Nat.le_of_ble_eq_true rfl) (ok_X11_isSheet (Nat.le_refl _) hr) (fun v I' L' hq => ?_)
  obtain ⟨rfl, rfl, rfl⟩ := hq
  simp only [Option.toList_some, Option.toList_none, List.drop_succ_cons, List.drop_zero, List.drop_nil, List.cons_append, List.nil_append]
  refine r_if_eq (tgt := 14) dX11_film_4 (by decide) (fun c => ?_) (fun c => ?_)
  · rw [if_pos c] at h
    refine r_iconst (v := (-1)) dX11_film_14 (by decide) ?_
    refine r_iret (by first | rfl | decide) dX11_film_15 ?_
    obtain rfl := Option.some.inj h
    exact ⟨rfl, rfl, rfl⟩
  · rw [if_neg c] at h
    refine r_iload_n (i := 2) dX11_film_7 rfl rfl ?_
    obtain ⟨r2, hr, h⟩ := bind_some h
    refine r_S (d' := 1) k_X11_223 dX11_film_8 (by omega) rfl (Nat.le_of_ble_eq_true rfl) (Nat.le_of_ble_eq_true rfl) (ok_X11_isLane (Nat.le_refl _) hr) (fun v I' L' hq => ?_)
    obtain ⟨rfl, rfl, rfl⟩ := hq
    simp only [Option.toList_some, Option.toList_none, List.drop_succ_cons, List.drop_zero, List.drop_nil, List.cons_append, List.nil_append]
    refine r_if_ne (tgt := 16) dX11_film_11 (by decide) (fun c => ?_) (fun c => ?_)
    · rw [if_neg c] at h
      refine r_aload_n (i := 0) dX11_film_16 rfl rfl ?_
      refine r_iload_n (i := 1) dX11_film_17 rfl rfl ?_
      refine r_iload_n (i := 2) dX11_film_18 rfl rfl ?_
      refine r_iload_n (i := 3) dX11_film_19 rfl rfl ?_
      refine r_aload_n (i := 0) dX11_film_20 rfl rfl ?_
      refine r_getR f_X11_7 dX11_film_21 rfl rfl ?_
      refine r_iconst (v := 3) dX11_film_24 (by decide) ?_
      refine r_iald rfl (vp_lit (by decide)) dX11_film_25 ?_
      obtain ⟨r3, hr, h⟩ := bind_some h
      refine r_V (d' := 0) k_X11_226 dX11_film_26 (by omega) rfl rfl rfl (Nat.le_of_ble_eq_true rfl) (Nat.le_of_ble_eq_true rfl) (ok_X11_finds_67 (Nat.le_refl _) hr) (fun v I' L' hq => ?_)
      obtain ⟨rfl, rfl, rfl⟩ := hq
      simp only [Option.toList_some, Option.toList_none, List.drop_succ_cons, List.drop_zero, List.drop_nil, List.cons_append, List.nil_append]
      refine r_istore dX11_film_29 (by decide) rfl ?_
      simp only [List.set_cons_zero, List.set_cons_succ]
      refine r_iload dX11_film_31 rfl ?_
      refine r_if_ge (tgt := 39) dX11_film_33 (by decide) (fun c => ?_) (fun c => ?_)
      · rw [if_pos c] at h
        refine r_iconst (v := 0) dX11_film_39 (by decide) ?_
        refine r_istore dX11_film_40 (by decide) rfl ?_
        simp only [List.set_cons_zero, List.set_cons_succ]
        exact RR.wk (ok_X11_film_67_l42 hd _ _ _ _ _ _ _ _ h) (And.intro rfl (And.intro rfl (And.intro rfl (And.intro rfl (And.intro rfl (trivial))))))
      · rw [if_neg c] at h
        refine r_iload dX11_film_36 rfl ?_
        refine r_iret (by first | rfl | decide) dX11_film_38 ?_
        obtain rfl := Option.some.inj h
        exact ⟨rfl, rfl, rfl⟩
    · rw [if_pos c] at h
      refine r_iconst (v := (-1)) dX11_film_14 (by decide) ?_
      refine r_iret (by first | rfl | decide) dX11_film_15 ?_
      obtain rfl := Option.some.inj h
      exact ⟨rfl, rfl, rfl⟩
def f_X11_sheet_67_l46 : Nat → Int32 → Int32 → Int32 → mI → mL → rI
  | 0, _, _, _, _, _ => none
  | n + 1, x1, x3, x4, I, L => if 24 ≤ x4 then (some (x3, I, L)) else (ck (inb ((24 * x1) + x4) 96) (lt (uL L 73 ((24 * x1) + x4).toNatClampNeg 0) (fun M5 => lt (x4 + Int32.ofInt 1) (fun v6 => f_X11_sheet_67_l46 n x1 x3 v6 I M5))))
theorem ok_X11_sheet_67_l46 {d : Nat} (hd : 2 ≤ d) : ∀ (n : Nat) (x1 : Int32) (x3 : Int32) (x4 : Int32) (I : mI) (L : mL) (o : Int32 × mI × mL), f_X11_sheet_67_l46 n x1 x3 x4 I L = some o → RR mX11_sheet d 46 [some (.ref 67), some (.int x1), none, some (.int x3), some (.int x4)] [] I L (retQ (some (.int o.1)) o.2.1 o.2.2) := by
  intro n
  induction n with
  | zero => intro x1 x3 x4 I L o h; rw [f_X11_sheet_67_l46] at h; cases h
  | succ n ih =>
    intro x1 x3 x4 I L o h
    rw [f_X11_sheet_67_l46] at h
    refine r_iload dX11_sheet_46 rfl ?_
    refine r_bipush (v := 24) dX11_sheet_48 (by decide) ?_
    refine r_icmp_ge (tgt := 72) dX11_sheet_50 (by decide) (fun c => ?_) (fun c => ?_)
    · rw [if_pos c] at h
      refine r_iload_n (i := 3) dX11_sheet_72 rfl rfl ?_
      refine r_iret (by first | rfl | decide) dX11_sheet_73 ?_
      obtain rfl := Option.some.inj h
      exact ⟨rfl, rfl, rfl⟩
    · rw [if_neg c] at h
      refine r_aload_n (i := 0) dX11_sheet_53 rfl rfl ?_
      refine r_getR f_X11_25 dX11_sheet_54 rfl rfl ?_
      refine r_bipush (v := 24) dX11_sheet_57 (by decide) ?_
      refine r_iload_n (i := 1) dX11_sheet_59 rfl rfl ?_
      refine r_imul dX11_sheet_60 ?_
      refine r_iload dX11_sheet_61 rfl ?_
      refine r_iadd dX11_sheet_63 ?_
      refine r_lconst (v := 0) dX11_sheet_64 (by decide) ?_
      obtain ⟨hb, h⟩ := ck_some h
      refine r_last rfl (inb_vp hb) dX11_sheet_65 ?_
      replace h := lt_some h
      refine r_iinc (v := _) dX11_sheet_66 rfl rfl (by decide) rfl ?_
      simp only [List.set_cons_zero, List.set_cons_succ]
      replace h := lt_some h
      refine r_goto (tgt := 46) dX11_sheet_69 (by decide) ?_
      exact RR.wk (ih _ _ _ _ _ _ h) (And.intro rfl (And.intro rfl (And.intro rfl (And.intro rfl (trivial)))))
def f_X11_sheet_67 (I : mI) (L : mL) (a1 : Int32) (a2 : Int32) (a3 : Int32) : rI := (f_X11_isSheet I L a1).bind (fun r1 => if r1 = 0 then (some ((-1), I, L)) else ((f_X11_isLane I L a2).bind (fun r2 => if r2 = 0 then (some ((-1), I, L)) else (if a3 ≤ 24 then (if 0 ≤ a3 then (ck (inb a1 4) (lt (uI I 71 a1.toNatClampNeg a2) (fun M3 => ck (inb a1 4) (lt (uI M3 72 a1.toNatClampNeg a3) (fun M4 => f_X11_sheet_67_l46 fuel a1 a3 0 M4 L))))) else (some ((-14), I, L))) else (some ((-1), I, L))))))
theorem ok_X11_sheet_67 {d : Nat} (hd : 2 ≤ d) {I : mI} {L : mL} {a1 : Int32} {a2 : Int32} {a3 : Int32} {o : Int32 × mI × mL} (h : f_X11_sheet_67 I L a1 a2 a3 = some o) : RR mX11_sheet d 0 [some (.ref 67), some (.int a1), some (.int a2), some (.int a3), none] [] I L (retQ (some (.int o.1)) o.2.1 o.2.2) := by
  unfold f_X11_sheet_67 at h
  refine r_iload_n (i := 1) dX11_sheet_0 rfl rfl ?_
  obtain ⟨r1, hr, h⟩ := bind_some h
  refine r_S (d' := 1) k_X11_220 dX11_sheet_1 (by omega) rfl (Nat.le_of_ble_eq_true rfl) (Nat.le_of_ble_eq_true rfl) (ok_X11_isSheet (Nat.le_refl _) hr) (fun v I' L' hq => ?_)
  obtain ⟨rfl, rfl, rfl⟩ := hq
  simp only [Option.toList_some, Option.toList_none, List.drop_succ_cons, List.drop_zero, List.drop_nil, List.cons_append, List.nil_append]
  refine r_if_eq (tgt := 20) dX11_sheet_4 (by decide) (fun c => ?_) (fun c => ?_)
  · rw [if_pos c] at h
    refine r_iconst (v := (-1)) dX11_sheet_20 (by decide) ?_
    refine r_iret (by first | rfl | decide) dX11_sheet_21 ?_
    obtain rfl := Option.some.inj h
    exact ⟨rfl, rfl, rfl⟩
  · rw [if_neg c] at h
    refine r_iload_n (i := 2) dX11_sheet_7 rfl rfl ?_
    obtain ⟨r2, hr, h⟩ := bind_some h
    refine r_S (d' := 1) k_X11_223 dX11_sheet_8 (by omega) rfl (Nat.le_of_ble_eq_true rfl) (Nat.le_of_ble_eq_true rfl) (ok_X11_isLane (Nat.le_refl _) hr) (fun v I' L' hq => ?_)
    obtain ⟨rfl, rfl, rfl⟩ := hq
    simp only [Option.toList_some, Option.toList_none, List.drop_succ_cons, List.drop_zero, List.drop_nil, List.cons_append, List.nil_append]
    refine r_if_eq (tgt := 20) dX11_sheet_11 (by decide) (fun c => ?_) (fun c => ?_)
    · rw [if_pos c] at h
      refine r_iconst (v := (-1)) dX11_sheet_20 (by decide) ?_
      refine r_iret (by first | rfl | decide) dX11_sheet_21 ?_
      obtain rfl := Option.some.inj h
      exact ⟨rfl, rfl, rfl⟩
    · rw [if_neg c] at h
      refine r_iload_n (i := 3) dX11_sheet_14 rfl rfl ?_
      refine r_bipush (v := 24) dX11_sheet_15 (by decide) ?_
      refine r_icmp_le (tgt := 22) dX11_sheet_17 (by decide) (fun c => ?_) (fun c => ?_)
      · rw [if_pos c] at h
        refine r_iload_n (i := 3) dX11_sheet_22 rfl rfl ?_
        refine r_if_ge (tgt := 29) dX11_sheet_23 (by decide) (fun c => ?_) (fun c => ?_)
        · rw [if_pos c] at h
          refine r_aload_n (i := 0) dX11_sheet_29 rfl rfl ?_
          refine r_getR f_X11_19 dX11_sheet_30 rfl rfl ?_
          refine r_iload_n (i := 1) dX11_sheet_33 rfl rfl ?_
          refine r_iload_n (i := 2) dX11_sheet_34 rfl rfl ?_
          obtain ⟨hb, h⟩ := ck_some h
          refine r_iast rfl (inb_vp hb) dX11_sheet_35 ?_
          replace h := lt_some h
          refine r_aload_n (i := 0) dX11_sheet_36 rfl rfl ?_
          refine r_getR f_X11_22 dX11_sheet_37 rfl rfl ?_
          refine r_iload_n (i := 1) dX11_sheet_40 rfl rfl ?_
          refine r_iload_n (i := 3) dX11_sheet_41 rfl rfl ?_
          obtain ⟨hb, h⟩ := ck_some h
          refine r_iast rfl (inb_vp hb) dX11_sheet_42 ?_
          replace h := lt_some h
          refine r_iconst (v := 0) dX11_sheet_43 (by decide) ?_
          refine r_istore dX11_sheet_44 (by decide) rfl ?_
          simp only [List.set_cons_zero, List.set_cons_succ]
          exact RR.wk (ok_X11_sheet_67_l46 hd _ _ _ _ _ _ _ h) (And.intro rfl (And.intro rfl (And.intro rfl (And.intro rfl (trivial)))))
        · rw [if_neg c] at h
          refine r_bipush (v := (-14)) dX11_sheet_26 (by decide) ?_
          refine r_iret (by first | rfl | decide) dX11_sheet_28 ?_
          obtain rfl := Option.some.inj h
          exact ⟨rfl, rfl, rfl⟩
      · rw [if_neg c] at h
        refine r_iconst (v := (-1)) dX11_sheet_20 (by decide) ?_
        refine r_iret (by first | rfl | decide) dX11_sheet_21 ?_
        obtain rfl := Option.some.inj h
        exact ⟨rfl, rfl, rfl⟩
def f_X11_drop_67 (I : mI) (L : mL) (a1 : Int32) : rI := (f_X11_isSheet I L a1).bind (fun r1 => if r1 = 0 then (some ((-1), I, L)) else (ck (inb a1 4) (if 0 ≤ (I 72 a1.toNatClampNeg) then (ck (inb a1 4) (lt (I 72 a1.toNatClampNeg) (fun v2 => ck (inb a1 4) (lt (uI I 72 a1.toNatClampNeg (-1)) (fun M3 => some (v2, M3, L)))))) else (some ((-11), I, L)))))
theorem ok_X11_drop_67 {d : Nat} (hd : 2 ≤ d) {I : mI} {L : mL} {a1 : Int32} {o : Int32 × mI × mL} (h : f_X11_drop_67 I L a1 = some o) : RR mX11_drop d 0 [some (.ref 67), some (.int a1), none] [] I L (retQ (some (.int o.1)) o.2.1 o.2.2) := by
  unfold f_X11_drop_67 at h
  refine r_iload_n (i := 1) dX11_drop_0 rfl rfl ?_
  obtain ⟨r1, hr, h⟩ := bind_some h
  refine r_S (d' := 1) k_X11_220 dX11_drop_1 (by omega) rfl (Nat.le_of_ble_eq_true rfl) (Nat.le_of_ble_eq_true rfl) (ok_X11_isSheet (Nat.le_refl _) hr) (fun v I' L' hq => ?_)
  obtain ⟨rfl, rfl, rfl⟩ := hq
  simp only [Option.toList_some, Option.toList_none, List.drop_succ_cons, List.drop_zero, List.drop_nil, List.cons_append, List.nil_append]
  refine r_if_ne (tgt := 9) dX11_drop_4 (by decide) (fun c => ?_) (fun c => ?_)
  · rw [if_neg c] at h
    refine r_aload_n (i := 0) dX11_drop_9 rfl rfl ?_
    refine r_getR f_X11_22 dX11_drop_10 rfl rfl ?_
    refine r_iload_n (i := 1) dX11_drop_13 rfl rfl ?_
    obtain ⟨hb, h⟩ := ck_some h
    refine r_iald rfl (inb_vp hb) dX11_drop_14 ?_
    refine r_if_ge (tgt := 21) dX11_drop_15 (by decide) (fun c => ?_) (fun c => ?_)
    · rw [if_pos c] at h
      refine r_aload_n (i := 0) dX11_drop_21 rfl rfl ?_
      refine r_getR f_X11_22 dX11_drop_22 rfl rfl ?_
      refine r_iload_n (i := 1) dX11_drop_25 rfl rfl ?_
      obtain ⟨hb, h⟩ := ck_some h
      refine r_iald rfl (inb_vp hb) dX11_drop_26 ?_
      refine r_istore_n (i := 2) dX11_drop_27 rfl (by decide) rfl ?_
      simp only [List.set_cons_zero, List.set_cons_succ]
      replace h := lt_some h
      refine r_aload_n (i := 0) dX11_drop_28 rfl rfl ?_
      refine r_getR f_X11_22 dX11_drop_29 rfl rfl ?_
      refine r_iload_n (i := 1) dX11_drop_32 rfl rfl ?_
      refine r_iconst (v := (-1)) dX11_drop_33 (by decide) ?_
      obtain ⟨hb, h⟩ := ck_some h
      refine r_iast rfl (inb_vp hb) dX11_drop_34 ?_
      replace h := lt_some h
      refine r_iload_n (i := 2) dX11_drop_35 rfl rfl ?_
      refine r_iret (by first | rfl | decide) dX11_drop_36 ?_
      obtain rfl := Option.some.inj h
      exact ⟨rfl, rfl, rfl⟩
    · rw [if_neg c] at h
      refine r_bipush (v := (-11)) dX11_drop_18 (by decide) ?_
      refine r_iret (by first | rfl | decide) dX11_drop_20 ?_
      obtain rfl := Option.some.inj h
      exact ⟨rfl, rfl, rfl⟩
  · rw [if_pos c] at h
    refine r_iconst (v := (-1)) dX11_drop_7 (by decide) ?_
    refine r_iret (by first | rfl | decide) dX11_drop_8 ?_
    obtain rfl := Option.some.inj h
    exact ⟨rfl, rfl, rfl⟩
def f_X11_item_67 (I : mI) (L : mL) (a1 : Int32) (a2 : Int32) (a3 : Int32) (a4 : Int64) : rI := (f_X11_isSheet I L a1).bind (fun r1 => if r1 = 0 then (some ((-1), I, L)) else ((f_X11_isLane I L a2).bind (fun r2 => if r2 = 0 then (some ((-1), I, L)) else ((f_X11_finds_67 I L a1 a2 a3 1).bind (fun r3 => if 0 ≤ r3 then ((f_X11_cut I L a2 a4).bind (fun r4 => ck (inb ((24 * a1) + a3) 96) (lt (uL L 73 ((24 * a1) + a3).toNatClampNeg r4) (fun M5 => some (1, I, M5))))) else (some (r3, I, L)))))))
theorem ok_X11_item_67 {d : Nat} (hd : 2 ≤ d) {I : mI} {L : mL} {a1 : Int32} {a2 : Int32} {a3 : Int32} {a4 : Int64} {o : Int32 × mI × mL} (h : f_X11_item_67 I L a1 a2 a3 a4 = some o) : RR mX11_item d 0 [some (.ref 67), some (.int a1), some (.int a2), some (.int a3), some (.long a4), none, none] [] I L (retQ (some (.int o.1)) o.2.1 o.2.2) := by
  unfold f_X11_item_67 at h
  refine r_iload_n (i := 1) dX11_item_0 rfl rfl ?_
  obtain ⟨r1, hr, h⟩ := bind_some h
  refine r_S (d' := 1) k_X11_220 dX11_item_1 (by omega) rfl (Nat.le_of_ble_eq_true rfl) (Nat.le_of_ble_eq_true rfl) (ok_X11_isSheet (Nat.le_refl _) hr) (fun v I' L' hq => ?_)
  obtain ⟨rfl, rfl, rfl⟩ := hq
  simp only [Option.toList_some, Option.toList_none, List.drop_succ_cons, List.drop_zero, List.drop_nil, List.cons_append, List.nil_append]
  refine r_if_eq (tgt := 14) dX11_item_4 (by decide) (fun c => ?_) (fun c => ?_)
  · rw [if_pos c] at h
    refine r_iconst (v := (-1)) dX11_item_14 (by decide) ?_
    refine r_iret (by first | rfl | decide) dX11_item_15 ?_
    obtain rfl := Option.some.inj h
    exact ⟨rfl, rfl, rfl⟩
  · rw [if_neg c] at h
    refine r_iload_n (i := 2) dX11_item_7 rfl rfl ?_
    obtain ⟨r2, hr, h⟩ := bind_some h
    refine r_S (d' := 1) k_X11_223 dX11_item_8 (by omega) rfl (Nat.le_of_ble_eq_true rfl) (Nat.le_of_ble_eq_true rfl) (ok_X11_isLane (Nat.le_refl _) hr) (fun v I' L' hq => ?_)
    obtain ⟨rfl, rfl, rfl⟩ := hq
    simp only [Option.toList_some, Option.toList_none, List.drop_succ_cons, List.drop_zero, List.drop_nil, List.cons_append, List.nil_append]
    refine r_if_ne (tgt := 16) dX11_item_11 (by decide) (fun c => ?_) (fun c => ?_)
    · rw [if_neg c] at h
      refine r_aload_n (i := 0) dX11_item_16 rfl rfl ?_
      refine r_iload_n (i := 1) dX11_item_17 rfl rfl ?_
      refine r_iload_n (i := 2) dX11_item_18 rfl rfl ?_
      refine r_iload_n (i := 3) dX11_item_19 rfl rfl ?_
      refine r_iconst (v := 1) dX11_item_20 (by decide) ?_
      obtain ⟨r3, hr, h⟩ := bind_some h
      refine r_V (d' := 0) k_X11_226 dX11_item_21 (by omega) rfl rfl rfl (Nat.le_of_ble_eq_true rfl) (Nat.le_of_ble_eq_true rfl) (ok_X11_finds_67 (Nat.le_refl _) hr) (fun v I' L' hq => ?_)
      obtain ⟨rfl, rfl, rfl⟩ := hq
      simp only [Option.toList_some, Option.toList_none, List.drop_succ_cons, List.drop_zero, List.drop_nil, List.cons_append, List.nil_append]
      refine r_istore dX11_item_24 (by decide) rfl ?_
      simp only [List.set_cons_zero, List.set_cons_succ]
      refine r_iload dX11_item_26 rfl ?_
      refine r_if_ge (tgt := 34) dX11_item_28 (by decide) (fun c => ?_) (fun c => ?_)
      · rw [if_pos c] at h
        refine r_aload_n (i := 0) dX11_item_34 rfl rfl ?_
        refine r_getR f_X11_25 dX11_item_35 rfl rfl ?_
        refine r_bipush (v := 24) dX11_item_38 (by decide) ?_
        refine r_iload_n (i := 1) dX11_item_40 rfl rfl ?_
        refine r_imul dX11_item_41 ?_
        refine r_iload_n (i := 3) dX11_item_42 rfl rfl ?_
        refine r_iadd dX11_item_43 ?_
        refine r_iload_n (i := 2) dX11_item_44 rfl rfl ?_
        refine r_lload dX11_item_45 rfl ?_
        obtain ⟨r4, hr, h⟩ := bind_some h
        refine r_S (d' := 0) k_X11_245 dX11_item_47 (by omega) rfl (Nat.le_of_ble_eq_true rfl) (Nat.le_of_ble_eq_true rfl) (ok_X11_cut (Nat.le_refl _) hr) (fun v I' L' hq => ?_)
        obtain ⟨rfl, rfl, rfl⟩ := hq
        simp only [Option.toList_some, Option.toList_none, List.drop_succ_cons, List.drop_zero, List.drop_nil, List.cons_append, List.nil_append]
        obtain ⟨hb, h⟩ := ck_some h
        refine r_last rfl (inb_vp hb) dX11_item_50 ?_
        replace h := lt_some h
        refine r_iconst (v := 1) dX11_item_51 (by decide) ?_
        refine r_iret (by first | rfl | decide) dX11_item_52 ?_
        obtain rfl := Option.some.inj h
        exact ⟨rfl, rfl, rfl⟩
      · rw [if_neg c] at h
        refine r_iload dX11_item_31 rfl ?_
        refine r_iret (by first | rfl | decide) dX11_item_33 ?_
        obtain rfl := Option.some.inj h
        exact ⟨rfl, rfl, rfl⟩
    · rw [if_pos c] at h
      refine r_iconst (v := (-1)) dX11_item_14 (by decide) ?_
      refine r_iret (by first | rfl | decide) dX11_item_15 ?_
      obtain rfl := Option.some.inj h
      exact ⟨rfl, rfl, rfl⟩
def f_X11_copy_67_b116 (I : mI) (L : mL) (k91 : Int32 → Int32 → Int32 → Int32 → Int32 → Int32 → mI → mL → rI) (x1 : Int32) (x2 : Int32) (x3 : Int32) (x4 : Int32) (x5 : Int32) (x8 : Int32) (s0 : Int32) : rI := ck (inb (((24 * x1) + x2) + s0) 96) (ck (inb (((24 * x3) + x4) + s0) 96) (lt (uL L 73 (((24 * x3) + x4) + s0).toNatClampNeg (L 73 (((24 * x1) + x2) + s0).toNatClampNeg)) (fun M5 => lt (x8 + Int32.ofInt 1) (fun v6 => k91 x1 x2 x3 x4 x5 v6 I M5))))
theorem ok_X11_copy_67_b116 {d : Nat} (hd : 2 ≤ d){I : mI} {L : mL} {k91 : Int32 → Int32 → Int32 → Int32 → Int32 → Int32 → mI → mL → rI} (hk91 : ∀ (x1 : Int32) (x2 : Int32) (x3 : Int32) (x4 : Int32) (x5 : Int32) (x8 : Int32) (I : mI) (L : mL) (o : Int32 × mI × mL), k91 x1 x2 x3 x4 x5 x8 I L = some o → RR mX11_copy d 91 [some (.ref 67), some (.int x1), some (.int x2), some (.int x3), some (.int x4), some (.int x5), none, none, some (.int x8), none] [] I L (retQ (some (.int o.1)) o.2.1 o.2.2)) (x1 : Int32) (x2 : Int32) (x3 : Int32) (x4 : Int32) (x5 : Int32) (x8 : Int32) (s0 : Int32) {o : Int32 × mI × mL} (h : f_X11_copy_67_b116 I L k91 x1 x2 x3 x4 x5 x8 s0 = some o) : RR mX11_copy d 116 [some (.ref 67), some (.int x1), some (.int x2), some (.int x3), some (.int x4), some (.int x5), none, none, some (.int x8), none] [.int s0] I L (retQ (some (.int o.1)) o.2.1 o.2.2) := by
  unfold f_X11_copy_67_b116 at h
  refine r_istore dX11_copy_116 (by decide) rfl ?_
  simp only [List.set_cons_zero, List.set_cons_succ]
  refine r_aload_n (i := 0) dX11_copy_118 rfl rfl ?_
  refine r_getR f_X11_25 dX11_copy_119 rfl rfl ?_
  refine r_bipush (v := 24) dX11_copy_122 (by decide) ?_
  refine r_iload_n (i := 3) dX11_copy_124 rfl rfl ?_
  refine r_imul dX11_copy_125 ?_
  refine r_iload dX11_copy_126 rfl ?_
  refine r_iadd dX11_copy_128 ?_
  refine r_iload dX11_copy_129 rfl ?_
  refine r_iadd dX11_copy_131 ?_
  refine r_aload_n (i := 0) dX11_copy_132 rfl rfl ?_
  refine r_getR f_X11_25 dX11_copy_133 rfl rfl ?_
  refine r_bipush (v := 24) dX11_copy_136 (by decide) ?_
  refine r_iload_n (i := 1) dX11_copy_138 rfl rfl ?_
  refine r_imul dX11_copy_139 ?_
  refine r_iload_n (i := 2) dX11_copy_140 rfl rfl ?_
  refine r_iadd dX11_copy_141 ?_
  refine r_iload dX11_copy_142 rfl ?_
  refine r_iadd dX11_copy_144 ?_
  obtain ⟨hb, h⟩ := ck_some h
  refine r_lald rfl (inb_vp hb) dX11_copy_145 ?_
  obtain ⟨hb, h⟩ := ck_some h
  refine r_last rfl (inb_vp hb) dX11_copy_146 ?_
  replace h := lt_some h
  refine r_iinc (v := _) dX11_copy_147 rfl rfl (by decide) rfl ?_
  simp only [List.set_cons_zero, List.set_cons_succ]
  replace h := lt_some h
  refine r_goto (tgt := 91) dX11_copy_150 (by decide) ?_
  exact RR.wk (hk91 _ _ _ _ _ _ _ _ _ h) (And.intro rfl (And.intro rfl (And.intro rfl (And.intro rfl (And.intro rfl (And.intro rfl (And.intro rfl (trivial))))))))
def f_X11_copy_67_l91 : Nat → Int32 → Int32 → Int32 → Int32 → Int32 → Int32 → mI → mL → rI
  | 0, _, _, _, _, _, _, _, _ => none
  | n + 1, x1, x2, x3, x4, x5, x8, I, L => if x5 ≤ x8 then (some (x5, I, L)) else (if x4 ≤ x2 then (f_X11_copy_67_b116 I L (f_X11_copy_67_l91 n) x1 x2 x3 x4 x5 x8 x8) else (f_X11_copy_67_b116 I L (f_X11_copy_67_l91 n) x1 x2 x3 x4 x5 x8 ((x5 - 1) - x8)))
theorem ok_X11_copy_67_l91 {d : Nat} (hd : 2 ≤ d) : ∀ (n : Nat) (x1 : Int32) (x2 : Int32) (x3 : Int32) (x4 : Int32) (x5 : Int32) (x8 : Int32) (I : mI) (L : mL) (o : Int32 × mI × mL), f_X11_copy_67_l91 n x1 x2 x3 x4 x5 x8 I L = some o → RR mX11_copy d 91 [some (.ref 67), some (.int x1), some (.int x2), some (.int x3), some (.int x4), some (.int x5), none, none, some (.int x8), none] [] I L (retQ (some (.int o.1)) o.2.1 o.2.2) := by
  intro n
  induction n with
  | zero => intro x1 x2 x3 x4 x5 x8 I L o h; rw [f_X11_copy_67_l91] at h; cases h
  | succ n ih =>
    intro x1 x2 x3 x4 x5 x8 I L o h
    rw [f_X11_copy_67_l91] at h
    refine r_iload dX11_copy_91 rfl ?_
    refine r_iload dX11_copy_93 rfl ?_
    refine r_icmp_ge (tgt := 153) dX11_copy_95 (by decide) (fun c => ?_) (fun c => ?_)
    · rw [if_pos c] at h
      refine r_iload dX11_copy_153 rfl ?_
      refine r_iret (by first | rfl | decide) dX11_copy_155 ?_
      obtain rfl := Option.some.inj h
      exact ⟨rfl, rfl, rfl⟩
    · rw [if_neg c] at h
      refine r_iload dX11_copy_98 rfl ?_
      refine r_iload_n (i := 2) dX11_copy_100 rfl rfl ?_
      refine r_icmp_le (tgt := 114) dX11_copy_101 (by decide) (fun c => ?_) (fun c => ?_)
      · rw [if_pos c] at h
        refine r_iload dX11_copy_114 rfl ?_
        exact RR.wk (ok_X11_copy_67_b116 hd ih _ _ _ _ _ _ _ h) (And.intro rfl (And.intro rfl (And.intro rfl (And.intro rfl (And.intro rfl (And.intro rfl (And.intro rfl (trivial))))))))
      · rw [if_neg c] at h
        refine r_iload dX11_copy_104 rfl ?_
        refine r_iconst (v := 1) dX11_copy_106 (by decide) ?_
        refine r_isub dX11_copy_107 ?_
        refine r_iload dX11_copy_108 rfl ?_
        refine r_isub dX11_copy_110 ?_
        refine r_goto (tgt := 116) dX11_copy_111 (by decide) ?_
        exact RR.wk (ok_X11_copy_67_b116 hd ih _ _ _ _ _ _ _ h) (And.intro rfl (And.intro rfl (And.intro rfl (And.intro rfl (And.intro rfl (And.intro rfl (And.intro rfl (trivial))))))))
def f_X11_copy_67_b78 (I : mI) (L : mL) (x1 : Int32) (x2 : Int32) (x3 : Int32) (x4 : Int32) (x5 : Int32) (s0 : Int32) : rI := if 0 ≤ s0 then (f_X11_copy_67_l91 fuel x1 x2 x3 x4 x5 0 I L) else (some (s0, I, L))
theorem ok_X11_copy_67_b78 {d : Nat} (hd : 2 ≤ d){I : mI} {L : mL} (x1 : Int32) (x2 : Int32) (x3 : Int32) (x4 : Int32) (x5 : Int32) (s0 : Int32) {o : Int32 × mI × mL} (h : f_X11_copy_67_b78 I L x1 x2 x3 x4 x5 s0 = some o) : RR mX11_copy d 78 [some (.ref 67), some (.int x1), some (.int x2), some (.int x3), some (.int x4), some (.int x5), none, none, none, none] [.int s0] I L (retQ (some (.int o.1)) o.2.1 o.2.2) := by
  unfold f_X11_copy_67_b78 at h
  refine r_istore dX11_copy_78 (by decide) rfl ?_
  simp only [List.set_cons_zero, List.set_cons_succ]
  refine r_iload dX11_copy_80 rfl ?_
  refine r_if_ge (tgt := 88) dX11_copy_82 (by decide) (fun c => ?_) (fun c => ?_)
  · rw [if_pos c] at h
    refine r_iconst (v := 0) dX11_copy_88 (by decide) ?_
    refine r_istore dX11_copy_89 (by decide) rfl ?_
    simp only [List.set_cons_zero, List.set_cons_succ]
    exact RR.wk (ok_X11_copy_67_l91 hd _ _ _ _ _ _ _ _ _ _ h) (And.intro rfl (And.intro rfl (And.intro rfl (And.intro rfl (And.intro rfl (And.intro rfl (And.intro rfl (trivial))))))))
  · rw [if_neg c] at h
    refine r_iload dX11_copy_85 rfl ?_
    refine r_iret (by first | rfl | decide) dX11_copy_87 ?_
    obtain rfl := Option.some.inj h
    exact ⟨rfl, rfl, rfl⟩
def f_X11_copy_67 (I : mI) (L : mL) (a1 : Int32) (a2 : Int32) (a3 : Int32) (a4 : Int32) (a5 : Int32) : rI := (f_X11_isSheet I L a1).bind (fun r1 => if r1 = 0 then (some ((-1), I, L)) else ((f_X11_isSheet I L a3).bind (fun r2 => if r2 = 0 then (some ((-1), I, L)) else (ck (inb a1 4) (if (I 72 a1.toNatClampNeg) < 0 then (some ((-11), I, L)) else (ck (inb a3 4) (if 0 ≤ (I 72 a3.toNatClampNeg) then (ck (inb a3 4) ((f_X11_finds_67 I L a1 (I 71 a3.toNatClampNeg) a2 a5).bind (fun r3 => if 0 ≤ r3 then (ck (inb a3 4) ((f_X11_finds_67 I L a3 (I 71 a3.toNatClampNeg) a4 a5).bind (fun r4 => f_X11_copy_67_b78 I L a1 a2 a3 a4 a5 r4))) else (f_X11_copy_67_b78 I L a1 a2 a3 a4 a5 r3)))) else (some ((-11), I, L)))))))))
theorem ok_X11_copy_67 {d : Nat} (hd : 2 ≤ d) {I : mI} {L : mL} {a1 : Int32} {a2 : Int32} {a3 : Int32} {a4 : Int32} {a5 : Int32} {o : Int32 × mI × mL} (h : f_X11_copy_67 I L a1 a2 a3 a4 a5 = some o) : RR mX11_copy d 0 [some (.ref 67), some (.int a1), some (.int a2), some (.int a3), some (.int a4), some (.int a5), none, none, none, none] [] I L (retQ (some (.int o.1)) o.2.1 o.2.2) := by
  unfold f_X11_copy_67 at h
  refine r_iload_n (i := 1) dX11_copy_0 rfl rfl ?_
  obtain ⟨r1, hr, h⟩ := bind_some h
  refine r_S (d' := 1) k_X11_220 dX11_copy_1 (by omega) rfl (Nat.le_of_ble_eq_true rfl) (Nat.le_of_ble_eq_true rfl) (ok_X11_isSheet (Nat.le_refl _) hr) (fun v I' L' hq => ?_)
  obtain ⟨rfl, rfl, rfl⟩ := hq
  simp only [Option.toList_some, Option.toList_none, List.drop_succ_cons, List.drop_zero, List.drop_nil, List.cons_append, List.nil_append]
  refine r_if_eq (tgt := 14) dX11_copy_4 (by decide) (fun c => ?_) (fun c => ?_)
  · rw [if_pos c] at h
    refine r_iconst (v := (-1)) dX11_copy_14 (by decide) ?_
    refine r_iret (by first | rfl | decide) dX11_copy_15 ?_
    obtain rfl := Option.some.inj h
    exact ⟨rfl, rfl, rfl⟩
  · rw [if_neg c] at h
    refine r_iload_n (i := 3) dX11_copy_7 rfl rfl ?_
    obtain ⟨r2, hr, h⟩ := bind_some h
    refine r_S (d' := 1) k_X11_220 dX11_copy_8 (by omega) rfl (Nat.le_of_ble_eq_true rfl) (Nat.le_of_ble_eq_true rfl) (ok_X11_isSheet (Nat.le_refl _) hr) (fun v I' L' hq => ?_)
    obtain ⟨rfl, rfl, rfl⟩ := hq
    simp only [Option.toList_some, Option.toList_none, List.drop_succ_cons, List.drop_zero, List.drop_nil, List.cons_append, List.nil_append]
    refine r_if_ne (tgt := 16) dX11_copy_11 (by decide) (fun c => ?_) (fun c => ?_)
    · rw [if_neg c] at h
      refine r_aload_n (i := 0) dX11_copy_16 rfl rfl ?_
      refine r_getR f_X11_22 dX11_copy_17 rfl rfl ?_
      refine r_iload_n (i := 1) dX11_copy_20 rfl rfl ?_
      obtain ⟨hb, h⟩ := ck_some h
      refine r_iald rfl (inb_vp hb) dX11_copy_21 ?_
      refine r_if_lt (tgt := 34) dX11_copy_22 (by decide) (fun c => ?_) (fun c => ?_)
      · rw [if_pos c] at h
        refine r_bipush (v := (-11)) dX11_copy_34 (by decide) ?_
        refine r_iret (by first | rfl | decide) dX11_copy_36 ?_
        obtain rfl := Option.some.inj h
        exact ⟨rfl, rfl, rfl⟩
      · rw [if_neg c] at h
        refine r_aload_n (i := 0) dX11_copy_25 rfl rfl ?_
        refine r_getR f_X11_22 dX11_copy_26 rfl rfl ?_
        refine r_iload_n (i := 3) dX11_copy_29 rfl rfl ?_
        obtain ⟨hb, h⟩ := ck_some h
        refine r_iald rfl (inb_vp hb) dX11_copy_30 ?_
        refine r_if_ge (tgt := 37) dX11_copy_31 (by decide) (fun c => ?_) (fun c => ?_)
        · rw [if_pos c] at h
          refine r_aload_n (i := 0) dX11_copy_37 rfl rfl ?_
          refine r_iload_n (i := 1) dX11_copy_38 rfl rfl ?_
          refine r_aload_n (i := 0) dX11_copy_39 rfl rfl ?_
          refine r_getR f_X11_19 dX11_copy_40 rfl rfl ?_
          refine r_iload_n (i := 3) dX11_copy_43 rfl rfl ?_
          obtain ⟨hb, h⟩ := ck_some h
          refine r_iald rfl (inb_vp hb) dX11_copy_44 ?_
          refine r_iload_n (i := 2) dX11_copy_45 rfl rfl ?_
          refine r_iload dX11_copy_46 rfl ?_
          obtain ⟨r3, hr, h⟩ := bind_some h
          refine r_V (d' := 0) k_X11_226 dX11_copy_48 (by omega) rfl rfl rfl (Nat.le_of_ble_eq_true rfl) (Nat.le_of_ble_eq_true rfl) (ok_X11_finds_67 (Nat.le_refl _) hr) (fun v I' L' hq => ?_)
          obtain ⟨rfl, rfl, rfl⟩ := hq
          simp only [Option.toList_some, Option.toList_none, List.drop_succ_cons, List.drop_zero, List.drop_nil, List.cons_append, List.nil_append]
          refine r_istore dX11_copy_51 (by decide) rfl ?_
          simp only [List.set_cons_zero, List.set_cons_succ]
          refine r_iload dX11_copy_53 rfl ?_
          refine r_if_ge (tgt := 63) dX11_copy_55 (by decide) (fun c => ?_) (fun c => ?_)
          · rw [if_pos c] at h
            refine r_aload_n (i := 0) dX11_copy_63 rfl rfl ?_
            refine r_iload_n (i := 3) dX11_copy_64 rfl rfl ?_
            refine r_aload_n (i := 0) dX11_copy_65 rfl rfl ?_
            refine r_getR f_X11_19 dX11_copy_66 rfl rfl ?_
            refine r_iload_n (i := 3) dX11_copy_69 rfl rfl ?_
            obtain ⟨hb, h⟩ := ck_some h
            refine r_iald rfl (inb_vp hb) dX11_copy_70 ?_
            refine r_iload dX11_copy_71 rfl ?_
            refine r_iload dX11_copy_73 rfl ?_
            obtain ⟨r4, hr, h⟩ := bind_some h
            refine r_V (d' := 0) k_X11_226 dX11_copy_75 (by omega) rfl rfl rfl (Nat.le_of_ble_eq_true rfl) (Nat.le_of_ble_eq_true rfl) (ok_X11_finds_67 (Nat.le_refl _) hr) (fun v I' L' hq => ?_)
            obtain ⟨rfl, rfl, rfl⟩ := hq
            simp only [Option.toList_some, Option.toList_none, List.drop_succ_cons, List.drop_zero, List.drop_nil, List.cons_append, List.nil_append]
            exact RR.wk (ok_X11_copy_67_b78 hd _ _ _ _ _ _ h) (And.intro rfl (And.intro rfl (And.intro rfl (And.intro rfl (And.intro rfl (And.intro rfl (trivial)))))))
          · rw [if_neg c] at h
            refine r_iload dX11_copy_58 rfl ?_
            refine r_goto (tgt := 78) dX11_copy_60 (by decide) ?_
            exact RR.wk (ok_X11_copy_67_b78 hd _ _ _ _ _ _ h) (And.intro rfl (And.intro rfl (And.intro rfl (And.intro rfl (And.intro rfl (And.intro rfl (trivial)))))))
        · rw [if_neg c] at h
          refine r_bipush (v := (-11)) dX11_copy_34 (by decide) ?_
          refine r_iret (by first | rfl | decide) dX11_copy_36 ?_
          obtain rfl := Option.some.inj h
          exact ⟨rfl, rfl, rfl⟩
    · rw [if_pos c] at h
      refine r_iconst (v := (-1)) dX11_copy_14 (by decide) ?_
      refine r_iret (by first | rfl | decide) dX11_copy_15 ?_
      obtain rfl := Option.some.inj h
      exact ⟨rfl, rfl, rfl⟩
