def f_X11_layPart_67_l169 : Nat → Int64 → Int64 → mI → mL → rI
  | 0, _, _, _, _ => none
  | n + 1, x5, x7, I, L => if (lg_cmp x7 0) = 0 then (ck (nzL x5) (lt (uL L 67 15 ((L 67 15) / x5)) (fun M10 => ck (nzL x5) (lt (uL M10 67 16 ((M10 67 16) / x5)) (fun M11 => some (1, I, M11)))))) else (ck (nzL x7) (lt (x5 - x5 / x7 * x7) (fun v12 => f_X11_layPart_67_l169 n x7 v12 I L)))
theorem ok_X11_layPart_67_l169 {d : Nat} (hd : 6 ≤ d) : ∀ (n : Nat) (x5 : Int64) (x7 : Int64) (I : mI) (L : mL) (o : Int32 × mI × mL), f_X11_layPart_67_l169 n x5 x7 I L = some o → RR mX11_layPart d 169 [some (.ref 67), none, none, none, none, some (.long x5), none, some (.long x7), none, none, none] [] I L (retQ (some (.int o.1)) o.2.1 o.2.2) := by
  intro n
  induction n with
  | zero => intro x5 x7 I L o h; rw [f_X11_layPart_67_l169] at h; cases h
  | succ n ih =>
    intro x5 x7 I L o h
    rw [f_X11_layPart_67_l169] at h
    refine r_lload dX11_layPart_169 rfl ?_
    refine r_lconst (v := 0) dX11_layPart_171 (by decide) ?_
    refine r_lcmp dX11_layPart_172 ?_
    refine r_if_eq (tgt := 194) dX11_layPart_173 (by decide) (fun c => ?_) (fun c => ?_)
    · rw [if_pos c] at h
      refine r_aload_n (i := 0) dX11_layPart_194 rfl rfl ?_
      refine r_dup dX11_layPart_195 rfl ?_
      refine r_getL f_X11_200 dX11_layPart_196 rfl rfl ?_
      refine r_lload dX11_layPart_199 rfl ?_
      obtain ⟨hb, h⟩ := ck_some h
      refine r_ldiv dX11_layPart_201 (nzL_ne hb) ?_
      refine r_putL f_X11_200 rfl rfl dX11_layPart_202 rfl rfl ?_
      replace h := lt_some h
      refine r_aload_n (i := 0) dX11_layPart_205 rfl rfl ?_
      refine r_dup dX11_layPart_206 rfl ?_
      refine r_getL f_X11_208 dX11_layPart_207 rfl rfl ?_
      refine r_lload dX11_layPart_210 rfl ?_
      obtain ⟨hb, h⟩ := ck_some h
      refine r_ldiv dX11_layPart_212 (nzL_ne hb) ?_
      refine r_putL f_X11_208 rfl rfl dX11_layPart_213 rfl rfl ?_
      replace h := lt_some h
      refine r_iconst (v := 1) dX11_layPart_216 (by decide) ?_
      refine r_iret (by first | rfl | decide) dX11_layPart_217 ?_
      obtain rfl := Option.some.inj h
      exact ⟨rfl, rfl, rfl⟩
    · rw [if_neg c] at h
      refine r_lload dX11_layPart_176 rfl ?_
      refine r_lload dX11_layPart_178 rfl ?_
      obtain ⟨hb, h⟩ := ck_some h
      refine r_lrem dX11_layPart_180 (nzL_ne hb) ?_
      refine r_lstore dX11_layPart_181 (by decide) rfl ?_
      simp only [List.set_cons_zero, List.set_cons_succ]
      replace h := lt_some h
      refine r_lload dX11_layPart_183 rfl ?_
      refine r_lstore dX11_layPart_185 (by decide) rfl ?_
      simp only [List.set_cons_zero, List.set_cons_succ]
      refine r_lload dX11_layPart_187 rfl ?_
      refine r_lstore dX11_layPart_189 (by decide) rfl ?_
      simp only [List.set_cons_zero, List.set_cons_succ]
      refine r_goto (tgt := 169) dX11_layPart_191 (by decide) ?_
      exact RR.wk (ih _ _ _ _ _ h) (And.intro rfl (And.intro rfl (And.intro rfl (trivial))))
def f_X11_layPart_67_l57 : Nat → Int32 → Int32 → Int32 → Int32 → Int32 → mI → mL → rI
  | 0, _, _, _, _, _, _, _ => none
  | n + 1, x1, x2, x3, x4, x5, I, L => if x2 < x5 then (if 0 ≤ (lg_cmp (L 67 15) 0) then (lt (L 67 15) (fun v8 => lt (L 67 16) (fun v9 => f_X11_layPart_67_l169 fuel v8 v9 I L))) else (lt (-(L 67 15)) (fun v13 => lt (L 67 16) (fun v14 => f_X11_layPart_67_l169 fuel v13 v14 I L)))) else (if (x5 &&& (x2 ^^^ (-1))) = 0 then (if ((x5 >>> (x1 &&& 31)) &&& 1) = 0 then ((f_X11_bits I L x5).bind (fun r17 => (f_X11_orders I L r17).bind (fun r18 => (f_X11_orders I L ((x4 - 1) - r17)).bind (fun r19 => bndI (f_X11_worthOf_67 I L (x5 ||| ((1 : Int32) <<< (x1 &&& 31))) x3) (fun r20 Ir20 Lr20 => bndI (f_X11_worthOf_67 Ir20 Lr20 x5 x3) (fun r22 Ir22 Lr22 => lt (uL Lr22 67 15 ((L 67 15) + ((r18 * r19) * ((r20 - r22).toInt64)))) (fun M24 => lt (x5 + Int32.ofInt 1) (fun v25 => f_X11_layPart_67_l57 n x1 x2 x3 x4 v25 Ir22 M24)))))))) else (lt (x5 + Int32.ofInt 1) (fun v16 => f_X11_layPart_67_l57 n x1 x2 x3 x4 v16 I L))) else (lt (x5 + Int32.ofInt 1) (fun v15 => f_X11_layPart_67_l57 n x1 x2 x3 x4 v15 I L)))
theorem ok_X11_layPart_67_l57 {d : Nat} (hd : 6 ≤ d) : ∀ (n : Nat) (x1 : Int32) (x2 : Int32) (x3 : Int32) (x4 : Int32) (x5 : Int32) (I : mI) (L : mL) (o : Int32 × mI × mL), f_X11_layPart_67_l57 n x1 x2 x3 x4 x5 I L = some o → RR mX11_layPart d 57 [some (.ref 67), some (.int x1), some (.int x2), some (.int x3), some (.int x4), some (.int x5), none, none, none, none, none] [] I L (retQ (some (.int o.1)) o.2.1 o.2.2) := by
  intro n
  induction n with
  | zero => intro x1 x2 x3 x4 x5 I L o h; rw [f_X11_layPart_67_l57] at h; cases h
  | succ n ih =>
    intro x1 x2 x3 x4 x5 I L o h
    rw [f_X11_layPart_67_l57] at h
    refine r_iload dX11_layPart_57 rfl ?_
    refine r_iload_n (i := 2) dX11_layPart_59 rfl rfl ?_
    refine r_icmp_gt (tgt := 140) dX11_layPart_60 (by decide) (fun c => ?_) (fun c => ?_)
    · rw [if_pos c] at h
      refine r_aload_n (i := 0) dX11_layPart_140 rfl rfl ?_
      refine r_getL f_X11_200 dX11_layPart_141 rfl rfl ?_
      refine r_lconst (v := 0) dX11_layPart_144 (by decide) ?_
      refine r_lcmp dX11_layPart_145 ?_
      refine r_if_ge (tgt := 157) dX11_layPart_146 (by decide) (fun c => ?_) (fun c => ?_)
      · rw [if_pos c] at h
        refine r_aload_n (i := 0) dX11_layPart_157 rfl rfl ?_
        refine r_getL f_X11_200 dX11_layPart_158 rfl rfl ?_
        refine r_lstore dX11_layPart_161 (by decide) rfl ?_
        simp only [List.set_cons_zero, List.set_cons_succ]
        replace h := lt_some h
        refine r_aload_n (i := 0) dX11_layPart_163 rfl rfl ?_
        refine r_getL f_X11_208 dX11_layPart_164 rfl rfl ?_
        refine r_lstore dX11_layPart_167 (by decide) rfl ?_
        simp only [List.set_cons_zero, List.set_cons_succ]
        replace h := lt_some h
        exact RR.wk (ok_X11_layPart_67_l169 hd _ _ _ _ _ _ h) (And.intro rfl (And.intro rfl (And.intro rfl (trivial))))
      · rw [if_neg c] at h
        refine r_aload_n (i := 0) dX11_layPart_149 rfl rfl ?_
        refine r_getL f_X11_200 dX11_layPart_150 rfl rfl ?_
        refine r_lneg dX11_layPart_153 ?_
        refine r_goto (tgt := 161) dX11_layPart_154 (by decide) ?_
        refine r_lstore dX11_layPart_161 (by decide) rfl ?_
        simp only [List.set_cons_zero, List.set_cons_succ]
        replace h := lt_some h
        refine r_aload_n (i := 0) dX11_layPart_163 rfl rfl ?_
        refine r_getL f_X11_208 dX11_layPart_164 rfl rfl ?_
        refine r_lstore dX11_layPart_167 (by decide) rfl ?_
        simp only [List.set_cons_zero, List.set_cons_succ]
        replace h := lt_some h
        exact RR.wk (ok_X11_layPart_67_l169 hd _ _ _ _ _ _ h) (And.intro rfl (And.intro rfl (And.intro rfl (trivial))))
    · rw [if_neg c] at h
      refine r_iload dX11_layPart_63 rfl ?_
      refine r_iload_n (i := 2) dX11_layPart_65 rfl rfl ?_
      refine r_iconst (v := (-1)) dX11_layPart_66 (by decide) ?_
      refine r_ixor dX11_layPart_67 ?_
      refine r_iand dX11_layPart_68 ?_
      refine r_if_ne (tgt := 134) dX11_layPart_69 (by decide) (fun c => ?_) (fun c => ?_)
      · rw [if_neg c] at h
        refine r_iinc (v := _) dX11_layPart_134 rfl rfl (by decide) rfl ?_
        simp only [List.set_cons_zero, List.set_cons_succ]
        replace h := lt_some h
        refine r_goto (tgt := 57) dX11_layPart_137 (by decide) ?_
        exact RR.wk (ih _ _ _ _ _ _ _ _ h) (And.intro rfl (And.intro rfl (And.intro rfl (And.intro rfl (And.intro rfl (And.intro rfl (trivial)))))))
      · rw [if_pos c] at h
        refine r_iload dX11_layPart_72 rfl ?_
        refine r_iload_n (i := 1) dX11_layPart_74 rfl rfl ?_
        refine r_ishr dX11_layPart_75 ?_
        refine r_iconst (v := 1) dX11_layPart_76 (by decide) ?_
        refine r_iand dX11_layPart_77 ?_
        refine r_if_ne (tgt := 134) dX11_layPart_78 (by decide) (fun c => ?_) (fun c => ?_)
        · rw [if_neg c] at h
          refine r_iinc (v := _) dX11_layPart_134 rfl rfl (by decide) rfl ?_
          simp only [List.set_cons_zero, List.set_cons_succ]
          replace h := lt_some h
          refine r_goto (tgt := 57) dX11_layPart_137 (by decide) ?_
          exact RR.wk (ih _ _ _ _ _ _ _ _ h) (And.intro rfl (And.intro rfl (And.intro rfl (And.intro rfl (And.intro rfl (And.intro rfl (trivial)))))))
        · rw [if_pos c] at h
          refine r_iload dX11_layPart_81 rfl ?_
          obtain ⟨r17, hr, h⟩ := bind_some h
          refine r_S (d' := 0) k_X11_185 dX11_layPart_83 (by omega) rfl (Nat.le_of_ble_eq_true rfl) (Nat.le_of_ble_eq_true rfl) (ok_X11_bits (Nat.le_refl _) hr) (fun v I' L' hq => ?_)
          obtain ⟨rfl, rfl, rfl⟩ := hq
          simp only [Option.toList_some, Option.toList_none, List.drop_succ_cons, List.drop_zero, List.drop_nil, List.cons_append, List.nil_append]
          refine r_istore dX11_layPart_86 (by decide) rfl ?_
          simp only [List.set_cons_zero, List.set_cons_succ]
          refine r_aload_n (i := 0) dX11_layPart_88 rfl rfl ?_
          refine r_dup dX11_layPart_89 rfl ?_
          refine r_getL f_X11_200 dX11_layPart_90 rfl rfl ?_
          refine r_iload dX11_layPart_93 rfl ?_
          obtain ⟨r18, hr, h⟩ := bind_some h
          refine r_S (d' := 0) k_X11_204 dX11_layPart_95 (by omega) rfl (Nat.le_of_ble_eq_true rfl) (Nat.le_of_ble_eq_true rfl) (ok_X11_orders (Nat.le_refl _) hr) (fun v I' L' hq => ?_)
          obtain ⟨rfl, rfl, rfl⟩ := hq
          simp only [Option.toList_some, Option.toList_none, List.drop_succ_cons, List.drop_zero, List.drop_nil, List.cons_append, List.nil_append]
          refine r_iload dX11_layPart_98 rfl ?_
          refine r_iconst (v := 1) dX11_layPart_100 (by decide) ?_
          refine r_isub dX11_layPart_101 ?_
          refine r_iload dX11_layPart_102 rfl ?_
          refine r_isub dX11_layPart_104 ?_
          obtain ⟨r19, hr, h⟩ := bind_some h
          refine r_S (d' := 0) k_X11_204 dX11_layPart_105 (by omega) rfl (Nat.le_of_ble_eq_true rfl) (Nat.le_of_ble_eq_true rfl) (ok_X11_orders (Nat.le_refl _) hr) (fun v I' L' hq => ?_)
          obtain ⟨rfl, rfl, rfl⟩ := hq
          simp only [Option.toList_some, Option.toList_none, List.drop_succ_cons, List.drop_zero, List.drop_nil, List.cons_append, List.nil_append]
          refine r_lmul dX11_layPart_108 ?_
          refine r_aload_n (i := 0) dX11_layPart_109 rfl rfl ?_
          refine r_iload dX11_layPart_110 rfl ?_
          refine r_iconst (v := 1) dX11_layPart_112 (by decide) ?_
          refine r_iload_n (i := 1) dX11_layPart_113 rfl rfl ?_
          refine r_ishl dX11_layPart_114 ?_
          refine r_ior dX11_layPart_115 ?_
          refine r_iload_n (i := 3) dX11_layPart_116 rfl rfl ?_
          obtain ⟨⟨r20, Ir20, Lr20⟩, hr, h⟩ := bind_some h
          refine r_V (d' := 5) k_X11_197 dX11_layPart_117 (by omega) rfl rfl rfl (Nat.le_of_ble_eq_true rfl) (Nat.le_of_ble_eq_true rfl) (ok_X11_worthOf_67 (Nat.le_refl _) hr) (fun v I' L' hq => ?_)
          obtain ⟨rfl, rfl, rfl⟩ := hq
          simp only [Option.toList_some, Option.toList_none, List.drop_succ_cons, List.drop_zero, List.drop_nil, List.cons_append, List.nil_append]
          dsimp only at h
          refine r_aload_n (i := 0) dX11_layPart_120 rfl rfl ?_
          refine r_iload dX11_layPart_121 rfl ?_
          refine r_iload_n (i := 3) dX11_layPart_123 rfl rfl ?_
          obtain ⟨⟨r22, Ir22, Lr22⟩, hr, h⟩ := bind_some h
          refine r_V (d' := 5) k_X11_197 dX11_layPart_124 (by omega) rfl rfl rfl (Nat.le_of_ble_eq_true rfl) (Nat.le_of_ble_eq_true rfl) (ok_X11_worthOf_67 (Nat.le_refl _) hr) (fun v I' L' hq => ?_)
          obtain ⟨rfl, rfl, rfl⟩ := hq
          simp only [Option.toList_some, Option.toList_none, List.drop_succ_cons, List.drop_zero, List.drop_nil, List.cons_append, List.nil_append]
          dsimp only at h
          refine r_isub dX11_layPart_127 ?_
          refine r_i2l dX11_layPart_128 ?_
          refine r_lmul dX11_layPart_129 ?_
          refine r_ladd dX11_layPart_130 ?_
          refine r_putL f_X11_200 rfl rfl dX11_layPart_131 rfl rfl ?_
          replace h := lt_some h
          refine r_iinc (v := _) dX11_layPart_134 rfl rfl (by decide) rfl ?_
          simp only [List.set_cons_zero, List.set_cons_succ]
          replace h := lt_some h
          refine r_goto (tgt := 57) dX11_layPart_137 (by decide) ?_
          exact RR.wk (ih _ _ _ _ _ _ _ _ h) (And.intro rfl (And.intro rfl (And.intro rfl (And.intro rfl (And.intro rfl (And.intro rfl (trivial)))))))
def f_X11_layPart_67 (I : mI) (L : mL) (a1 : Int32) (a2 : Int32) (a3 : Int32) : rI := (f_X11_isParish_67 I L a1).bind (fun r1 => if r1 = 0 then (some (0, I, L)) else ((f_X11_isSet_67 I L a2).bind (fun r2 => if r2 = 0 then (some (0, I, L)) else (if ((a2 >>> (a1 &&& 31)) &&& 1) = 0 then (some (0, I, L)) else ((f_X11_isCart_67 I L a3).bind (fun r3 => if r3 = 0 then (some (0, I, L)) else ((f_X11_bits I L a2).bind (fun r4 => lt (uL L 67 15 0) (fun M5 => (f_X11_orders I M5 r4).bind (fun r6 => lt (uL M5 67 16 r6) (fun M7 => f_X11_layPart_67_l57 fuel a1 a2 a3 r4 0 I M7)))))))))))
theorem ok_X11_layPart_67 {d : Nat} (hd : 6 ≤ d) {I : mI} {L : mL} {a1 : Int32} {a2 : Int32} {a3 : Int32} {o : Int32 × mI × mL} (h : f_X11_layPart_67 I L a1 a2 a3 = some o) : RR mX11_layPart d 0 [some (.ref 67), some (.int a1), some (.int a2), some (.int a3), none, none, none, none, none, none, none] [] I L (retQ (some (.int o.1)) o.2.1 o.2.2) := by
  unfold f_X11_layPart_67 at h
  refine r_aload_n (i := 0) dX11_layPart_0 rfl rfl ?_
  refine r_iload_n (i := 1) dX11_layPart_1 rfl rfl ?_
  obtain ⟨r1, hr, h⟩ := bind_some h
  refine r_V (d' := 1) k_X11_68 dX11_layPart_2 (by omega) rfl rfl rfl (Nat.le_of_ble_eq_true rfl) (Nat.le_of_ble_eq_true rfl) (ok_X11_isParish_67 (Nat.le_refl _) hr) (fun v I' L' hq => ?_)
  obtain ⟨rfl, rfl, rfl⟩ := hq
  simp only [Option.toList_some, Option.toList_none, List.drop_succ_cons, List.drop_zero, List.drop_nil, List.cons_append, List.nil_append]
  refine r_if_eq (tgt := 32) dX11_layPart_5 (by decide) (fun c => ?_) (fun c => ?_)
  · rw [if_pos c] at h
    refine r_iconst (v := 0) dX11_layPart_32 (by decide) ?_
    refine r_iret (by first | rfl | decide) dX11_layPart_33 ?_
    obtain rfl := Option.some.inj h
    exact ⟨rfl, rfl, rfl⟩
  · rw [if_neg c] at h
    refine r_aload_n (i := 0) dX11_layPart_8 rfl rfl ?_
    refine r_iload_n (i := 2) dX11_layPart_9 rfl rfl ?_
    obtain ⟨r2, hr, h⟩ := bind_some h
    refine r_V (d' := 1) k_X11_194 dX11_layPart_10 (by omega) rfl rfl rfl (Nat.le_of_ble_eq_true rfl) (Nat.le_of_ble_eq_true rfl) (ok_X11_isSet_67 (Nat.le_refl _) hr) (fun v I' L' hq => ?_)
    obtain ⟨rfl, rfl, rfl⟩ := hq
    simp only [Option.toList_some, Option.toList_none, List.drop_succ_cons, List.drop_zero, List.drop_nil, List.cons_append, List.nil_append]
    refine r_if_eq (tgt := 32) dX11_layPart_13 (by decide) (fun c => ?_) (fun c => ?_)
    · rw [if_pos c] at h
      refine r_iconst (v := 0) dX11_layPart_32 (by decide) ?_
      refine r_iret (by first | rfl | decide) dX11_layPart_33 ?_
      obtain rfl := Option.some.inj h
      exact ⟨rfl, rfl, rfl⟩
    · rw [if_neg c] at h
      refine r_iload_n (i := 2) dX11_layPart_16 rfl rfl ?_
      refine r_iload_n (i := 1) dX11_layPart_17 rfl rfl ?_
      refine r_ishr dX11_layPart_18 ?_
      refine r_iconst (v := 1) dX11_layPart_19 (by decide) ?_
      refine r_iand dX11_layPart_20 ?_
      refine r_if_eq (tgt := 32) dX11_layPart_21 (by decide) (fun c => ?_) (fun c => ?_)
      · rw [if_pos c] at h
        refine r_iconst (v := 0) dX11_layPart_32 (by decide) ?_
        refine r_iret (by first | rfl | decide) dX11_layPart_33 ?_
        obtain rfl := Option.some.inj h
        exact ⟨rfl, rfl, rfl⟩
      · rw [if_neg c] at h
        refine r_aload_n (i := 0) dX11_layPart_24 rfl rfl ?_
        refine r_iload_n (i := 3) dX11_layPart_25 rfl rfl ?_
        obtain ⟨r3, hr, h⟩ := bind_some h
        refine r_V (d' := 1) k_X11_97 dX11_layPart_26 (by omega) rfl rfl rfl (Nat.le_of_ble_eq_true rfl) (Nat.le_of_ble_eq_true rfl) (ok_X11_isCart_67 (Nat.le_refl _) hr) (fun v I' L' hq => ?_)
        obtain ⟨rfl, rfl, rfl⟩ := hq
        simp only [Option.toList_some, Option.toList_none, List.drop_succ_cons, List.drop_zero, List.drop_nil, List.cons_append, List.nil_append]
        refine r_if_ne (tgt := 34) dX11_layPart_29 (by decide) (fun c => ?_) (fun c => ?_)
        · rw [if_neg c] at h
          refine r_iload_n (i := 2) dX11_layPart_34 rfl rfl ?_
          obtain ⟨r4, hr, h⟩ := bind_some h
          refine r_S (d' := 0) k_X11_185 dX11_layPart_35 (by omega) rfl (Nat.le_of_ble_eq_true rfl) (Nat.le_of_ble_eq_true rfl) (ok_X11_bits (Nat.le_refl _) hr) (fun v I' L' hq => ?_)
          obtain ⟨rfl, rfl, rfl⟩ := hq
          simp only [Option.toList_some, Option.toList_none, List.drop_succ_cons, List.drop_zero, List.drop_nil, List.cons_append, List.nil_append]
          refine r_istore dX11_layPart_38 (by decide) rfl ?_
          simp only [List.set_cons_zero, List.set_cons_succ]
          refine r_aload_n (i := 0) dX11_layPart_40 rfl rfl ?_
          refine r_lconst (v := 0) dX11_layPart_41 (by decide) ?_
          refine r_putL f_X11_200 rfl rfl dX11_layPart_42 rfl rfl ?_
          replace h := lt_some h
          refine r_aload_n (i := 0) dX11_layPart_45 rfl rfl ?_
          refine r_iload dX11_layPart_46 rfl ?_
          obtain ⟨r6, hr, h⟩ := bind_some h
          refine r_S (d' := 0) k_X11_204 dX11_layPart_48 (by omega) rfl (Nat.le_of_ble_eq_true rfl) (Nat.le_of_ble_eq_true rfl) (ok_X11_orders (Nat.le_refl _) hr) (fun v I' L' hq => ?_)
          obtain ⟨rfl, rfl, rfl⟩ := hq
          simp only [Option.toList_some, Option.toList_none, List.drop_succ_cons, List.drop_zero, List.drop_nil, List.cons_append, List.nil_append]
          refine r_putL f_X11_208 rfl rfl dX11_layPart_51 rfl rfl ?_
          replace h := lt_some h
          refine r_iconst (v := 0) dX11_layPart_54 (by decide) ?_
          refine r_istore dX11_layPart_55 (by decide) rfl ?_
          simp only [List.set_cons_zero, List.set_cons_succ]
          exact RR.wk (ok_X11_layPart_67_l57 hd _ _ _ _ _ _ _ _ _ h) (And.intro rfl (And.intro rfl (And.intro rfl (And.intro rfl (And.intro rfl (And.intro rfl (trivial)))))))
        · rw [if_pos c] at h
          refine r_iconst (v := 0) dX11_layPart_32 (by decide) ?_
          refine r_iret (by first | rfl | decide) dX11_layPart_33 ?_
          obtain rfl := Option.some.inj h
          exact ⟨rfl, rfl, rfl⟩
def f_X11_upper_67 (I : mI) (L : mL) (a1 : Int32) (a2 : Int32) (a3 : Int32) : rL := bndI (f_X11_layPart_67 I L a1 a2 a3) (fun r1 Ir1 Lr1 => if r1 = 0 then (some ((-1000001), Ir1, Lr1)) else (some (Lr1 67 15, Ir1, Lr1)))
theorem ok_X11_upper_67 {d : Nat} (hd : 7 ≤ d) {I : mI} {L : mL} {a1 : Int32} {a2 : Int32} {a3 : Int32} {o : Int64 × mI × mL} (h : f_X11_upper_67 I L a1 a2 a3 = some o) : RR mX11_upper d 0 [some (.ref 67), some (.int a1), some (.int a2), some (.int a3)] [] I L (retQ (some (.long o.1)) o.2.1 o.2.2) := by
  unfold f_X11_upper_67 at h
  refine r_aload_n (i := 0) dX11_upper_0 rfl rfl ?_
  refine r_iload_n (i := 1) dX11_upper_1 rfl rfl ?_
  refine r_iload_n (i := 2) dX11_upper_2 rfl rfl ?_
  refine r_iload_n (i := 3) dX11_upper_3 rfl rfl ?_
  obtain ⟨⟨r1, Ir1, Lr1⟩, hr, h⟩ := bind_some h
  refine r_V (d' := 6) k_X11_211 dX11_upper_4 (by omega) rfl rfl rfl (Nat.le_of_ble_eq_true rfl) (Nat.le_of_ble_eq_true rfl) (ok_X11_layPart_67 (Nat.le_refl _) hr) (fun v I' L' hq => ?_)
  obtain ⟨rfl, rfl, rfl⟩ := hq
  simp only [Option.toList_some, Option.toList_none, List.drop_succ_cons, List.drop_zero, List.drop_nil, List.cons_append, List.nil_append]
  dsimp only at h
  refine r_if_eq (tgt := 17) dX11_upper_7 (by decide) (fun c => ?_) (fun c => ?_)
  · rw [if_pos c] at h
    refine r_ldc2 n_X11_214 dX11_upper_17 ?_
    refine r_lret dX11_upper_20 ?_
    obtain rfl := Option.some.inj h
    exact ⟨rfl, rfl, rfl⟩
  · rw [if_neg c] at h
    refine r_aload_n (i := 0) dX11_upper_10 rfl rfl ?_
    refine r_getL f_X11_200 dX11_upper_11 rfl rfl ?_
    refine r_goto (tgt := 20) dX11_upper_14 (by decide) ?_
    refine r_lret dX11_upper_20 ?_
    obtain rfl := Option.some.inj h
    exact ⟨rfl, rfl, rfl⟩
def f_X11_lower_67 (I : mI) (L : mL) (a1 : Int32) (a2 : Int32) (a3 : Int32) : rL := bndI (f_X11_layPart_67 I L a1 a2 a3) (fun r1 Ir1 Lr1 => if r1 = 0 then (some ((-1), Ir1, Lr1)) else (some (Lr1 67 16, Ir1, Lr1)))
theorem ok_X11_lower_67 {d : Nat} (hd : 7 ≤ d) {I : mI} {L : mL} {a1 : Int32} {a2 : Int32} {a3 : Int32} {o : Int64 × mI × mL} (h : f_X11_lower_67 I L a1 a2 a3 = some o) : RR mX11_lower d 0 [some (.ref 67), some (.int a1), some (.int a2), some (.int a3)] [] I L (retQ (some (.long o.1)) o.2.1 o.2.2) := by
  unfold f_X11_lower_67 at h
  refine r_aload_n (i := 0) dX11_lower_0 rfl rfl ?_
  refine r_iload_n (i := 1) dX11_lower_1 rfl rfl ?_
  refine r_iload_n (i := 2) dX11_lower_2 rfl rfl ?_
  refine r_iload_n (i := 3) dX11_lower_3 rfl rfl ?_
  obtain ⟨⟨r1, Ir1, Lr1⟩, hr, h⟩ := bind_some h
  refine r_V (d' := 6) k_X11_211 dX11_lower_4 (by omega) rfl rfl rfl (Nat.le_of_ble_eq_true rfl) (Nat.le_of_ble_eq_true rfl) (ok_X11_layPart_67 (Nat.le_refl _) hr) (fun v I' L' hq => ?_)
  obtain ⟨rfl, rfl, rfl⟩ := hq
  simp only [Option.toList_some, Option.toList_none, List.drop_succ_cons, List.drop_zero, List.drop_nil, List.cons_append, List.nil_append]
  dsimp only at h
  refine r_if_eq (tgt := 17) dX11_lower_7 (by decide) (fun c => ?_) (fun c => ?_)
  · rw [if_pos c] at h
    refine r_ldc2 n_X11_160 dX11_lower_17 ?_
    refine r_lret dX11_lower_20 ?_
    obtain rfl := Option.some.inj h
    exact ⟨rfl, rfl, rfl⟩
  · rw [if_neg c] at h
    refine r_aload_n (i := 0) dX11_lower_10 rfl rfl ?_
    refine r_getL f_X11_208 dX11_lower_11 rfl rfl ?_
    refine r_goto (tgt := 20) dX11_lower_14 (by decide) ?_
    refine r_lret dX11_lower_20 ?_
    obtain rfl := Option.some.inj h
    exact ⟨rfl, rfl, rfl⟩
def f_X11_change_67_b206 (I : mI) (L : mL) (k151 : Int32 → Int32 → Int32 → Int32 → Int32 → Int32 → Option Int32) (x1 : Int32) (x2 : Int32) (x3 : Int32) (x4 : Int32) (x5 : Int32) (x6 : Int32) (s0 : Int32) : Option Int32 := ck (inb (129 + x6) 135) (if (I 68 (129 + x6).toNatClampNeg) = x1 then (if s0 = 0 then (lt (x5 ||| 0) (fun v9 => lt (x6 + Int32.ofInt 1) (fun v10 => k151 x1 x2 x3 x4 v9 v10))) else (lt (x5 ||| ((1 : Int32) <<< (x6 &&& 31))) (fun v11 => lt (x6 + Int32.ofInt 1) (fun v12 => k151 x1 x2 x3 x4 v11 v12)))) else (lt (x5 ||| 0) (fun v7 => lt (x6 + Int32.ofInt 1) (fun v8 => k151 x1 x2 x3 x4 v7 v8))))
theorem ok_X11_change_67_b206 {d : Nat} (hd : 2 ≤ d){I : mI} {L : mL} {k151 : Int32 → Int32 → Int32 → Int32 → Int32 → Int32 → Option Int32} (hk151 : ∀ (x1 : Int32) (x2 : Int32) (x3 : Int32) (x4 : Int32) (x5 : Int32) (x6 : Int32) (o : Int32), k151 x1 x2 x3 x4 x5 x6 = some o → RR mX11_change d 151 [some (.ref 67), some (.int x1), some (.int x2), some (.int x3), some (.int x4), some (.int x5), some (.int x6), none] [] I L (retQ (some (.int o)) I L)) (x1 : Int32) (x2 : Int32) (x3 : Int32) (x4 : Int32) (x5 : Int32) (x6 : Int32) (s0 : Int32) {o : Int32} (h : f_X11_change_67_b206 I L k151 x1 x2 x3 x4 x5 x6 s0 = some o) : RR mX11_change d 206 [some (.ref 67), some (.int x1), some (.int x2), some (.int x3), some (.int x4), some (.int x5), some (.int x6), none] [.int s0] I L (retQ (some (.int o)) I L) := by
  unfold f_X11_change_67_b206 at h
  refine r_istore dX11_change_206 (by decide) rfl ?_
  simp only [List.set_cons_zero, List.set_cons_succ]
  refine r_iload dX11_change_208 rfl ?_
  refine r_aload_n (i := 0) dX11_change_210 rfl rfl ?_
  refine r_getR f_X11_7 dX11_change_211 rfl rfl ?_
  refine r_sipush (v := 129) dX11_change_214 (by decide) ?_
  refine r_iload dX11_change_217 rfl ?_
  refine r_iadd dX11_change_219 ?_
  obtain ⟨hb, h⟩ := ck_some h
  refine r_iald rfl (inb_vp hb) dX11_change_220 ?_
  refine r_iload_n (i := 1) dX11_change_221 rfl rfl ?_
  refine r_icmp_ne (tgt := 237) dX11_change_222 (by decide) (fun c => ?_) (fun c => ?_)
  · rw [if_neg c] at h
    refine r_iconst (v := 0) dX11_change_237 (by decide) ?_
    refine r_ior dX11_change_238 ?_
    refine r_istore dX11_change_239 (by decide) rfl ?_
    simp only [List.set_cons_zero, List.set_cons_succ]
    replace h := lt_some h
    refine r_iinc (v := _) dX11_change_241 rfl rfl (by decide) rfl ?_
    simp only [List.set_cons_zero, List.set_cons_succ]
    replace h := lt_some h
    refine r_goto (tgt := 151) dX11_change_244 (by decide) ?_
    exact RR.wk (hk151 _ _ _ _ _ _ _ h) (And.intro rfl (And.intro rfl (And.intro rfl (And.intro rfl (And.intro rfl (And.intro rfl (And.intro rfl (trivial))))))))
  · rw [if_pos c] at h
    refine r_iload dX11_change_225 rfl ?_
    refine r_if_eq (tgt := 237) dX11_change_227 (by decide) (fun c => ?_) (fun c => ?_)
    · rw [if_pos c] at h
      refine r_iconst (v := 0) dX11_change_237 (by decide) ?_
      refine r_ior dX11_change_238 ?_
      refine r_istore dX11_change_239 (by decide) rfl ?_
      simp only [List.set_cons_zero, List.set_cons_succ]
      replace h := lt_some h
      refine r_iinc (v := _) dX11_change_241 rfl rfl (by decide) rfl ?_
      simp only [List.set_cons_zero, List.set_cons_succ]
      replace h := lt_some h
      refine r_goto (tgt := 151) dX11_change_244 (by decide) ?_
      exact RR.wk (hk151 _ _ _ _ _ _ _ h) (And.intro rfl (And.intro rfl (And.intro rfl (And.intro rfl (And.intro rfl (And.intro rfl (And.intro rfl (trivial))))))))
    · rw [if_neg c] at h
      refine r_iconst (v := 1) dX11_change_230 (by decide) ?_
      refine r_iload dX11_change_231 rfl ?_
      refine r_ishl dX11_change_233 ?_
      refine r_goto (tgt := 238) dX11_change_234 (by decide) ?_
      refine r_ior dX11_change_238 ?_
      refine r_istore dX11_change_239 (by decide) rfl ?_
      simp only [List.set_cons_zero, List.set_cons_succ]
      replace h := lt_some h
      refine r_iinc (v := _) dX11_change_241 rfl rfl (by decide) rfl ?_
      simp only [List.set_cons_zero, List.set_cons_succ]
      replace h := lt_some h
      refine r_goto (tgt := 151) dX11_change_244 (by decide) ?_
      exact RR.wk (hk151 _ _ _ _ _ _ _ h) (And.intro rfl (And.intro rfl (And.intro rfl (And.intro rfl (And.intro rfl (And.intro rfl (And.intro rfl (trivial))))))))
def f_X11_change_67_l151 (I : mI) (L : mL) : Nat → Int32 → Int32 → Int32 → Int32 → Int32 → Int32 → Option Int32
  | 0, _, _, _, _, _, _ => none
  | n + 1, x1, x2, x3, x4, x5, x6 => if (I 68 (4 : Int32).toNatClampNeg) ≤ x6 then (some x5) else (if x3 = 1 then (ck (inb (123 + x6) 135) ((f_X11_weightBy I L x4 x2 (I 68 (123 + x6).toNatClampNeg)).bind (fun r5 => ck (inb (123 + x6) 135) ((f_X11_weight_67 I L x1 (I 68 (123 + x6).toNatClampNeg)).bind (fun r6 => if r6 ≤ r5 then (f_X11_change_67_b206 I L (f_X11_change_67_l151 I L n) x1 x2 x3 x4 x5 x6 0) else (f_X11_change_67_b206 I L (f_X11_change_67_l151 I L n) x1 x2 x3 x4 x5 x6 1)))))) else (some x5))
theorem ok_X11_change_67_l151 {d : Nat} (hd : 2 ≤ d){I : mI} {L : mL} : ∀ (n : Nat) (x1 : Int32) (x2 : Int32) (x3 : Int32) (x4 : Int32) (x5 : Int32) (x6 : Int32) (o : Int32), f_X11_change_67_l151 I L n x1 x2 x3 x4 x5 x6 = some o → RR mX11_change d 151 [some (.ref 67), some (.int x1), some (.int x2), some (.int x3), some (.int x4), some (.int x5), some (.int x6), none] [] I L (retQ (some (.int o)) I L) := by
  intro n
  induction n with
  | zero => intro x1 x2 x3 x4 x5 x6 o h; rw [f_X11_change_67_l151] at h; cases h
  | succ n ih =>
    intro x1 x2 x3 x4 x5 x6 o h
    rw [f_X11_change_67_l151] at h
    refine r_iload dX11_change_151 rfl ?_
    refine r_aload_n (i := 0) dX11_change_153 rfl rfl ?_
    refine r_getR f_X11_7 dX11_change_154 rfl rfl ?_
    refine r_iconst (v := 4) dX11_change_157 (by decide) ?_
    refine r_iald rfl (vp_lit (by decide)) dX11_change_158 ?_
    refine r_icmp_ge (tgt := 247) dX11_change_159 (by decide) (fun c => ?_) (fun c => ?_)
    · rw [if_pos c] at h
      refine r_iload dX11_change_247 rfl ?_
      refine r_iret (by first | rfl | decide) dX11_change_249 ?_
      obtain rfl := Option.some.inj h
      exact ⟨rfl, rfl, rfl⟩
    · rw [if_neg c] at h
      refine r_iload_n (i := 3) dX11_change_162 rfl rfl ?_
      refine r_iconst (v := 1) dX11_change_163 (by decide) ?_
      refine r_icmp_ne (tgt := 247) dX11_change_164 (by decide) (fun c => ?_) (fun c => ?_)
      · rw [if_neg c] at h
        refine r_iload dX11_change_247 rfl ?_
        refine r_iret (by first | rfl | decide) dX11_change_249 ?_
        obtain rfl := Option.some.inj h
        exact ⟨rfl, rfl, rfl⟩
      · rw [if_pos c] at h
        refine r_iload dX11_change_167 rfl ?_
        refine r_iload_n (i := 2) dX11_change_169 rfl rfl ?_
        refine r_aload_n (i := 0) dX11_change_170 rfl rfl ?_
        refine r_getR f_X11_7 dX11_change_171 rfl rfl ?_
        refine r_bipush (v := 123) dX11_change_174 (by decide) ?_
        refine r_iload dX11_change_176 rfl ?_
        refine r_iadd dX11_change_178 ?_
        obtain ⟨hb, h⟩ := ck_some h
        refine r_iald rfl (inb_vp hb) dX11_change_179 ?_
        obtain ⟨r5, hr, h⟩ := bind_some h
        refine r_S (d' := 0) k_X11_58 dX11_change_180 (by omega) rfl (Nat.le_of_ble_eq_true rfl) (Nat.le_of_ble_eq_true rfl) (ok_X11_weightBy (Nat.le_refl _) hr) (fun v I' L' hq => ?_)
        obtain ⟨rfl, rfl, rfl⟩ := hq
        simp only [Option.toList_some, Option.toList_none, List.drop_succ_cons, List.drop_zero, List.drop_nil, List.cons_append, List.nil_append]
        refine r_aload_n (i := 0) dX11_change_183 rfl rfl ?_
        refine r_iload_n (i := 1) dX11_change_184 rfl rfl ?_
        refine r_aload_n (i := 0) dX11_change_185 rfl rfl ?_
        refine r_getR f_X11_7 dX11_change_186 rfl rfl ?_
        refine r_bipush (v := 123) dX11_change_189 (by decide) ?_
        refine r_iload dX11_change_191 rfl ?_
        refine r_iadd dX11_change_193 ?_
        obtain ⟨hb, h⟩ := ck_some h
        refine r_iald rfl (inb_vp hb) dX11_change_194 ?_
        obtain ⟨r6, hr, h⟩ := bind_some h
        refine r_V (d' := 1) k_X11_88 dX11_change_195 (by omega) rfl rfl rfl (Nat.le_of_ble_eq_true rfl) (Nat.le_of_ble_eq_true rfl) (ok_X11_weight_67 (Nat.le_refl _) hr) (fun v I' L' hq => ?_)
        obtain ⟨rfl, rfl, rfl⟩ := hq
        simp only [Option.toList_some, Option.toList_none, List.drop_succ_cons, List.drop_zero, List.drop_nil, List.cons_append, List.nil_append]
        refine r_icmp_ge (tgt := 205) dX11_change_198 (by decide) (fun c => ?_) (fun c => ?_)
        · rw [if_pos c] at h
          refine r_iconst (v := 0) dX11_change_205 (by decide) ?_
          exact RR.wk (ok_X11_change_67_b206 hd ih _ _ _ _ _ _ _ h) (And.intro rfl (And.intro rfl (And.intro rfl (And.intro rfl (And.intro rfl (And.intro rfl (And.intro rfl (trivial))))))))
        · rw [if_neg c] at h
          refine r_iconst (v := 1) dX11_change_201 (by decide) ?_
          refine r_goto (tgt := 206) dX11_change_202 (by decide) ?_
          exact RR.wk (ok_X11_change_67_b206 hd ih _ _ _ _ _ _ _ h) (And.intro rfl (And.intro rfl (And.intro rfl (And.intro rfl (And.intro rfl (And.intro rfl (And.intro rfl (trivial))))))))
def f_X11_change_67_b93 (I : mI) (L : mL) (k46 : Int32 → Int32 → Int32 → Int32 → Int32 → Int32 → Option Int32) (x1 : Int32) (x2 : Int32) (x3 : Int32) (x4 : Int32) (x5 : Int32) (x6 : Int32) (s0 : Int32) : Option Int32 := if s0 = 0 then (lt (x5 ||| 0) (fun v13 => lt (x6 + Int32.ofInt 1) (fun v14 => k46 x1 x2 x3 x4 v13 v14))) else (ck (inb (99 + x6) 135) ((f_X11_weightBy I L x4 x2 (I 68 (99 + x6).toNatClampNeg)).bind (fun r15 => ck (inb (117 + x6) 135) (if r15 ≤ (I 68 (117 + x6).toNatClampNeg) then (lt (x5 ||| 0) (fun v16 => lt (x6 + Int32.ofInt 1) (fun v17 => k46 x1 x2 x3 x4 v16 v17))) else (lt (x5 ||| ((1 : Int32) <<< (x6 &&& 31))) (fun v18 => lt (x6 + Int32.ofInt 1) (fun v19 => k46 x1 x2 x3 x4 v18 v19)))))))
theorem ok_X11_change_67_b93 {d : Nat} (hd : 2 ≤ d){I : mI} {L : mL} {k46 : Int32 → Int32 → Int32 → Int32 → Int32 → Int32 → Option Int32} (hk46 : ∀ (x1 : Int32) (x2 : Int32) (x3 : Int32) (x4 : Int32) (x5 : Int32) (x6 : Int32) (o : Int32), k46 x1 x2 x3 x4 x5 x6 = some o → RR mX11_change d 46 [some (.ref 67), some (.int x1), some (.int x2), some (.int x3), some (.int x4), some (.int x5), some (.int x6), none] [] I L (retQ (some (.int o)) I L)) (x1 : Int32) (x2 : Int32) (x3 : Int32) (x4 : Int32) (x5 : Int32) (x6 : Int32) (s0 : Int32) {o : Int32} (h : f_X11_change_67_b93 I L k46 x1 x2 x3 x4 x5 x6 s0 = some o) : RR mX11_change d 93 [some (.ref 67), some (.int x1), some (.int x2), some (.int x3), some (.int x4), some (.int x5), some (.int x6), none] [.int s0] I L (retQ (some (.int o)) I L) := by
  unfold f_X11_change_67_b93 at h
  refine r_istore dX11_change_93 (by decide) rfl ?_
  simp only [List.set_cons_zero, List.set_cons_succ]
  refine r_iload dX11_change_95 rfl ?_
  refine r_iload dX11_change_97 rfl ?_
  refine r_if_eq (tgt := 138) dX11_change_99 (by decide) (fun c => ?_) (fun c => ?_)
  · rw [if_pos c] at h
    refine r_iconst (v := 0) dX11_change_138 (by decide) ?_
    refine r_ior dX11_change_139 ?_
    refine r_istore dX11_change_140 (by decide) rfl ?_
    simp only [List.set_cons_zero, List.set_cons_succ]
    replace h := lt_some h
    refine r_iinc (v := _) dX11_change_142 rfl rfl (by decide) rfl ?_
    simp only [List.set_cons_zero, List.set_cons_succ]
    replace h := lt_some h
    refine r_goto (tgt := 46) dX11_change_145 (by decide) ?_
    exact RR.wk (hk46 _ _ _ _ _ _ _ h) (And.intro rfl (And.intro rfl (And.intro rfl (And.intro rfl (And.intro rfl (And.intro rfl (And.intro rfl (trivial))))))))
  · rw [if_neg c] at h
    refine r_iload dX11_change_102 rfl ?_
    refine r_iload_n (i := 2) dX11_change_104 rfl rfl ?_
    refine r_aload_n (i := 0) dX11_change_105 rfl rfl ?_
    refine r_getR f_X11_7 dX11_change_106 rfl rfl ?_
    refine r_bipush (v := 99) dX11_change_109 (by decide) ?_
    refine r_iload dX11_change_111 rfl ?_
    refine r_iadd dX11_change_113 ?_
    obtain ⟨hb, h⟩ := ck_some h
    refine r_iald rfl (inb_vp hb) dX11_change_114 ?_
    obtain ⟨r15, hr, h⟩ := bind_some h
    refine r_S (d' := 0) k_X11_58 dX11_change_115 (by omega) rfl (Nat.le_of_ble_eq_true rfl) (Nat.le_of_ble_eq_true rfl) (ok_X11_weightBy (Nat.le_refl _) hr) (fun v I' L' hq => ?_)
    obtain ⟨rfl, rfl, rfl⟩ := hq
    simp only [Option.toList_some, Option.toList_none, List.drop_succ_cons, List.drop_zero, List.drop_nil, List.cons_append, List.nil_append]
    refine r_aload_n (i := 0) dX11_change_118 rfl rfl ?_
    refine r_getR f_X11_7 dX11_change_119 rfl rfl ?_
    refine r_bipush (v := 117) dX11_change_122 (by decide) ?_
    refine r_iload dX11_change_124 rfl ?_
    refine r_iadd dX11_change_126 ?_
    obtain ⟨hb, h⟩ := ck_some h
    refine r_iald rfl (inb_vp hb) dX11_change_127 ?_
    refine r_icmp_le (tgt := 138) dX11_change_128 (by decide) (fun c => ?_) (fun c => ?_)
    · rw [if_pos c] at h
      refine r_iconst (v := 0) dX11_change_138 (by decide) ?_
      refine r_ior dX11_change_139 ?_
      refine r_istore dX11_change_140 (by decide) rfl ?_
      simp only [List.set_cons_zero, List.set_cons_succ]
      replace h := lt_some h
      refine r_iinc (v := _) dX11_change_142 rfl rfl (by decide) rfl ?_
      simp only [List.set_cons_zero, List.set_cons_succ]
      replace h := lt_some h
      refine r_goto (tgt := 46) dX11_change_145 (by decide) ?_
      exact RR.wk (hk46 _ _ _ _ _ _ _ h) (And.intro rfl (And.intro rfl (And.intro rfl (And.intro rfl (And.intro rfl (And.intro rfl (And.intro rfl (trivial))))))))
    · rw [if_neg c] at h
      refine r_iconst (v := 1) dX11_change_131 (by decide) ?_
      refine r_iload dX11_change_132 rfl ?_
      refine r_ishl dX11_change_134 ?_
      refine r_goto (tgt := 139) dX11_change_135 (by decide) ?_
      refine r_ior dX11_change_139 ?_
      refine r_istore dX11_change_140 (by decide) rfl ?_
      simp only [List.set_cons_zero, List.set_cons_succ]
      replace h := lt_some h
      refine r_iinc (v := _) dX11_change_142 rfl rfl (by decide) rfl ?_
      simp only [List.set_cons_zero, List.set_cons_succ]
      replace h := lt_some h
      refine r_goto (tgt := 46) dX11_change_145 (by decide) ?_
      exact RR.wk (hk46 _ _ _ _ _ _ _ h) (And.intro rfl (And.intro rfl (And.intro rfl (And.intro rfl (And.intro rfl (And.intro rfl (And.intro rfl (trivial))))))))
def f_X11_change_67_b92 (I : mI) (L : mL) (k46 : Int32 → Int32 → Int32 → Int32 → Int32 → Int32 → Option Int32) (x1 : Int32) (x2 : Int32) (x3 : Int32) (x4 : Int32) (x5 : Int32) (x6 : Int32) : Option Int32 := f_X11_change_67_b93 I L k46 x1 x2 x3 x4 x5 x6 0
theorem ok_X11_change_67_b92 {d : Nat} (hd : 2 ≤ d){I : mI} {L : mL} {k46 : Int32 → Int32 → Int32 → Int32 → Int32 → Int32 → Option Int32} (hk46 : ∀ (x1 : Int32) (x2 : Int32) (x3 : Int32) (x4 : Int32) (x5 : Int32) (x6 : Int32) (o : Int32), k46 x1 x2 x3 x4 x5 x6 = some o → RR mX11_change d 46 [some (.ref 67), some (.int x1), some (.int x2), some (.int x3), some (.int x4), some (.int x5), some (.int x6), none] [] I L (retQ (some (.int o)) I L)) (x1 : Int32) (x2 : Int32) (x3 : Int32) (x4 : Int32) (x5 : Int32) (x6 : Int32) {o : Int32} (h : f_X11_change_67_b92 I L k46 x1 x2 x3 x4 x5 x6 = some o) : RR mX11_change d 92 [some (.ref 67), some (.int x1), some (.int x2), some (.int x3), some (.int x4), some (.int x5), some (.int x6), none] [] I L (retQ (some (.int o)) I L) := by
  unfold f_X11_change_67_b92 at h
  refine r_iconst (v := 0) dX11_change_92 (by decide) ?_
  exact RR.wk (ok_X11_change_67_b93 hd hk46 _ _ _ _ _ _ _ h) (And.intro rfl (And.intro rfl (And.intro rfl (And.intro rfl (And.intro rfl (And.intro rfl (And.intro rfl (trivial))))))))
def f_X11_change_67_l46 (I : mI) (L : mL) : Nat → Int32 → Int32 → Int32 → Int32 → Int32 → Int32 → Option Int32
  | 0, _, _, _, _, _, _ => none
  | n + 1, x1, x2, x3, x4, x5, x6 => if (I 68 (3 : Int32).toNatClampNeg) ≤ x6 then (f_X11_change_67_l151 I L fuel x1 x2 x3 x4 x5 0) else (if x3 = 0 then (ck (inb (111 + x6) 135) (if (I 68 (111 + x6).toNatClampNeg) = x1 then (ck (inb (117 + x6) 135) (if (I 68 (117 + x6).toNatClampNeg) ≤ 0 then (f_X11_change_67_b92 I L (f_X11_change_67_l46 I L n) x1 x2 x3 x4 x5 x6) else (f_X11_change_67_b93 I L (f_X11_change_67_l46 I L n) x1 x2 x3 x4 x5 x6 1))) else (f_X11_change_67_b92 I L (f_X11_change_67_l46 I L n) x1 x2 x3 x4 x5 x6))) else (f_X11_change_67_l151 I L fuel x1 x2 x3 x4 x5 0))
theorem ok_X11_change_67_l46 {d : Nat} (hd : 2 ≤ d){I : mI} {L : mL} : ∀ (n : Nat) (x1 : Int32) (x2 : Int32) (x3 : Int32) (x4 : Int32) (x5 : Int32) (x6 : Int32) (o : Int32), f_X11_change_67_l46 I L n x1 x2 x3 x4 x5 x6 = some o → RR mX11_change d 46 [some (.ref 67), some (.int x1), some (.int x2), some (.int x3), some (.int x4), some (.int x5), some (.int x6), none] [] I L (retQ (some (.int o)) I L) := by
  intro n
  induction n with
  | zero => intro x1 x2 x3 x4 x5 x6 o h; rw [f_X11_change_67_l46] at h; cases h
  | succ n ih =>
    intro x1 x2 x3 x4 x5 x6 o h
    rw [f_X11_change_67_l46] at h
    refine r_iload dX11_change_46 rfl ?_
    refine r_aload_n (i := 0) dX11_change_48 rfl rfl ?_
    refine r_getR f_X11_7 dX11_change_49 rfl rfl ?_
    refine r_iconst (v := 3) dX11_change_52 (by decide) ?_
    refine r_iald rfl (vp_lit (by decide)) dX11_change_53 ?_
    refine r_icmp_ge (tgt := 148) dX11_change_54 (by decide) (fun c => ?_) (fun c => ?_)
    · rw [if_pos c] at h
      refine r_iconst (v := 0) dX11_change_148 (by decide) ?_
      refine r_istore dX11_change_149 (by decide) rfl ?_
      simp only [List.set_cons_zero, List.set_cons_succ]
      exact RR.wk (ok_X11_change_67_l151 hd _ _ _ _ _ _ _ _ h) (And.intro rfl (And.intro rfl (And.intro rfl (And.intro rfl (And.intro rfl (And.intro rfl (And.intro rfl (trivial))))))))
    · rw [if_neg c] at h
      refine r_iload_n (i := 3) dX11_change_57 rfl rfl ?_
      refine r_if_ne (tgt := 148) dX11_change_58 (by decide) (fun c => ?_) (fun c => ?_)
      · rw [if_neg c] at h
        refine r_iconst (v := 0) dX11_change_148 (by decide) ?_
        refine r_istore dX11_change_149 (by decide) rfl ?_
        simp only [List.set_cons_zero, List.set_cons_succ]
        exact RR.wk (ok_X11_change_67_l151 hd _ _ _ _ _ _ _ _ h) (And.intro rfl (And.intro rfl (And.intro rfl (And.intro rfl (And.intro rfl (And.intro rfl (And.intro rfl (trivial))))))))
      · rw [if_pos c] at h
        refine r_aload_n (i := 0) dX11_change_61 rfl rfl ?_
        refine r_getR f_X11_7 dX11_change_62 rfl rfl ?_
        refine r_bipush (v := 111) dX11_change_65 (by decide) ?_
        refine r_iload dX11_change_67 rfl ?_
        refine r_iadd dX11_change_69 ?_
        obtain ⟨hb, h⟩ := ck_some h
        refine r_iald rfl (inb_vp hb) dX11_change_70 ?_
        refine r_iload_n (i := 1) dX11_change_71 rfl rfl ?_
        refine r_icmp_ne (tgt := 92) dX11_change_72 (by decide) (fun c => ?_) (fun c => ?_)
        · rw [if_neg c] at h
          exact RR.wk (ok_X11_change_67_b92 hd ih _ _ _ _ _ _ h) (And.intro rfl (And.intro rfl (And.intro rfl (And.intro rfl (And.intro rfl (And.intro rfl (And.intro rfl (trivial))))))))
        · rw [if_pos c] at h
          refine r_aload_n (i := 0) dX11_change_75 rfl rfl ?_
          refine r_getR f_X11_7 dX11_change_76 rfl rfl ?_
          refine r_bipush (v := 117) dX11_change_79 (by decide) ?_
          refine r_iload dX11_change_81 rfl ?_
          refine r_iadd dX11_change_83 ?_
          obtain ⟨hb, h⟩ := ck_some h
          refine r_iald rfl (inb_vp hb) dX11_change_84 ?_
          refine r_if_le (tgt := 92) dX11_change_85 (by decide) (fun c => ?_) (fun c => ?_)
          · rw [if_pos c] at h
            exact RR.wk (ok_X11_change_67_b92 hd ih _ _ _ _ _ _ h) (And.intro rfl (And.intro rfl (And.intro rfl (And.intro rfl (And.intro rfl (And.intro rfl (And.intro rfl (trivial))))))))
          · rw [if_neg c] at h
            refine r_iconst (v := 1) dX11_change_88 (by decide) ?_
            refine r_goto (tgt := 93) dX11_change_89 (by decide) ?_
            exact RR.wk (ok_X11_change_67_b93 hd ih _ _ _ _ _ _ _ h) (And.intro rfl (And.intro rfl (And.intro rfl (And.intro rfl (And.intro rfl (And.intro rfl (And.intro rfl (trivial))))))))
def f_X11_change_67 (I : mI) (L : mL) (a1 : Int32) (a2 : Int32) (a3 : Int32) : Option Int32 := (f_X11_isParish_67 I L a1).bind (fun r1 => if r1 = 0 then (some (-1)) else ((f_X11_in I L (a2.toInt64) 1 9).bind (fun r2 => if r2 = 0 then (some (-1)) else ((f_X11_isTwo I L a3).bind (fun r3 => if r3 = 0 then (some (-1)) else (ck (inb (6 + a1) 135) (lt (I 68 (6 + a1).toNatClampNeg) (fun v4 => f_X11_change_67_l46 I L fuel a1 a2 a3 v4 0 0))))))))
theorem ok_X11_change_67 {d : Nat} (hd : 2 ≤ d) {I : mI} {L : mL} {a1 : Int32} {a2 : Int32} {a3 : Int32} {o : Int32} (h : f_X11_change_67 I L a1 a2 a3 = some o) : RR mX11_change d 0 [some (.ref 67), some (.int a1), some (.int a2), some (.int a3), none, none, none, none] [] I L (retQ (some (.int o)) I L) := by
  unfold f_X11_change_67 at h
  refine r_aload_n (i := 0) dX11_change_0 rfl rfl ?_
  refine r_iload_n (i := 1) dX11_change_1 rfl rfl ?_
  obtain ⟨r1, hr, h⟩ := bind_some h
  refine r_V (d' := 1) k_X11_68 dX11_change_2 (by omega) rfl rfl rfl (Nat.le_of_ble_eq_true rfl) (Nat.le_of_ble_eq_true rfl) (ok_X11_isParish_67 (Nat.le_refl _) hr) (fun v I' L' hq => ?_)
  obtain ⟨rfl, rfl, rfl⟩ := hq
  simp only [Option.toList_some, Option.toList_none, List.drop_succ_cons, List.drop_zero, List.drop_nil, List.cons_append, List.nil_append]
  refine r_if_eq (tgt := 27) dX11_change_5 (by decide) (fun c => ?_) (fun c => ?_)
  · rw [if_pos c] at h
    refine r_iconst (v := (-1)) dX11_change_27 (by decide) ?_
    refine r_iret (by first | rfl | decide) dX11_change_28 ?_
    obtain rfl := Option.some.inj h
    exact ⟨rfl, rfl, rfl⟩
  · rw [if_neg c] at h
    refine r_iload_n (i := 2) dX11_change_8 rfl rfl ?_
    refine r_i2l dX11_change_9 ?_
    refine r_lconst (v := 1) dX11_change_10 (by decide) ?_
    refine r_ldc2 n_X11_72 dX11_change_11 ?_
    obtain ⟨r2, hr, h⟩ := bind_some h
    refine r_S (d' := 0) k_X11_50 dX11_change_14 (by omega) rfl (Nat.le_of_ble_eq_true rfl) (Nat.le_of_ble_eq_true rfl) (ok_X11_in (Nat.le_refl _) hr) (fun v I' L' hq => ?_)
    obtain ⟨rfl, rfl, rfl⟩ := hq
    simp only [Option.toList_some, Option.toList_none, List.drop_succ_cons, List.drop_zero, List.drop_nil, List.cons_append, List.nil_append]
    refine r_if_eq (tgt := 27) dX11_change_17 (by decide) (fun c => ?_) (fun c => ?_)
    · rw [if_pos c] at h
      refine r_iconst (v := (-1)) dX11_change_27 (by decide) ?_
      refine r_iret (by first | rfl | decide) dX11_change_28 ?_
      obtain rfl := Option.some.inj h
      exact ⟨rfl, rfl, rfl⟩
    · rw [if_neg c] at h
      refine r_iload_n (i := 3) dX11_change_20 rfl rfl ?_
      obtain ⟨r3, hr, h⟩ := bind_some h
      refine r_S (d' := 1) k_X11_179 dX11_change_21 (by omega) rfl (Nat.le_of_ble_eq_true rfl) (Nat.le_of_ble_eq_true rfl) (ok_X11_isTwo (Nat.le_refl _) hr) (fun v I' L' hq => ?_)
      obtain ⟨rfl, rfl, rfl⟩ := hq
      simp only [Option.toList_some, Option.toList_none, List.drop_succ_cons, List.drop_zero, List.drop_nil, List.cons_append, List.nil_append]
      refine r_if_ne (tgt := 29) dX11_change_24 (by decide) (fun c => ?_) (fun c => ?_)
      · rw [if_neg c] at h
        refine r_aload_n (i := 0) dX11_change_29 rfl rfl ?_
        refine r_getR f_X11_7 dX11_change_30 rfl rfl ?_
        refine r_bipush (v := 6) dX11_change_33 (by decide) ?_
        refine r_iload_n (i := 1) dX11_change_35 rfl rfl ?_
        refine r_iadd dX11_change_36 ?_
        obtain ⟨hb, h⟩ := ck_some h
        refine r_iald rfl (inb_vp hb) dX11_change_37 ?_
        refine r_istore dX11_change_38 (by decide) rfl ?_
        simp only [List.set_cons_zero, List.set_cons_succ]
        replace h := lt_some h
        refine r_iconst (v := 0) dX11_change_40 (by decide) ?_
        refine r_istore dX11_change_41 (by decide) rfl ?_
        simp only [List.set_cons_zero, List.set_cons_succ]
        refine r_iconst (v := 0) dX11_change_43 (by decide) ?_
        refine r_istore dX11_change_44 (by decide) rfl ?_
        simp only [List.set_cons_zero, List.set_cons_succ]
        exact RR.wk (ok_X11_change_67_l46 hd _ _ _ _ _ _ _ _ h) (And.intro rfl (And.intro rfl (And.intro rfl (And.intro rfl (And.intro rfl (And.intro rfl (And.intro rfl (trivial))))))))
      · rw [if_pos c] at h
        refine r_iconst (v := (-1)) dX11_change_27 (by decide) ?_
        refine r_iret (by first | rfl | decide) dX11_change_28 ?_
        obtain rfl := Option.some.inj h
        exact ⟨rfl, rfl, rfl⟩
def f_X11_well_67 (I : mI) (L : mL) (a1 : Int32) (a2 : Int32) : Option Int32 := (f_X11_isParish_67 I L a1).bind (fun r1 => if r1 = 0 then (some (-1)) else ((f_X11_in I L (a2.toInt64) 1 999).bind (fun r2 => if r2 = 0 then (some (-1)) else (ck (inb (6 + a1) 135) (lt (I 68 (6 + a1).toNatClampNeg) (fun v3 => if v3 = 2 then (some (-4)) else ((f_X11_weight_67 I L a1 1).bind (fun r4 => some (a2 * r4)))))))))
theorem ok_X11_well_67 {d : Nat} (hd : 2 ≤ d) {I : mI} {L : mL} {a1 : Int32} {a2 : Int32} {o : Int32} (h : f_X11_well_67 I L a1 a2 = some o) : RR mX11_well d 0 [some (.ref 67), some (.int a1), some (.int a2), none] [] I L (retQ (some (.int o)) I L) := by
  unfold f_X11_well_67 at h
  refine r_aload_n (i := 0) dX11_well_0 rfl rfl ?_
  refine r_iload_n (i := 1) dX11_well_1 rfl rfl ?_
  obtain ⟨r1, hr, h⟩ := bind_some h
  refine r_V (d' := 1) k_X11_68 dX11_well_2 (by omega) rfl rfl rfl (Nat.le_of_ble_eq_true rfl) (Nat.le_of_ble_eq_true rfl) (ok_X11_isParish_67 (Nat.le_refl _) hr) (fun v I' L' hq => ?_)
  obtain ⟨rfl, rfl, rfl⟩ := hq
  simp only [Option.toList_some, Option.toList_none, List.drop_succ_cons, List.drop_zero, List.drop_nil, List.cons_append, List.nil_append]
  refine r_if_eq (tgt := 20) dX11_well_5 (by decide) (fun c => ?_) (fun c => ?_)
  · rw [if_pos c] at h
    refine r_iconst (v := (-1)) dX11_well_20 (by decide) ?_
    refine r_iret (by first | rfl | decide) dX11_well_21 ?_
    obtain rfl := Option.some.inj h
    exact ⟨rfl, rfl, rfl⟩
  · rw [if_neg c] at h
    refine r_iload_n (i := 2) dX11_well_8 rfl rfl ?_
    refine r_i2l dX11_well_9 ?_
    refine r_lconst (v := 1) dX11_well_10 (by decide) ?_
    refine r_ldc2 n_X11_81 dX11_well_11 ?_
    obtain ⟨r2, hr, h⟩ := bind_some h
    refine r_S (d' := 0) k_X11_50 dX11_well_14 (by omega) rfl (Nat.le_of_ble_eq_true rfl) (Nat.le_of_ble_eq_true rfl) (ok_X11_in (Nat.le_refl _) hr) (fun v I' L' hq => ?_)
    obtain ⟨rfl, rfl, rfl⟩ := hq
    simp only [Option.toList_some, Option.toList_none, List.drop_succ_cons, List.drop_zero, List.drop_nil, List.cons_append, List.nil_append]
    refine r_if_ne (tgt := 22) dX11_well_17 (by decide) (fun c => ?_) (fun c => ?_)
    · rw [if_neg c] at h
      refine r_aload_n (i := 0) dX11_well_22 rfl rfl ?_
      refine r_getR f_X11_7 dX11_well_23 rfl rfl ?_
      refine r_bipush (v := 6) dX11_well_26 (by decide) ?_
      refine r_iload_n (i := 1) dX11_well_28 rfl rfl ?_
      refine r_iadd dX11_well_29 ?_
      obtain ⟨hb, h⟩ := ck_some h
      refine r_iald rfl (inb_vp hb) dX11_well_30 ?_
      refine r_istore_n (i := 3) dX11_well_31 rfl (by decide) rfl ?_
      simp only [List.set_cons_zero, List.set_cons_succ]
      replace h := lt_some h
      refine r_iload_n (i := 3) dX11_well_32 rfl rfl ?_
      refine r_iconst (v := 2) dX11_well_33 (by decide) ?_
      refine r_icmp_ne (tgt := 42) dX11_well_34 (by decide) (fun c => ?_) (fun c => ?_)
      · rw [if_neg c] at h
        refine r_iload_n (i := 2) dX11_well_42 rfl rfl ?_
        refine r_aload_n (i := 0) dX11_well_43 rfl rfl ?_
        refine r_iload_n (i := 1) dX11_well_44 rfl rfl ?_
        refine r_iconst (v := 1) dX11_well_45 (by decide) ?_
        obtain ⟨r4, hr, h⟩ := bind_some h
        refine r_V (d' := 1) k_X11_88 dX11_well_46 (by omega) rfl rfl rfl (Nat.le_of_ble_eq_true rfl) (Nat.le_of_ble_eq_true rfl) (ok_X11_weight_67 (Nat.le_refl _) hr) (fun v I' L' hq => ?_)
        obtain ⟨rfl, rfl, rfl⟩ := hq
        simp only [Option.toList_some, Option.toList_none, List.drop_succ_cons, List.drop_zero, List.drop_nil, List.cons_append, List.nil_append]
        refine r_imul dX11_well_49 ?_
        refine r_iret (by first | rfl | decide) dX11_well_50 ?_
        obtain rfl := Option.some.inj h
        exact ⟨rfl, rfl, rfl⟩
      · rw [if_pos c] at h
        refine r_bipush (v := (-4)) dX11_well_37 (by decide) ?_
        refine r_goto (tgt := 50) dX11_well_39 (by decide) ?_
        refine r_iret (by first | rfl | decide) dX11_well_50 ?_
        obtain rfl := Option.some.inj h
        exact ⟨rfl, rfl, rfl⟩
    · rw [if_pos c] at h
      refine r_iconst (v := (-1)) dX11_well_20 (by decide) ?_
      refine r_iret (by first | rfl | decide) dX11_well_21 ?_
      obtain rfl := Option.some.inj h
      exact ⟨rfl, rfl, rfl⟩
def f_X11_image_67_l2 : Nat → Int32 → mI → mL → rI
  | 0, _, _, _ => none
  | n + 1, x1, I, L => if 135 ≤ x1 then (lt (uI I 67 2 1) (fun M1 => some (1, M1, L))) else (ck (inb x1 135) (ck (inb x1 135) (lt (uI I 69 x1.toNatClampNeg (I 68 x1.toNatClampNeg)) (fun M2 => lt (x1 + Int32.ofInt 1) (fun v3 => f_X11_image_67_l2 n v3 M2 L)))))
theorem ok_X11_image_67_l2 {d : Nat} (hd : 0 ≤ d) : ∀ (n : Nat) (x1 : Int32) (I : mI) (L : mL) (o : Int32 × mI × mL), f_X11_image_67_l2 n x1 I L = some o → RR mX11_image d 2 [some (.ref 67), some (.int x1)] [] I L (retQ (some (.int o.1)) o.2.1 o.2.2) := by
  intro n
  induction n with
  | zero => intro x1 I L o h; rw [f_X11_image_67_l2] at h; cases h
  | succ n ih =>
    intro x1 I L o h
    rw [f_X11_image_67_l2] at h
    refine r_iload_n (i := 1) dX11_image_2 rfl rfl ?_
    refine r_sipush (v := 135) dX11_image_3 (by decide) ?_
    refine r_icmp_ge (tgt := 27) dX11_image_6 (by decide) (fun c => ?_) (fun c => ?_)
    · rw [if_pos c] at h
      refine r_aload_n (i := 0) dX11_image_27 rfl rfl ?_
      refine r_iconst (v := 1) dX11_image_28 (by decide) ?_
      refine r_putI f_X11_216 rfl rfl dX11_image_29 rfl rfl ?_
      replace h := lt_some h
      refine r_iconst (v := 1) dX11_image_32 (by decide) ?_
      refine r_iret (by first | rfl | decide) dX11_image_33 ?_
      obtain rfl := Option.some.inj h
      exact ⟨rfl, rfl, rfl⟩
    · rw [if_neg c] at h
      refine r_aload_n (i := 0) dX11_image_9 rfl rfl ?_
      refine r_getR f_X11_13 dX11_image_10 rfl rfl ?_
      refine r_iload_n (i := 1) dX11_image_13 rfl rfl ?_
      refine r_aload_n (i := 0) dX11_image_14 rfl rfl ?_
      refine r_getR f_X11_7 dX11_image_15 rfl rfl ?_
      refine r_iload_n (i := 1) dX11_image_18 rfl rfl ?_
      obtain ⟨hb, h⟩ := ck_some h
      refine r_iald rfl (inb_vp hb) dX11_image_19 ?_
      obtain ⟨hb, h⟩ := ck_some h
      refine r_iast rfl (inb_vp hb) dX11_image_20 ?_
      replace h := lt_some h
      refine r_iinc (v := _) dX11_image_21 rfl rfl (by decide) rfl ?_
      simp only [List.set_cons_zero, List.set_cons_succ]
      replace h := lt_some h
      refine r_goto (tgt := 2) dX11_image_24 (by decide) ?_
      exact RR.wk (ih _ _ _ _ h) (And.intro rfl (And.intro rfl (trivial)))
def f_X11_image_67 (I : mI) (L : mL) : rI := f_X11_image_67_l2 fuel 0 I L
theorem ok_X11_image_67 {d : Nat} (hd : 0 ≤ d) {I : mI} {L : mL} {o : Int32 × mI × mL} (h : f_X11_image_67 I L = some o) : RR mX11_image d 0 [some (.ref 67), none] [] I L (retQ (some (.int o.1)) o.2.1 o.2.2) := by
  unfold f_X11_image_67 at h
  refine r_iconst (v := 0) dX11_image_0 (by decide) ?_
  refine r_istore_n (i := 1) dX11_image_1 rfl (by decide) rfl ?_
  simp only [List.set_cons_zero, List.set_cons_succ]
  exact RR.wk (ok_X11_image_67_l2 hd _ _ _ _ _ h) (And.intro rfl (And.intro rfl (trivial)))
def f_X11_restore_67_l12 : Nat → Int32 → mI → mL → rI
  | 0, _, _, _ => none
  | n + 1, x1, I, L => if 135 ≤ x1 then (some (1, I, L)) else (ck (inb x1 135) (ck (inb x1 135) (lt (uI I 68 x1.toNatClampNeg (I 69 x1.toNatClampNeg)) (fun M1 => lt (x1 + Int32.ofInt 1) (fun v2 => f_X11_restore_67_l12 n v2 M1 L)))))
theorem ok_X11_restore_67_l12 {d : Nat} (hd : 0 ≤ d) : ∀ (n : Nat) (x1 : Int32) (I : mI) (L : mL) (o : Int32 × mI × mL), f_X11_restore_67_l12 n x1 I L = some o → RR mX11_restore d 12 [some (.ref 67), some (.int x1)] [] I L (retQ (some (.int o.1)) o.2.1 o.2.2) := by
  intro n
  induction n with
  | zero => intro x1 I L o h; rw [f_X11_restore_67_l12] at h; cases h
  | succ n ih =>
    intro x1 I L o h
    rw [f_X11_restore_67_l12] at h
    refine r_iload_n (i := 1) dX11_restore_12 rfl rfl ?_
    refine r_sipush (v := 135) dX11_restore_13 (by decide) ?_
    refine r_icmp_ge (tgt := 37) dX11_restore_16 (by decide) (fun c => ?_) (fun c => ?_)
    · rw [if_pos c] at h
      refine r_iconst (v := 1) dX11_restore_37 (by decide) ?_
      refine r_iret (by first | rfl | decide) dX11_restore_38 ?_
      obtain rfl := Option.some.inj h
      exact ⟨rfl, rfl, rfl⟩
    · rw [if_neg c] at h
      refine r_aload_n (i := 0) dX11_restore_19 rfl rfl ?_
      refine r_getR f_X11_7 dX11_restore_20 rfl rfl ?_
      refine r_iload_n (i := 1) dX11_restore_23 rfl rfl ?_
      refine r_aload_n (i := 0) dX11_restore_24 rfl rfl ?_
      refine r_getR f_X11_13 dX11_restore_25 rfl rfl ?_
      refine r_iload_n (i := 1) dX11_restore_28 rfl rfl ?_
      obtain ⟨hb, h⟩ := ck_some h
      refine r_iald rfl (inb_vp hb) dX11_restore_29 ?_
      obtain ⟨hb, h⟩ := ck_some h
      refine r_iast rfl (inb_vp hb) dX11_restore_30 ?_
      replace h := lt_some h
      refine r_iinc (v := _) dX11_restore_31 rfl rfl (by decide) rfl ?_
      simp only [List.set_cons_zero, List.set_cons_succ]
      replace h := lt_some h
      refine r_goto (tgt := 12) dX11_restore_34 (by decide) ?_
      exact RR.wk (ih _ _ _ _ h) (And.intro rfl (And.intro rfl (trivial)))
def f_X11_restore_67 (I : mI) (L : mL) : rI := if (I 67 2) = 0 then (some ((-4), I, L)) else (f_X11_restore_67_l12 fuel 0 I L)
theorem ok_X11_restore_67 {d : Nat} (hd : 0 ≤ d) {I : mI} {L : mL} {o : Int32 × mI × mL} (h : f_X11_restore_67 I L = some o) : RR mX11_restore d 0 [some (.ref 67), none] [] I L (retQ (some (.int o.1)) o.2.1 o.2.2) := by
  unfold f_X11_restore_67 at h
  refine r_aload_n (i := 0) dX11_restore_0 rfl rfl ?_
  refine r_getI f_X11_216 dX11_restore_1 rfl rfl ?_
  refine r_if_ne (tgt := 10) dX11_restore_4 (by decide) (fun c => ?_) (fun c => ?_)
  · rw [if_neg c] at h
    refine r_iconst (v := 0) dX11_restore_10 (by decide) ?_
    refine r_istore_n (i := 1) dX11_restore_11 rfl (by decide) rfl ?_
    simp only [List.set_cons_zero, List.set_cons_succ]
    exact RR.wk (ok_X11_restore_67_l12 hd _ _ _ _ _ h) (And.intro rfl (And.intro rfl (trivial)))
  · rw [if_pos c] at h
    refine r_bipush (v := (-4)) dX11_restore_7 (by decide) ?_
    refine r_iret (by first | rfl | decide) dX11_restore_9 ?_
    obtain rfl := Option.some.inj h
    exact ⟨rfl, rfl, rfl⟩
def f_X11_isSheet (I : mI) (L : mL) (a0 : Int32) : Option Int32 := (f_X11_in I L (a0.toInt64) 0 3).bind (fun r1 => ck (isb r1) (some r1))
theorem ok_X11_isSheet {d : Nat} (hd : 1 ≤ d) {I : mI} {L : mL} {a0 : Int32} {o : Int32} (h : f_X11_isSheet I L a0 = some o) : RR mX11_isSheet d 0 [some (.int a0)] [] I L (retQ (some (.int o)) I L) := by
  unfold f_X11_isSheet at h
  refine r_iload_n (i := 0) dX11_isSheet_0 rfl rfl ?_
  refine r_i2l dX11_isSheet_1 ?_
  refine r_lconst (v := 0) dX11_isSheet_2 (by decide) ?_
  refine r_ldc2 n_X11_62 dX11_isSheet_3 ?_
  obtain ⟨r1, hr, h⟩ := bind_some h
  refine r_S (d' := 0) k_X11_50 dX11_isSheet_6 (by omega) rfl (Nat.le_of_ble_eq_true rfl) (Nat.le_of_ble_eq_true rfl) (ok_X11_in (Nat.le_refl _) hr) (fun v I' L' hq => ?_)
  obtain ⟨rfl, rfl, rfl⟩ := hq
  simp only [Option.toList_some, Option.toList_none, List.drop_succ_cons, List.drop_zero, List.drop_nil, List.cons_append, List.nil_append]
  obtain ⟨hb, h⟩ := ck_some h
  refine r_iret (isb_nar hb) dX11_isSheet_9 ?_
  obtain rfl := Option.some.inj h
  exact ⟨rfl, rfl, rfl⟩
def f_X11_isLane (I : mI) (L : mL) (a0 : Int32) : Option Int32 := (f_X11_in I L (a0.toInt64) 0 2).bind (fun r1 => ck (isb r1) (some r1))
theorem ok_X11_isLane {d : Nat} (hd : 1 ≤ d) {I : mI} {L : mL} {a0 : Int32} {o : Int32} (h : f_X11_isLane I L a0 = some o) : RR mX11_isLane d 0 [some (.int a0)] [] I L (retQ (some (.int o)) I L) := by
  unfold f_X11_isLane at h
  refine r_iload_n (i := 0) dX11_isLane_0 rfl rfl ?_
  refine r_i2l dX11_isLane_1 ?_
  refine r_lconst (v := 0) dX11_isLane_2 (by decide) ?_
  refine r_ldc2 n_X11_93 dX11_isLane_3 ?_
  obtain ⟨r1, hr, h⟩ := bind_some h
  refine r_S (d' := 0) k_X11_50 dX11_isLane_6 (by omega) rfl (Nat.le_of_ble_eq_true rfl) (Nat.le_of_ble_eq_true rfl) (ok_X11_in (Nat.le_refl _) hr) (fun v I' L' hq => ?_)
  obtain ⟨rfl, rfl, rfl⟩ := hq
  simp only [Option.toList_some, Option.toList_none, List.drop_succ_cons, List.drop_zero, List.drop_nil, List.cons_append, List.nil_append]
  obtain ⟨hb, h⟩ := ck_some h
  refine r_iret (isb_nar hb) dX11_isLane_9 ?_
  obtain rfl := Option.some.inj h
  exact ⟨rfl, rfl, rfl⟩
def f_X11_finds_67 (I : mI) (L : mL) (a1 : Int32) (a2 : Int32) (a3 : Int32) (a4 : Int32) : Option Int32 := ck (inb a1 4) (if 0 ≤ (I 72 a1.toNatClampNeg) then (ck (inb a1 4) (if (I 71 a1.toNatClampNeg) = a2 then (if a3 < 0 then (some (-13)) else (if a4 < 0 then (some (-13)) else (ck (inb a1 4) (if (lg_cmp ((a3.toInt64) + (a4.toInt64)) ((I 72 a1.toNatClampNeg).toInt64)) ≤ 0 then (some 0) else (some (-13)))))) else (some (-12)))) else (some (-11)))
theorem ok_X11_finds_67 {d : Nat} (hd : 0 ≤ d) {I : mI} {L : mL} {a1 : Int32} {a2 : Int32} {a3 : Int32} {a4 : Int32} {o : Int32} (h : f_X11_finds_67 I L a1 a2 a3 a4 = some o) : RR mX11_finds d 0 [some (.ref 67), some (.int a1), some (.int a2), some (.int a3), some (.int a4)] [] I L (retQ (some (.int o)) I L) := by
  unfold f_X11_finds_67 at h
  refine r_aload_n (i := 0) dX11_finds_0 rfl rfl ?_
  refine r_getR f_X11_22 dX11_finds_1 rfl rfl ?_
  refine r_iload_n (i := 1) dX11_finds_4 rfl rfl ?_
  obtain ⟨hb, h⟩ := ck_some h
  refine r_iald rfl (inb_vp hb) dX11_finds_5 ?_
  refine r_if_ge (tgt := 14) dX11_finds_6 (by decide) (fun c => ?_) (fun c => ?_)
  · rw [if_pos c] at h
    refine r_aload_n (i := 0) dX11_finds_14 rfl rfl ?_
    refine r_getR f_X11_19 dX11_finds_15 rfl rfl ?_
    refine r_iload_n (i := 1) dX11_finds_18 rfl rfl ?_
    obtain ⟨hb, h⟩ := ck_some h
    refine r_iald rfl (inb_vp hb) dX11_finds_19 ?_
    refine r_iload_n (i := 2) dX11_finds_20 rfl rfl ?_
    refine r_icmp_eq (tgt := 29) dX11_finds_21 (by decide) (fun c => ?_) (fun c => ?_)
    · rw [if_pos c] at h
      refine r_iload_n (i := 3) dX11_finds_29 rfl rfl ?_
      refine r_if_lt (tgt := 55) dX11_finds_30 (by decide) (fun c => ?_) (fun c => ?_)
      · rw [if_pos c] at h
        refine r_bipush (v := (-13)) dX11_finds_55 (by decide) ?_
        refine r_goto (tgt := 61) dX11_finds_57 (by decide) ?_
        refine r_iret (by first | rfl | decide) dX11_finds_61 ?_
        obtain rfl := Option.some.inj h
        exact ⟨rfl, rfl, rfl⟩
      · rw [if_neg c] at h
        refine r_iload dX11_finds_33 rfl ?_
        refine r_if_lt (tgt := 55) dX11_finds_35 (by decide) (fun c => ?_) (fun c => ?_)
        · rw [if_pos c] at h
          refine r_bipush (v := (-13)) dX11_finds_55 (by decide) ?_
          refine r_goto (tgt := 61) dX11_finds_57 (by decide) ?_
          refine r_iret (by first | rfl | decide) dX11_finds_61 ?_
          obtain rfl := Option.some.inj h
          exact ⟨rfl, rfl, rfl⟩
        · rw [if_neg c] at h
          refine r_iload_n (i := 3) dX11_finds_38 rfl rfl ?_
          refine r_i2l dX11_finds_39 ?_
          refine r_iload dX11_finds_40 rfl ?_
          refine r_i2l dX11_finds_42 ?_
          refine r_ladd dX11_finds_43 ?_
          refine r_aload_n (i := 0) dX11_finds_44 rfl rfl ?_
          refine r_getR f_X11_22 dX11_finds_45 rfl rfl ?_
          refine r_iload_n (i := 1) dX11_finds_48 rfl rfl ?_
          obtain ⟨hb, h⟩ := ck_some h
          refine r_iald rfl (inb_vp hb) dX11_finds_49 ?_
          refine r_i2l dX11_finds_50 ?_
          refine r_lcmp dX11_finds_51 ?_
          refine r_if_le (tgt := 60) dX11_finds_52 (by decide) (fun c => ?_) (fun c => ?_)
          · rw [if_pos c] at h
            refine r_iconst (v := 0) dX11_finds_60 (by decide) ?_
            refine r_iret (by first | rfl | decide) dX11_finds_61 ?_
            obtain rfl := Option.some.inj h
            exact ⟨rfl, rfl, rfl⟩
          · rw [if_neg c] at h
            refine r_bipush (v := (-13)) dX11_finds_55 (by decide) ?_
            refine r_goto (tgt := 61) dX11_finds_57 (by decide) ?_
            refine r_iret (by first | rfl | decide) dX11_finds_61 ?_
            obtain rfl := Option.some.inj h
            exact ⟨rfl, rfl, rfl⟩
    · rw [if_neg c] at h
      refine r_bipush (v := (-12)) dX11_finds_24 (by decide) ?_
      refine r_goto (tgt := 61) dX11_finds_26 (by decide) ?_
      refine r_iret (by first | rfl | decide) dX11_finds_61 ?_
      obtain rfl := Option.some.inj h
      exact ⟨rfl, rfl, rfl⟩
  · rw [if_neg c] at h
    refine r_bipush (v := (-11)) dX11_finds_9 (by decide) ?_
    refine r_goto (tgt := 61) dX11_finds_11 (by decide) ?_
    refine r_iret (by first | rfl | decide) dX11_finds_61 ?_
    obtain rfl := Option.some.inj h
    exact ⟨rfl, rfl, rfl⟩
def f_X11_evens_67_b101 (I : mI) (L : mL) (k3 : Int32 → Int32 → Int32 → Int32 → Option Int32) (k13 : Int32 → Int32 → Int32 → Int32 → Int32 → Option Int32) (k24 : Int32 → Int32 → Int32 → Int32 → Int32 → Int32 → Option Int32) (x1 : Int32) (x2 : Int32) (x3 : Int32) (x4 : Int32) (x5 : Int32) (x6 : Int32) (s0 : Int32) : Option Int32 := if s0 = 0 then (lt (x6 + Int32.ofInt 1) (fun v5 => k24 x1 x2 x3 x4 x5 v5)) else (some x4)
theorem ok_X11_evens_67_b101 {d : Nat} (hd : 1 ≤ d){I : mI} {L : mL} {k3 : Int32 → Int32 → Int32 → Int32 → Option Int32} {k13 : Int32 → Int32 → Int32 → Int32 → Int32 → Option Int32} {k24 : Int32 → Int32 → Int32 → Int32 → Int32 → Int32 → Option Int32} (hk3 : ∀ (x1 : Int32) (x2 : Int32) (x3 : Int32) (x4 : Int32) (o : Int32), k3 x1 x2 x3 x4 = some o → RR mX11_evens d 3 [none, some (.int x1), some (.int x2), some (.int x3), some (.int x4), none, none, none, none, none] [] I L (retQ (some (.int o)) I L)) (hk13 : ∀ (x1 : Int32) (x2 : Int32) (x3 : Int32) (x4 : Int32) (x5 : Int32) (o : Int32), k13 x1 x2 x3 x4 x5 = some o → RR mX11_evens d 13 [none, some (.int x1), some (.int x2), some (.int x3), some (.int x4), some (.int x5), none, none, none, none] [] I L (retQ (some (.int o)) I L)) (hk24 : ∀ (x1 : Int32) (x2 : Int32) (x3 : Int32) (x4 : Int32) (x5 : Int32) (x6 : Int32) (o : Int32), k24 x1 x2 x3 x4 x5 x6 = some o → RR mX11_evens d 24 [none, some (.int x1), some (.int x2), some (.int x3), some (.int x4), some (.int x5), some (.int x6), none, none, none] [] I L (retQ (some (.int o)) I L)) (x1 : Int32) (x2 : Int32) (x3 : Int32) (x4 : Int32) (x5 : Int32) (x6 : Int32) (s0 : Int32) {o : Int32} (h : f_X11_evens_67_b101 I L k3 k13 k24 x1 x2 x3 x4 x5 x6 s0 = some o) : RR mX11_evens d 101 [none, some (.int x1), some (.int x2), some (.int x3), some (.int x4), some (.int x5), some (.int x6), none, none, none] [.int s0] I L (retQ (some (.int o)) I L) := by
  unfold f_X11_evens_67_b101 at h
  refine r_istore dX11_evens_101 (by decide) rfl ?_
  simp only [List.set_cons_zero, List.set_cons_succ]
  refine r_iload dX11_evens_103 rfl ?_
  refine r_if_eq (tgt := 111) dX11_evens_105 (by decide) (fun c => ?_) (fun c => ?_)
  · rw [if_pos c] at h
    refine r_iinc (v := _) dX11_evens_111 rfl rfl (by decide) rfl ?_
    simp only [List.set_cons_zero, List.set_cons_succ]
    replace h := lt_some h
    refine r_goto (tgt := 24) dX11_evens_114 (by decide) ?_
    exact RR.wk (hk24 _ _ _ _ _ _ _ h) (And.intro rfl (And.intro rfl (And.intro rfl (And.intro rfl (And.intro rfl (And.intro rfl (trivial)))))))
  · rw [if_neg c] at h
    refine r_iload dX11_evens_108 rfl ?_
    refine r_iret (by first | rfl | decide) dX11_evens_110 ?_
    obtain rfl := Option.some.inj h
    exact ⟨rfl, rfl, rfl⟩
def f_X11_evens_67_b100 (I : mI) (L : mL) (k3 : Int32 → Int32 → Int32 → Int32 → Option Int32) (k13 : Int32 → Int32 → Int32 → Int32 → Int32 → Option Int32) (k24 : Int32 → Int32 → Int32 → Int32 → Int32 → Int32 → Option Int32) (x1 : Int32) (x2 : Int32) (x3 : Int32) (x4 : Int32) (x5 : Int32) (x6 : Int32) : Option Int32 := f_X11_evens_67_b101 I L k3 k13 k24 x1 x2 x3 x4 x5 x6 0
theorem ok_X11_evens_67_b100 {d : Nat} (hd : 1 ≤ d){I : mI} {L : mL} {k3 : Int32 → Int32 → Int32 → Int32 → Option Int32} {k13 : Int32 → Int32 → Int32 → Int32 → Int32 → Option Int32} {k24 : Int32 → Int32 → Int32 → Int32 → Int32 → Int32 → Option Int32} (hk3 : ∀ (x1 : Int32) (x2 : Int32) (x3 : Int32) (x4 : Int32) (o : Int32), k3 x1 x2 x3 x4 = some o → RR mX11_evens d 3 [none, some (.int x1), some (.int x2), some (.int x3), some (.int x4), none, none, none, none, none] [] I L (retQ (some (.int o)) I L)) (hk13 : ∀ (x1 : Int32) (x2 : Int32) (x3 : Int32) (x4 : Int32) (x5 : Int32) (o : Int32), k13 x1 x2 x3 x4 x5 = some o → RR mX11_evens d 13 [none, some (.int x1), some (.int x2), some (.int x3), some (.int x4), some (.int x5), none, none, none, none] [] I L (retQ (some (.int o)) I L)) (hk24 : ∀ (x1 : Int32) (x2 : Int32) (x3 : Int32) (x4 : Int32) (x5 : Int32) (x6 : Int32) (o : Int32), k24 x1 x2 x3 x4 x5 x6 = some o → RR mX11_evens d 24 [none, some (.int x1), some (.int x2), some (.int x3), some (.int x4), some (.int x5), some (.int x6), none, none, none] [] I L (retQ (some (.int o)) I L)) (x1 : Int32) (x2 : Int32) (x3 : Int32) (x4 : Int32) (x5 : Int32) (x6 : Int32) {o : Int32} (h : f_X11_evens_67_b100 I L k3 k13 k24 x1 x2 x3 x4 x5 x6 = some o) : RR mX11_evens d 100 [none, some (.int x1), some (.int x2), some (.int x3), some (.int x4), some (.int x5), some (.int x6), none, none, none] [] I L (retQ (some (.int o)) I L) := by
  unfold f_X11_evens_67_b100 at h
  refine r_iconst (v := 0) dX11_evens_100 (by decide) ?_
  exact RR.wk (ok_X11_evens_67_b101 hd hk3 hk13 hk24 _ _ _ _ _ _ _ h) (And.intro rfl (And.intro rfl (And.intro rfl (And.intro rfl (And.intro rfl (And.intro rfl (trivial)))))))
def f_X11_evens_67_l24 (I : mI) (L : mL) (k3 : Int32 → Int32 → Int32 → Int32 → Option Int32) (k13 : Int32 → Int32 → Int32 → Int32 → Int32 → Option Int32) : Nat → Int32 → Int32 → Int32 → Int32 → Int32 → Int32 → Option Int32
  | 0, _, _, _, _, _, _ => none
  | n + 1, x1, x2, x3, x4, x5, x6 => if (6 * x5) < x6 then (lt (x5 + Int32.ofInt 1) (fun v2 => k13 x1 x2 x3 x4 v2)) else (lt (x1 + (x3 * x6)) (fun v3 => lt (6 * (x4 - x5)) (fun v4 => if x2 = 0 then (if v3 = 0 then (f_X11_evens_67_b101 I L k3 k13 (f_X11_evens_67_l24 I L k3 k13 n) x1 x2 x3 x4 x5 x6 1) else (f_X11_evens_67_b101 I L k3 k13 (f_X11_evens_67_l24 I L k3 k13 n) x1 x2 x3 x4 x5 x6 0)) else (ck (nz x2) (if (v3 - v3 / x2 * x2) = 0 then (ck (nz x2) ((f_X11_in I L ((v3 / x2).toInt64) ((x4 - x5).toInt64) (v4.toInt64)).bind (fun r6 => if r6 = 0 then (f_X11_evens_67_b100 I L k3 k13 (f_X11_evens_67_l24 I L k3 k13 n) x1 x2 x3 x4 x5 x6) else (f_X11_evens_67_b101 I L k3 k13 (f_X11_evens_67_l24 I L k3 k13 n) x1 x2 x3 x4 x5 x6 1)))) else (f_X11_evens_67_b100 I L k3 k13 (f_X11_evens_67_l24 I L k3 k13 n) x1 x2 x3 x4 x5 x6))))))
theorem ok_X11_evens_67_l24 {d : Nat} (hd : 1 ≤ d){I : mI} {L : mL} {k3 : Int32 → Int32 → Int32 → Int32 → Option Int32} {k13 : Int32 → Int32 → Int32 → Int32 → Int32 → Option Int32} (hk3 : ∀ (x1 : Int32) (x2 : Int32) (x3 : Int32) (x4 : Int32) (o : Int32), k3 x1 x2 x3 x4 = some o → RR mX11_evens d 3 [none, some (.int x1), some (.int x2), some (.int x3), some (.int x4), none, none, none, none, none] [] I L (retQ (some (.int o)) I L)) (hk13 : ∀ (x1 : Int32) (x2 : Int32) (x3 : Int32) (x4 : Int32) (x5 : Int32) (o : Int32), k13 x1 x2 x3 x4 x5 = some o → RR mX11_evens d 13 [none, some (.int x1), some (.int x2), some (.int x3), some (.int x4), some (.int x5), none, none, none, none] [] I L (retQ (some (.int o)) I L)) : ∀ (n : Nat) (x1 : Int32) (x2 : Int32) (x3 : Int32) (x4 : Int32) (x5 : Int32) (x6 : Int32) (o : Int32), f_X11_evens_67_l24 I L k3 k13 n x1 x2 x3 x4 x5 x6 = some o → RR mX11_evens d 24 [none, some (.int x1), some (.int x2), some (.int x3), some (.int x4), some (.int x5), some (.int x6), none, none, none] [] I L (retQ (some (.int o)) I L) := by
  intro n
  induction n with
  | zero => intro x1 x2 x3 x4 x5 x6 o h; rw [f_X11_evens_67_l24] at h; cases h
  | succ n ih =>
    intro x1 x2 x3 x4 x5 x6 o h
    rw [f_X11_evens_67_l24] at h
    refine r_iload dX11_evens_24 rfl ?_
    refine r_bipush (v := 6) dX11_evens_26 (by decide) ?_
    refine r_iload dX11_evens_28 rfl ?_
    refine r_imul dX11_evens_30 ?_
    refine r_icmp_gt (tgt := 117) dX11_evens_31 (by decide) (fun c => ?_) (fun c => ?_)
    · rw [if_pos c] at h
      refine r_iinc (v := _) dX11_evens_117 rfl rfl (by decide) rfl ?_
      simp only [List.set_cons_zero, List.set_cons_succ]
      replace h := lt_some h
      refine r_goto (tgt := 13) dX11_evens_120 (by decide) ?_
      exact RR.wk (hk13 _ _ _ _ _ _ h) (And.intro rfl (And.intro rfl (And.intro rfl (And.intro rfl (And.intro rfl (trivial))))))
    · rw [if_neg c] at h
      refine r_iload_n (i := 1) dX11_evens_34 rfl rfl ?_
      refine r_iload_n (i := 3) dX11_evens_35 rfl rfl ?_
      refine r_iload dX11_evens_36 rfl ?_
      refine r_imul dX11_evens_38 ?_
      refine r_iadd dX11_evens_39 ?_
      refine r_istore dX11_evens_40 (by decide) rfl ?_
      simp only [List.set_cons_zero, List.set_cons_succ]
      replace h := lt_some h
      refine r_bipush (v := 6) dX11_evens_42 (by decide) ?_
      refine r_iload dX11_evens_44 rfl ?_
      refine r_iload dX11_evens_46 rfl ?_
      refine r_isub dX11_evens_48 ?_
      refine r_imul dX11_evens_49 ?_
      refine r_istore dX11_evens_50 (by decide) rfl ?_
      simp only [List.set_cons_zero, List.set_cons_succ]
      replace h := lt_some h
      refine r_iload_n (i := 2) dX11_evens_52 rfl rfl ?_
      refine r_if_ne (tgt := 69) dX11_evens_53 (by decide) (fun c => ?_) (fun c => ?_)
      · rw [if_neg c] at h
        refine r_iload dX11_evens_69 rfl ?_
        refine r_iload_n (i := 2) dX11_evens_71 rfl rfl ?_
        obtain ⟨hb, h⟩ := ck_some h
        refine r_irem dX11_evens_72 (nz_ne hb) ?_
        refine r_if_ne (tgt := 100) dX11_evens_73 (by decide) (fun c => ?_) (fun c => ?_)
        · rw [if_neg c] at h
          exact RR.wk (ok_X11_evens_67_b100 hd hk3 hk13 ih _ _ _ _ _ _ h) (And.intro rfl (And.intro rfl (And.intro rfl (And.intro rfl (And.intro rfl (And.intro rfl (trivial)))))))
        · rw [if_pos c] at h
          refine r_iload dX11_evens_76 rfl ?_
          refine r_iload_n (i := 2) dX11_evens_78 rfl rfl ?_
          obtain ⟨hb, h⟩ := ck_some h
          refine r_idiv dX11_evens_79 (nz_ne hb) ?_
          refine r_i2l dX11_evens_80 ?_
          refine r_iload dX11_evens_81 rfl ?_
          refine r_iload dX11_evens_83 rfl ?_
          refine r_isub dX11_evens_85 ?_
          refine r_i2l dX11_evens_86 ?_
          refine r_iload dX11_evens_87 rfl ?_
          refine r_i2l dX11_evens_89 ?_
          obtain ⟨r6, hr, h⟩ := bind_some h
          refine r_S (d' := 0) k_X11_50 dX11_evens_90 (by omega) rfl (Nat.le_of_ble_eq_true rfl) (Nat.le_of_ble_eq_true rfl) (ok_X11_in (Nat.le_refl _) hr) (fun v I' L' hq => ?_)
          obtain ⟨rfl, rfl, rfl⟩ := hq
          simp only [Option.toList_some, Option.toList_none, List.drop_succ_cons, List.drop_zero, List.drop_nil, List.cons_append, List.nil_append]
          refine r_if_eq (tgt := 100) dX11_evens_93 (by decide) (fun c => ?_) (fun c => ?_)
          · rw [if_pos c] at h
            exact RR.wk (ok_X11_evens_67_b100 hd hk3 hk13 ih _ _ _ _ _ _ h) (And.intro rfl (And.intro rfl (And.intro rfl (And.intro rfl (And.intro rfl (And.intro rfl (trivial)))))))
          · rw [if_neg c] at h
            refine r_iconst (v := 1) dX11_evens_96 (by decide) ?_
            refine r_goto (tgt := 101) dX11_evens_97 (by decide) ?_
            exact RR.wk (ok_X11_evens_67_b101 hd hk3 hk13 ih _ _ _ _ _ _ _ h) (And.intro rfl (And.intro rfl (And.intro rfl (And.intro rfl (And.intro rfl (And.intro rfl (trivial)))))))
      · rw [if_pos c] at h
        refine r_iload dX11_evens_56 rfl ?_
        refine r_if_ne (tgt := 65) dX11_evens_58 (by decide) (fun c => ?_) (fun c => ?_)
        · rw [if_neg c] at h
          refine r_iconst (v := 0) dX11_evens_65 (by decide) ?_
          refine r_goto (tgt := 101) dX11_evens_66 (by decide) ?_
          exact RR.wk (ok_X11_evens_67_b101 hd hk3 hk13 ih _ _ _ _ _ _ _ h) (And.intro rfl (And.intro rfl (And.intro rfl (And.intro rfl (And.intro rfl (And.intro rfl (trivial)))))))
        · rw [if_pos c] at h
          refine r_iconst (v := 1) dX11_evens_61 (by decide) ?_
          refine r_goto (tgt := 101) dX11_evens_62 (by decide) ?_
          exact RR.wk (ok_X11_evens_67_b101 hd hk3 hk13 ih _ _ _ _ _ _ _ h) (And.intro rfl (And.intro rfl (And.intro rfl (And.intro rfl (And.intro rfl (And.intro rfl (trivial)))))))
def f_X11_evens_67_l13 (I : mI) (L : mL) (k3 : Int32 → Int32 → Int32 → Int32 → Option Int32) : Nat → Int32 → Int32 → Int32 → Int32 → Int32 → Option Int32
  | 0, _, _, _, _, _ => none
  | n + 1, x1, x2, x3, x4, x5 => if x4 < x5 then (lt (x4 + Int32.ofInt 1) (fun v1 => k3 x1 x2 x3 v1)) else (f_X11_evens_67_l24 I L k3 (f_X11_evens_67_l13 I L k3 n) fuel x1 x2 x3 x4 x5 x5)
theorem ok_X11_evens_67_l13 {d : Nat} (hd : 1 ≤ d){I : mI} {L : mL} {k3 : Int32 → Int32 → Int32 → Int32 → Option Int32} (hk3 : ∀ (x1 : Int32) (x2 : Int32) (x3 : Int32) (x4 : Int32) (o : Int32), k3 x1 x2 x3 x4 = some o → RR mX11_evens d 3 [none, some (.int x1), some (.int x2), some (.int x3), some (.int x4), none, none, none, none, none] [] I L (retQ (some (.int o)) I L)) : ∀ (n : Nat) (x1 : Int32) (x2 : Int32) (x3 : Int32) (x4 : Int32) (x5 : Int32) (o : Int32), f_X11_evens_67_l13 I L k3 n x1 x2 x3 x4 x5 = some o → RR mX11_evens d 13 [none, some (.int x1), some (.int x2), some (.int x3), some (.int x4), some (.int x5), none, none, none, none] [] I L (retQ (some (.int o)) I L) := by
  intro n
  induction n with
  | zero => intro x1 x2 x3 x4 x5 o h; rw [f_X11_evens_67_l13] at h; cases h
  | succ n ih =>
    intro x1 x2 x3 x4 x5 o h
    rw [f_X11_evens_67_l13] at h
    refine r_iload dX11_evens_13 rfl ?_
    refine r_iload dX11_evens_15 rfl ?_
    refine r_icmp_gt (tgt := 123) dX11_evens_17 (by decide) (fun c => ?_) (fun c => ?_)
    · rw [if_pos c] at h
      refine r_iinc (v := _) dX11_evens_123 rfl rfl (by decide) rfl ?_
      simp only [List.set_cons_zero, List.set_cons_succ]
      replace h := lt_some h
      refine r_goto (tgt := 3) dX11_evens_126 (by decide) ?_
      exact RR.wk (hk3 _ _ _ _ _ h) (And.intro rfl (And.intro rfl (And.intro rfl (And.intro rfl (trivial)))))
    · rw [if_neg c] at h
      refine r_iload dX11_evens_20 rfl ?_
      refine r_istore dX11_evens_22 (by decide) rfl ?_
      simp only [List.set_cons_zero, List.set_cons_succ]
      exact RR.wk (ok_X11_evens_67_l24 hd hk3 ih _ _ _ _ _ _ _ _ h) (And.intro rfl (And.intro rfl (And.intro rfl (And.intro rfl (And.intro rfl (And.intro rfl (trivial)))))))
def f_X11_evens_67_l3 (I : mI) (L : mL) : Nat → Int32 → Int32 → Int32 → Int32 → Option Int32
  | 0, _, _, _, _ => none
  | n + 1, x1, x2, x3, x4 => if 30 < x4 then (some (-4)) else (f_X11_evens_67_l13 I L (f_X11_evens_67_l3 I L n) fuel x1 x2 x3 x4 0)
theorem ok_X11_evens_67_l3 {d : Nat} (hd : 1 ≤ d){I : mI} {L : mL} : ∀ (n : Nat) (x1 : Int32) (x2 : Int32) (x3 : Int32) (x4 : Int32) (o : Int32), f_X11_evens_67_l3 I L n x1 x2 x3 x4 = some o → RR mX11_evens d 3 [none, some (.int x1), some (.int x2), some (.int x3), some (.int x4), none, none, none, none, none] [] I L (retQ (some (.int o)) I L) := by
  intro n
  induction n with
  | zero => intro x1 x2 x3 x4 o h; rw [f_X11_evens_67_l3] at h; cases h
  | succ n ih =>
    intro x1 x2 x3 x4 o h
    rw [f_X11_evens_67_l3] at h
    refine r_iload dX11_evens_3 rfl ?_
    refine r_bipush (v := 30) dX11_evens_5 (by decide) ?_
    refine r_icmp_gt (tgt := 129) dX11_evens_7 (by decide) (fun c => ?_) (fun c => ?_)
    · rw [if_pos c] at h
      refine r_bipush (v := (-4)) dX11_evens_129 (by decide) ?_
      refine r_iret (by first | rfl | decide) dX11_evens_131 ?_
      obtain rfl := Option.some.inj h
      exact ⟨rfl, rfl, rfl⟩
    · rw [if_neg c] at h
      refine r_iconst (v := 0) dX11_evens_10 (by decide) ?_
      refine r_istore dX11_evens_11 (by decide) rfl ?_
      simp only [List.set_cons_zero, List.set_cons_succ]
      exact RR.wk (ok_X11_evens_67_l13 hd ih _ _ _ _ _ _ _ h) (And.intro rfl (And.intro rfl (And.intro rfl (And.intro rfl (And.intro rfl (trivial))))))
def f_X11_evens_67 (I : mI) (L : mL) (a1 : Int32) (a2 : Int32) (a3 : Int32) : Option Int32 := f_X11_evens_67_l3 I L fuel a1 a2 a3 0
theorem ok_X11_evens_67 {d : Nat} (hd : 1 ≤ d) {I : mI} {L : mL} {a1 : Int32} {a2 : Int32} {a3 : Int32} {o : Int32} (h : f_X11_evens_67 I L a1 a2 a3 = some o) : RR mX11_evens d 0 [some (.ref 67), some (.int a1), some (.int a2), some (.int a3), none, none, none, none, none, none] [] I L (retQ (some (.int o)) I L) := by
  unfold f_X11_evens_67 at h
  refine r_iconst (v := 0) dX11_evens_0 (by decide) ?_
  refine r_istore dX11_evens_1 (by decide) rfl ?_
  simp only [List.set_cons_zero, List.set_cons_succ]
  exact RR.wk (ok_X11_evens_67_l3 hd _ _ _ _ _ _ h) (And.intro rfl (And.intro rfl (And.intro rfl (And.intro rfl (trivial)))))
def f_X11_beam_67_b185 (I : mI) (L : mL) (k87 : Int32 → Int32 → Int32 → Int32 → Int32 → Int32 → Int32 → Int32 → Option Int32) (x1 : Int32) (x2 : Int32) (x3 : Int32) (x5 : Int32) (x6 : Int32) (x7 : Int32) (x10 : Int32) (x11 : Int64) (x13 : Int64) (s0 : Int32) (s2 : Int32) : Option Int32 := (f_X11_weight_67 I L s0 (x11.toInt32)).bind (fun r15 => lt (s2 + (r15 * (x13.toInt32))) (fun v16 => lt (x10 + Int32.ofInt 1) (fun v17 => k87 x1 x2 x3 x5 x6 x7 v16 v17)))
theorem ok_X11_beam_67_b185 {d : Nat} (hd : 2 ≤ d){I : mI} {L : mL} {k87 : Int32 → Int32 → Int32 → Int32 → Int32 → Int32 → Int32 → Int32 → Option Int32} (hk87 : ∀ (x1 : Int32) (x2 : Int32) (x3 : Int32) (x5 : Int32) (x6 : Int32) (x7 : Int32) (x9 : Int32) (x10 : Int32) (o : Int32), k87 x1 x2 x3 x5 x6 x7 x9 x10 = some o → RR mX11_beam d 87 [some (.ref 67), some (.int x1), some (.int x2), some (.int x3), none, some (.int x5), some (.int x6), some (.int x7), none, some (.int x9), some (.int x10), none, none, none, none] [] I L (retQ (some (.int o)) I L)) (x1 : Int32) (x2 : Int32) (x3 : Int32) (x5 : Int32) (x6 : Int32) (x7 : Int32) (x10 : Int32) (x11 : Int64) (x13 : Int64) (s0 : Int32) (s2 : Int32) {o : Int32} (h : f_X11_beam_67_b185 I L k87 x1 x2 x3 x5 x6 x7 x10 x11 x13 s0 s2 = some o) : RR mX11_beam d 185 [some (.ref 67), some (.int x1), some (.int x2), some (.int x3), none, some (.int x5), some (.int x6), some (.int x7), none, none, some (.int x10), some (.long x11), none, some (.long x13), none] [.int s0, .ref 67, .int s2] I L (retQ (some (.int o)) I L) := by
  unfold f_X11_beam_67_b185 at h
  refine r_lload dX11_beam_185 rfl ?_
  refine r_l2i dX11_beam_187 ?_
  obtain ⟨r15, hr, h⟩ := bind_some h
  refine r_V (d' := 1) k_X11_88 dX11_beam_188 (by omega) rfl rfl rfl (Nat.le_of_ble_eq_true rfl) (Nat.le_of_ble_eq_true rfl) (ok_X11_weight_67 (Nat.le_refl _) hr) (fun v I' L' hq => ?_)
  obtain ⟨rfl, rfl, rfl⟩ := hq
  simp only [Option.toList_some, Option.toList_none, List.drop_succ_cons, List.drop_zero, List.drop_nil, List.cons_append, List.nil_append]
  refine r_lload dX11_beam_191 rfl ?_
  refine r_l2i dX11_beam_193 ?_
  refine r_imul dX11_beam_194 ?_
  refine r_iadd dX11_beam_195 ?_
  refine r_istore dX11_beam_196 (by decide) rfl ?_
  simp only [List.set_cons_zero, List.set_cons_succ]
  replace h := lt_some h
  refine r_iinc (v := _) dX11_beam_198 rfl rfl (by decide) rfl ?_
  simp only [List.set_cons_zero, List.set_cons_succ]
  replace h := lt_some h
  refine r_goto (tgt := 87) dX11_beam_201 (by decide) ?_
  exact RR.wk (hk87 _ _ _ _ _ _ _ _ _ h) (And.intro rfl (And.intro rfl (And.intro rfl (And.intro rfl (And.intro rfl (And.intro rfl (And.intro rfl (And.intro rfl (And.intro rfl (trivial))))))))))
def f_X11_beam_67_l87 (I : mI) (L : mL) : Nat → Int32 → Int32 → Int32 → Int32 → Int32 → Int32 → Int32 → Int32 → Option Int32
  | 0, _, _, _, _, _, _, _, _ => none
  | n + 1, x1, x2, x3, x5, x6, x7, x9, x10 => if x6 ≤ x10 then (if x7 = 0 then (some x9) else ((f_X11_weight_67 I L x1 1).bind (fun r8 => (f_X11_weight_67 I L x2 1).bind (fun r9 => (f_X11_evens_67 I L x9 r8 r9).bind (fun r10 => if r10 = (-4) then (some (-1000004)) else (some r10)))))) else (ck (inb (((24 * x3) + x5) + (2 * x10)) 96) (lt (L 73 (((24 * x3) + x5) + (2 * x10)).toNatClampNeg) (fun v11 => ck (inb ((((24 * x3) + x5) + (2 * x10)) + 1) 96) (lt (L 73 ((((24 * x3) + x5) + (2 * x10)) + 1).toNatClampNeg) (fun v12 => (f_X11_in I L v11 1 99).bind (fun r13 => if r13 = 0 then (some (-1000002)) else ((f_X11_in I L v12 (-6) 6).bind (fun r14 => if r14 = 0 then (some (-1000002)) else (if (lg_cmp v12 0) = 0 then (some (-1000002)) else (if 0 ≤ (lg_cmp v12 0) then (f_X11_beam_67_b185 I L (f_X11_beam_67_l87 I L n) x1 x2 x3 x5 x6 x7 x10 v11 v12 x2 x9) else (f_X11_beam_67_b185 I L (f_X11_beam_67_l87 I L n) x1 x2 x3 x5 x6 x7 x10 v11 v12 x1 x9)))))))))))
theorem ok_X11_beam_67_l87 {d : Nat} (hd : 2 ≤ d){I : mI} {L : mL} : ∀ (n : Nat) (x1 : Int32) (x2 : Int32) (x3 : Int32) (x5 : Int32) (x6 : Int32) (x7 : Int32) (x9 : Int32) (x10 : Int32) (o : Int32), f_X11_beam_67_l87 I L n x1 x2 x3 x5 x6 x7 x9 x10 = some o → RR mX11_beam d 87 [some (.ref 67), some (.int x1), some (.int x2), some (.int x3), none, some (.int x5), some (.int x6), some (.int x7), none, some (.int x9), some (.int x10), none, none, none, none] [] I L (retQ (some (.int o)) I L) := by
  intro n
  induction n with
  | zero => intro x1 x2 x3 x5 x6 x7 x9 x10 o h; rw [f_X11_beam_67_l87] at h; cases h
  | succ n ih =>
    intro x1 x2 x3 x5 x6 x7 x9 x10 o h
    rw [f_X11_beam_67_l87] at h
    refine r_iload dX11_beam_87 rfl ?_
    refine r_iload dX11_beam_89 rfl ?_
    refine r_icmp_ge (tgt := 204) dX11_beam_91 (by decide) (fun c => ?_) (fun c => ?_)
    · rw [if_pos c] at h
      refine r_iload dX11_beam_204 rfl ?_
      refine r_if_ne (tgt := 212) dX11_beam_206 (by decide) (fun c => ?_) (fun c => ?_)
      · rw [if_neg c] at h
        refine r_aload_n (i := 0) dX11_beam_212 rfl rfl ?_
        refine r_iload dX11_beam_213 rfl ?_
        refine r_aload_n (i := 0) dX11_beam_215 rfl rfl ?_
        refine r_iload_n (i := 1) dX11_beam_216 rfl rfl ?_
        refine r_iconst (v := 1) dX11_beam_217 (by decide) ?_
        obtain ⟨r8, hr, h⟩ := bind_some h
        refine r_V (d' := 1) k_X11_88 dX11_beam_218 (by omega) rfl rfl rfl (Nat.le_of_ble_eq_true rfl) (Nat.le_of_ble_eq_true rfl) (ok_X11_weight_67 (Nat.le_refl _) hr) (fun v I' L' hq => ?_)
        obtain ⟨rfl, rfl, rfl⟩ := hq
        simp only [Option.toList_some, Option.toList_none, List.drop_succ_cons, List.drop_zero, List.drop_nil, List.cons_append, List.nil_append]
        refine r_aload_n (i := 0) dX11_beam_221 rfl rfl ?_
        refine r_iload_n (i := 2) dX11_beam_222 rfl rfl ?_
        refine r_iconst (v := 1) dX11_beam_223 (by decide) ?_
        obtain ⟨r9, hr, h⟩ := bind_some h
        refine r_V (d' := 1) k_X11_88 dX11_beam_224 (by omega) rfl rfl rfl (Nat.le_of_ble_eq_true rfl) (Nat.le_of_ble_eq_true rfl) (ok_X11_weight_67 (Nat.le_refl _) hr) (fun v I' L' hq => ?_)
        obtain ⟨rfl, rfl, rfl⟩ := hq
        simp only [Option.toList_some, Option.toList_none, List.drop_succ_cons, List.drop_zero, List.drop_nil, List.cons_append, List.nil_append]
        obtain ⟨r10, hr, h⟩ := bind_some h
        refine r_V (d' := 1) k_X11_235 dX11_beam_227 (by omega) rfl rfl rfl (Nat.le_of_ble_eq_true rfl) (Nat.le_of_ble_eq_true rfl) (ok_X11_evens_67 (Nat.le_refl _) hr) (fun v I' L' hq => ?_)
        obtain ⟨rfl, rfl, rfl⟩ := hq
        simp only [Option.toList_some, Option.toList_none, List.drop_succ_cons, List.drop_zero, List.drop_nil, List.cons_append, List.nil_append]
        refine r_istore dX11_beam_230 (by decide) rfl ?_
        simp only [List.set_cons_zero, List.set_cons_succ]
        refine r_iload dX11_beam_232 rfl ?_
        refine r_bipush (v := (-4)) dX11_beam_234 (by decide) ?_
        refine r_icmp_ne (tgt := 244) dX11_beam_236 (by decide) (fun c => ?_) (fun c => ?_)
        · rw [if_neg c] at h
          refine r_iload dX11_beam_244 rfl ?_
          refine r_iret (by first | rfl | decide) dX11_beam_246 ?_
          obtain rfl := Option.some.inj h
          exact ⟨rfl, rfl, rfl⟩
        · rw [if_pos c] at h
          refine r_ldc n_X11_175 dX11_beam_239 ?_
          refine r_goto (tgt := 246) dX11_beam_241 (by decide) ?_
          refine r_iret (by first | rfl | decide) dX11_beam_246 ?_
          obtain rfl := Option.some.inj h
          exact ⟨rfl, rfl, rfl⟩
      · rw [if_pos c] at h
        refine r_iload dX11_beam_209 rfl ?_
        refine r_iret (by first | rfl | decide) dX11_beam_211 ?_
        obtain rfl := Option.some.inj h
        exact ⟨rfl, rfl, rfl⟩
    · rw [if_neg c] at h
      refine r_aload_n (i := 0) dX11_beam_94 rfl rfl ?_
      refine r_getR f_X11_25 dX11_beam_95 rfl rfl ?_
      refine r_bipush (v := 24) dX11_beam_98 (by decide) ?_
      refine r_iload_n (i := 3) dX11_beam_100 rfl rfl ?_
      refine r_imul dX11_beam_101 ?_
      refine r_iload dX11_beam_102 rfl ?_
      refine r_iadd dX11_beam_104 ?_
      refine r_iconst (v := 2) dX11_beam_105 (by decide) ?_
      refine r_iload dX11_beam_106 rfl ?_
      refine r_imul dX11_beam_108 ?_
      refine r_iadd dX11_beam_109 ?_
      obtain ⟨hb, h⟩ := ck_some h
      refine r_lald rfl (inb_vp hb) dX11_beam_110 ?_
      refine r_lstore dX11_beam_111 (by decide) rfl ?_
      simp only [List.set_cons_zero, List.set_cons_succ]
      replace h := lt_some h
      refine r_aload_n (i := 0) dX11_beam_113 rfl rfl ?_
      refine r_getR f_X11_25 dX11_beam_114 rfl rfl ?_
      refine r_bipush (v := 24) dX11_beam_117 (by decide) ?_
      refine r_iload_n (i := 3) dX11_beam_119 rfl rfl ?_
      refine r_imul dX11_beam_120 ?_
      refine r_iload dX11_beam_121 rfl ?_
      refine r_iadd dX11_beam_123 ?_
      refine r_iconst (v := 2) dX11_beam_124 (by decide) ?_
      refine r_iload dX11_beam_125 rfl ?_
      refine r_imul dX11_beam_127 ?_
      refine r_iadd dX11_beam_128 ?_
      refine r_iconst (v := 1) dX11_beam_129 (by decide) ?_
      refine r_iadd dX11_beam_130 ?_
      obtain ⟨hb, h⟩ := ck_some h
      refine r_lald rfl (inb_vp hb) dX11_beam_131 ?_
      refine r_lstore dX11_beam_132 (by decide) rfl ?_
      simp only [List.set_cons_zero, List.set_cons_succ]
      replace h := lt_some h
      refine r_lload dX11_beam_134 rfl ?_
      refine r_lconst (v := 1) dX11_beam_136 (by decide) ?_
      refine r_ldc2 n_X11_83 dX11_beam_137 ?_
      obtain ⟨r13, hr, h⟩ := bind_some h
      refine r_S (d' := 0) k_X11_50 dX11_beam_140 (by omega) rfl (Nat.le_of_ble_eq_true rfl) (Nat.le_of_ble_eq_true rfl) (ok_X11_in (Nat.le_refl _) hr) (fun v I' L' hq => ?_)
      obtain ⟨rfl, rfl, rfl⟩ := hq
      simp only [Option.toList_some, Option.toList_none, List.drop_succ_cons, List.drop_zero, List.drop_nil, List.cons_append, List.nil_append]
      refine r_if_eq (tgt := 167) dX11_beam_143 (by decide) (fun c => ?_) (fun c => ?_)
      · rw [if_pos c] at h
        refine r_ldc n_X11_234 dX11_beam_167 ?_
        refine r_iret (by first | rfl | decide) dX11_beam_169 ?_
        obtain rfl := Option.some.inj h
        exact ⟨rfl, rfl, rfl⟩
      · rw [if_neg c] at h
        refine r_lload dX11_beam_146 rfl ?_
        refine r_ldc2 n_X11_230 dX11_beam_148 ?_
        refine r_ldc2 n_X11_232 dX11_beam_151 ?_
        obtain ⟨r14, hr, h⟩ := bind_some h
        refine r_S (d' := 0) k_X11_50 dX11_beam_154 (by omega) rfl (Nat.le_of_ble_eq_true rfl) (Nat.le_of_ble_eq_true rfl) (ok_X11_in (Nat.le_refl _) hr) (fun v I' L' hq => ?_)
        obtain ⟨rfl, rfl, rfl⟩ := hq
        simp only [Option.toList_some, Option.toList_none, List.drop_succ_cons, List.drop_zero, List.drop_nil, List.cons_append, List.nil_append]
        refine r_if_eq (tgt := 167) dX11_beam_157 (by decide) (fun c => ?_) (fun c => ?_)
        · rw [if_pos c] at h
          refine r_ldc n_X11_234 dX11_beam_167 ?_
          refine r_iret (by first | rfl | decide) dX11_beam_169 ?_
          obtain rfl := Option.some.inj h
          exact ⟨rfl, rfl, rfl⟩
        · rw [if_neg c] at h
          refine r_lload dX11_beam_160 rfl ?_
          refine r_lconst (v := 0) dX11_beam_162 (by decide) ?_
          refine r_lcmp dX11_beam_163 ?_
          refine r_if_ne (tgt := 170) dX11_beam_164 (by decide) (fun c => ?_) (fun c => ?_)
          · rw [if_neg c] at h
            refine r_iload dX11_beam_170 rfl ?_
            refine r_aload_n (i := 0) dX11_beam_172 rfl rfl ?_
            refine r_lload dX11_beam_173 rfl ?_
            refine r_lconst (v := 0) dX11_beam_175 (by decide) ?_
            refine r_lcmp dX11_beam_176 ?_
            refine r_if_ge (tgt := 184) dX11_beam_177 (by decide) (fun c => ?_) (fun c => ?_)
            · rw [if_pos c] at h
              refine r_iload_n (i := 2) dX11_beam_184 rfl rfl ?_
              exact RR.wk (ok_X11_beam_67_b185 hd ih _ _ _ _ _ _ _ _ _ _ _ h) (And.intro rfl (And.intro rfl (And.intro rfl (And.intro rfl (And.intro rfl (And.intro rfl (And.intro rfl (And.intro rfl (And.intro rfl (And.intro rfl (trivial)))))))))))
            · rw [if_neg c] at h
              refine r_iload_n (i := 1) dX11_beam_180 rfl rfl ?_
              refine r_goto (tgt := 185) dX11_beam_181 (by decide) ?_
              exact RR.wk (ok_X11_beam_67_b185 hd ih _ _ _ _ _ _ _ _ _ _ _ h) (And.intro rfl (And.intro rfl (And.intro rfl (And.intro rfl (And.intro rfl (And.intro rfl (And.intro rfl (And.intro rfl (And.intro rfl (And.intro rfl (trivial)))))))))))
          · rw [if_pos c] at h
            refine r_ldc n_X11_234 dX11_beam_167 ?_
            refine r_iret (by first | rfl | decide) dX11_beam_169 ?_
            obtain rfl := Option.some.inj h
            exact ⟨rfl, rfl, rfl⟩
def f_X11_beam_67 (I : mI) (L : mL) (a1 : Int32) (a2 : Int32) (a3 : Int32) (a4 : Int32) (a5 : Int32) (a6 : Int32) (a7 : Int32) : Option Int32 := (f_X11_isParish_67 I L a1).bind (fun r1 => if r1 = 0 then (some (-1000001)) else ((f_X11_isParish_67 I L a2).bind (fun r2 => if r2 = 0 then (some (-1000001)) else ((f_X11_isSheet I L a3).bind (fun r3 => if r3 = 0 then (some (-1000001)) else ((f_X11_isLane I L a4).bind (fun r4 => if r4 = 0 then (some (-1000001)) else ((f_X11_in I L (a6.toInt64) 0 8).bind (fun r5 => if r5 = 0 then (some (-1000001)) else ((f_X11_isTwo I L a7).bind (fun r6 => if r6 = 0 then (some (-1000001)) else ((f_X11_finds_67 I L a3 a4 a5 (2 * a6)).bind (fun r7 => if 0 ≤ r7 then (f_X11_beam_67_l87 I L fuel a1 a2 a3 a5 a6 a7 0 0) else (some (r7 - 1000000)))))))))))))))
theorem ok_X11_beam_67 {d : Nat} (hd : 2 ≤ d) {I : mI} {L : mL} {a1 : Int32} {a2 : Int32} {a3 : Int32} {a4 : Int32} {a5 : Int32} {a6 : Int32} {a7 : Int32} {o : Int32} (h : f_X11_beam_67 I L a1 a2 a3 a4 a5 a6 a7 = some o) : RR mX11_beam d 0 [some (.ref 67), some (.int a1), some (.int a2), some (.int a3), some (.int a4), some (.int a5), some (.int a6), some (.int a7), none, none, none, none, none, none, none] [] I L (retQ (some (.int o)) I L) := by
  unfold f_X11_beam_67 at h
  refine r_aload_n (i := 0) dX11_beam_0 rfl rfl ?_
  refine r_iload_n (i := 1) dX11_beam_1 rfl rfl ?_
  obtain ⟨r1, hr, h⟩ := bind_some h
  refine r_V (d' := 1) k_X11_68 dX11_beam_2 (by omega) rfl rfl rfl (Nat.le_of_ble_eq_true rfl) (Nat.le_of_ble_eq_true rfl) (ok_X11_isParish_67 (Nat.le_refl _) hr) (fun v I' L' hq => ?_)
  obtain ⟨rfl, rfl, rfl⟩ := hq
  simp only [Option.toList_some, Option.toList_none, List.drop_succ_cons, List.drop_zero, List.drop_nil, List.cons_append, List.nil_append]
  refine r_if_eq (tgt := 52) dX11_beam_5 (by decide) (fun c => ?_) (fun c => ?_)
  · rw [if_pos c] at h
    refine r_ldc n_X11_171 dX11_beam_52 ?_
    refine r_iret (by first | rfl | decide) dX11_beam_54 ?_
    obtain rfl := Option.some.inj h
    exact ⟨rfl, rfl, rfl⟩
  · rw [if_neg c] at h
    refine r_aload_n (i := 0) dX11_beam_8 rfl rfl ?_
    refine r_iload_n (i := 2) dX11_beam_9 rfl rfl ?_
    obtain ⟨r2, hr, h⟩ := bind_some h
    refine r_V (d' := 1) k_X11_68 dX11_beam_10 (by omega) rfl rfl rfl (Nat.le_of_ble_eq_true rfl) (Nat.le_of_ble_eq_true rfl) (ok_X11_isParish_67 (Nat.le_refl _) hr) (fun v I' L' hq => ?_)
    obtain ⟨rfl, rfl, rfl⟩ := hq
    simp only [Option.toList_some, Option.toList_none, List.drop_succ_cons, List.drop_zero, List.drop_nil, List.cons_append, List.nil_append]
    refine r_if_eq (tgt := 52) dX11_beam_13 (by decide) (fun c => ?_) (fun c => ?_)
    · rw [if_pos c] at h
      refine r_ldc n_X11_171 dX11_beam_52 ?_
      refine r_iret (by first | rfl | decide) dX11_beam_54 ?_
      obtain rfl := Option.some.inj h
      exact ⟨rfl, rfl, rfl⟩
    · rw [if_neg c] at h
      refine r_iload_n (i := 3) dX11_beam_16 rfl rfl ?_
      obtain ⟨r3, hr, h⟩ := bind_some h
      refine r_S (d' := 1) k_X11_220 dX11_beam_17 (by omega) rfl (Nat.le_of_ble_eq_true rfl) (Nat.le_of_ble_eq_true rfl) (ok_X11_isSheet (Nat.le_refl _) hr) (fun v I' L' hq => ?_)
      obtain ⟨rfl, rfl, rfl⟩ := hq
      simp only [Option.toList_some, Option.toList_none, List.drop_succ_cons, List.drop_zero, List.drop_nil, List.cons_append, List.nil_append]
      refine r_if_eq (tgt := 52) dX11_beam_20 (by decide) (fun c => ?_) (fun c => ?_)
      · rw [if_pos c] at h
        refine r_ldc n_X11_171 dX11_beam_52 ?_
        refine r_iret (by first | rfl | decide) dX11_beam_54 ?_
        obtain rfl := Option.some.inj h
        exact ⟨rfl, rfl, rfl⟩
      · rw [if_neg c] at h
        refine r_iload dX11_beam_23 rfl ?_
        obtain ⟨r4, hr, h⟩ := bind_some h
        refine r_S (d' := 1) k_X11_223 dX11_beam_25 (by omega) rfl (Nat.le_of_ble_eq_true rfl) (Nat.le_of_ble_eq_true rfl) (ok_X11_isLane (Nat.le_refl _) hr) (fun v I' L' hq => ?_)
        obtain ⟨rfl, rfl, rfl⟩ := hq
        simp only [Option.toList_some, Option.toList_none, List.drop_succ_cons, List.drop_zero, List.drop_nil, List.cons_append, List.nil_append]
        refine r_if_eq (tgt := 52) dX11_beam_28 (by decide) (fun c => ?_) (fun c => ?_)
        · rw [if_pos c] at h
          refine r_ldc n_X11_171 dX11_beam_52 ?_
          refine r_iret (by first | rfl | decide) dX11_beam_54 ?_
          obtain rfl := Option.some.inj h
          exact ⟨rfl, rfl, rfl⟩
        · rw [if_neg c] at h
          refine r_iload dX11_beam_31 rfl ?_
          refine r_i2l dX11_beam_33 ?_
          refine r_lconst (v := 0) dX11_beam_34 (by decide) ?_
          refine r_ldc2 n_X11_102 dX11_beam_35 ?_
          obtain ⟨r5, hr, h⟩ := bind_some h
          refine r_S (d' := 0) k_X11_50 dX11_beam_38 (by omega) rfl (Nat.le_of_ble_eq_true rfl) (Nat.le_of_ble_eq_true rfl) (ok_X11_in (Nat.le_refl _) hr) (fun v I' L' hq => ?_)
          obtain ⟨rfl, rfl, rfl⟩ := hq
          simp only [Option.toList_some, Option.toList_none, List.drop_succ_cons, List.drop_zero, List.drop_nil, List.cons_append, List.nil_append]
          refine r_if_eq (tgt := 52) dX11_beam_41 (by decide) (fun c => ?_) (fun c => ?_)
          · rw [if_pos c] at h
            refine r_ldc n_X11_171 dX11_beam_52 ?_
            refine r_iret (by first | rfl | decide) dX11_beam_54 ?_
            obtain rfl := Option.some.inj h
            exact ⟨rfl, rfl, rfl⟩
          · rw [if_neg c] at h
            refine r_iload dX11_beam_44 rfl ?_
            obtain ⟨r6, hr, h⟩ := bind_some h
            refine r_S (d' := 1) k_X11_179 dX11_beam_46 (by omega) rfl (Nat.le_of_ble_eq_true rfl) (Nat.le_of_ble_eq_true rfl) (ok_X11_isTwo (Nat.le_refl _) hr) (fun v I' L' hq => ?_)
            obtain ⟨rfl, rfl, rfl⟩ := hq
            simp only [Option.toList_some, Option.toList_none, List.drop_succ_cons, List.drop_zero, List.drop_nil, List.cons_append, List.nil_append]
            refine r_if_ne (tgt := 55) dX11_beam_49 (by decide) (fun c => ?_) (fun c => ?_)
            · rw [if_neg c] at h
              refine r_aload_n (i := 0) dX11_beam_55 rfl rfl ?_
              refine r_iload_n (i := 3) dX11_beam_56 rfl rfl ?_
              refine r_iload dX11_beam_57 rfl ?_
              refine r_iload dX11_beam_59 rfl ?_
              refine r_iconst (v := 2) dX11_beam_61 (by decide) ?_
              refine r_iload dX11_beam_62 rfl ?_
              refine r_imul dX11_beam_64 ?_
              obtain ⟨r7, hr, h⟩ := bind_some h
              refine r_V (d' := 0) k_X11_226 dX11_beam_65 (by omega) rfl rfl rfl (Nat.le_of_ble_eq_true rfl) (Nat.le_of_ble_eq_true rfl) (ok_X11_finds_67 (Nat.le_refl _) hr) (fun v I' L' hq => ?_)
              obtain ⟨rfl, rfl, rfl⟩ := hq
              simp only [Option.toList_some, Option.toList_none, List.drop_succ_cons, List.drop_zero, List.drop_nil, List.cons_append, List.nil_append]
              refine r_istore dX11_beam_68 (by decide) rfl ?_
              simp only [List.set_cons_zero, List.set_cons_succ]
              refine r_iload dX11_beam_70 rfl ?_
              refine r_if_ge (tgt := 81) dX11_beam_72 (by decide) (fun c => ?_) (fun c => ?_)
              · rw [if_pos c] at h
                refine r_iconst (v := 0) dX11_beam_81 (by decide) ?_
                refine r_istore dX11_beam_82 (by decide) rfl ?_
                simp only [List.set_cons_zero, List.set_cons_succ]
                refine r_iconst (v := 0) dX11_beam_84 (by decide) ?_
                refine r_istore dX11_beam_85 (by decide) rfl ?_
                simp only [List.set_cons_zero, List.set_cons_succ]
                exact RR.wk (ok_X11_beam_67_l87 hd _ _ _ _ _ _ _ _ _ _ h) (And.intro rfl (And.intro rfl (And.intro rfl (And.intro rfl (And.intro rfl (And.intro rfl (And.intro rfl (And.intro rfl (And.intro rfl (trivial))))))))))
              · rw [if_neg c] at h
                refine r_iload dX11_beam_75 rfl ?_
                refine r_ldc n_X11_229 dX11_beam_77 ?_
                refine r_isub dX11_beam_79 ?_
                refine r_iret (by first | rfl | decide) dX11_beam_80 ?_
                obtain rfl := Option.some.inj h
                exact ⟨rfl, rfl, rfl⟩
            · rw [if_pos c] at h
              refine r_ldc n_X11_171 dX11_beam_52 ?_
              refine r_iret (by first | rfl | decide) dX11_beam_54 ?_
              obtain rfl := Option.some.inj h
              exact ⟨rfl, rfl, rfl⟩
def f_X11_layBook_67_b127 (I : mI) (L : mL) (k32 : Int32 → Int32 → Int32 → Int32 → Int32 → Int32 → Int32 → mI → mL → rI) (x1 : Int32) (x2 : Int32) (x3 : Int32) (x4 : Int32) (x5 : Int32) (x6 : Int32) (x7 : Int32) (x8 : Int32) : rI := if x6 = (-4) then (ck (inb x8 4) (if (I 80 x8.toNatClampNeg) = 0 then (lt (x7 + Int32.ofInt 1) (fun v5 => k32 x1 x2 x3 x4 x5 x7 v5 I L)) else (lt (x7 + Int32.ofInt 1) (fun v4 => k32 x1 x2 x3 x4 x5 x6 v4 I L)))) else (lt (x7 + Int32.ofInt 1) (fun v3 => k32 x1 x2 x3 x4 x5 x6 v3 I L))
theorem ok_X11_layBook_67_b127 {d : Nat} (hd : 1 ≤ d){I : mI} {L : mL} {k32 : Int32 → Int32 → Int32 → Int32 → Int32 → Int32 → Int32 → mI → mL → rI} (hk32 : ∀ (x1 : Int32) (x2 : Int32) (x3 : Int32) (x4 : Int32) (x5 : Int32) (x6 : Int32) (x7 : Int32) (I : mI) (L : mL) (o : Int32 × mI × mL), k32 x1 x2 x3 x4 x5 x6 x7 I L = some o → RR mX11_layBook d 32 [some (.ref 67), some (.int x1), some (.int x2), some (.int x3), some (.int x4), some (.int x5), some (.int x6), some (.int x7), none, none, none, none] [] I L (retQ (some (.int o.1)) o.2.1 o.2.2)) (x1 : Int32) (x2 : Int32) (x3 : Int32) (x4 : Int32) (x5 : Int32) (x6 : Int32) (x7 : Int32) (x8 : Int32) {o : Int32 × mI × mL} (h : f_X11_layBook_67_b127 I L k32 x1 x2 x3 x4 x5 x6 x7 x8 = some o) : RR mX11_layBook d 127 [some (.ref 67), some (.int x1), some (.int x2), some (.int x3), some (.int x4), some (.int x5), some (.int x6), some (.int x7), some (.int x8), none, none, none] [] I L (retQ (some (.int o.1)) o.2.1 o.2.2) := by
  unfold f_X11_layBook_67_b127 at h
  refine r_iload dX11_layBook_127 rfl ?_
  refine r_bipush (v := (-4)) dX11_layBook_129 (by decide) ?_
  refine r_icmp_ne (tgt := 149) dX11_layBook_131 (by decide) (fun c => ?_) (fun c => ?_)
  · rw [if_neg c] at h
    refine r_iload dX11_layBook_149 rfl ?_
    refine r_istore dX11_layBook_151 (by decide) rfl ?_
    simp only [List.set_cons_zero, List.set_cons_succ]
    refine r_iinc (v := _) dX11_layBook_153 rfl rfl (by decide) rfl ?_
    simp only [List.set_cons_zero, List.set_cons_succ]
    replace h := lt_some h
    refine r_goto (tgt := 32) dX11_layBook_156 (by decide) ?_
    exact RR.wk (hk32 _ _ _ _ _ _ _ _ _ _ h) (And.intro rfl (And.intro rfl (And.intro rfl (And.intro rfl (And.intro rfl (And.intro rfl (And.intro rfl (And.intro rfl (trivial)))))))))
  · rw [if_pos c] at h
    refine r_aload_n (i := 0) dX11_layBook_134 rfl rfl ?_
    refine r_getR f_X11_47 dX11_layBook_135 rfl rfl ?_
    refine r_iload dX11_layBook_138 rfl ?_
    obtain ⟨hb, h⟩ := ck_some h
    refine r_iald rfl (inb_vp hb) dX11_layBook_140 ?_
    refine r_if_ne (tgt := 149) dX11_layBook_141 (by decide) (fun c => ?_) (fun c => ?_)
    · rw [if_neg c] at h
      refine r_iload dX11_layBook_149 rfl ?_
      refine r_istore dX11_layBook_151 (by decide) rfl ?_
      simp only [List.set_cons_zero, List.set_cons_succ]
      refine r_iinc (v := _) dX11_layBook_153 rfl rfl (by decide) rfl ?_
      simp only [List.set_cons_zero, List.set_cons_succ]
      replace h := lt_some h
      refine r_goto (tgt := 32) dX11_layBook_156 (by decide) ?_
      exact RR.wk (hk32 _ _ _ _ _ _ _ _ _ _ h) (And.intro rfl (And.intro rfl (And.intro rfl (And.intro rfl (And.intro rfl (And.intro rfl (And.intro rfl (And.intro rfl (trivial)))))))))
    · rw [if_pos c] at h
      refine r_iload dX11_layBook_144 rfl ?_
      refine r_goto (tgt := 151) dX11_layBook_146 (by decide) ?_
      refine r_istore dX11_layBook_151 (by decide) rfl ?_
      simp only [List.set_cons_zero, List.set_cons_succ]
      refine r_iinc (v := _) dX11_layBook_153 rfl rfl (by decide) rfl ?_
      simp only [List.set_cons_zero, List.set_cons_succ]
      replace h := lt_some h
      refine r_goto (tgt := 32) dX11_layBook_156 (by decide) ?_
      exact RR.wk (hk32 _ _ _ _ _ _ _ _ _ _ h) (And.intro rfl (And.intro rfl (And.intro rfl (And.intro rfl (And.intro rfl (And.intro rfl (And.intro rfl (And.intro rfl (trivial)))))))))
def f_X11_layBook_67_l65 (k32 : Int32 → Int32 → Int32 → Int32 → Int32 → Int32 → Int32 → mI → mL → rI) : Nat → Int32 → Int32 → Int32 → Int32 → Int32 → Int32 → Int32 → Int32 → Int64 → Int32 → mI → mL → rI
  | 0, _, _, _, _, _, _, _, _, _, _, _, _ => none
  | n + 1, x1, x2, x3, x4, x5, x6, x7, x8, x9, x11, I, L => if 10 ≤ x11 then (f_X11_layBook_67_b127 I L k32 x1 x2 x3 x4 x5 x6 x7 x8) else (if (lg_cmp x9 0) < 0 then (f_X11_layBook_67_b127 I L k32 x1 x2 x3 x4 x5 x6 x7 x8) else (ck (inb x8 4) (ck (inb (6 + x1) 135) ((f_X11_weightBy I L (I 68 (6 + x1).toNatClampNeg) x11 x2).bind (fun r6 => if (lg_cmp (r6.toInt64) x9) = 0 then (ck (inb x8 4) (lt (uI I 80 x8.toNatClampNeg ((I 80 x8.toNatClampNeg) &&& (-1))) (fun M9 => lt (x11 + Int32.ofInt 1) (fun v10 => f_X11_layBook_67_l65 k32 n x1 x2 x3 x4 x5 x6 x7 x8 x9 v10 M9 L)))) else (ck (inb x8 4) (lt (uI I 80 x8.toNatClampNeg ((I 80 x8.toNatClampNeg) &&& (((1 : Int32) <<< (x11 &&& 31)) ^^^ (-1)))) (fun M7 => lt (x11 + Int32.ofInt 1) (fun v8 => f_X11_layBook_67_l65 k32 n x1 x2 x3 x4 x5 x6 x7 x8 x9 v8 M7 L)))))))))
theorem ok_X11_layBook_67_l65 {d : Nat} (hd : 1 ≤ d) {k32 : Int32 → Int32 → Int32 → Int32 → Int32 → Int32 → Int32 → mI → mL → rI} (hk32 : ∀ (x1 : Int32) (x2 : Int32) (x3 : Int32) (x4 : Int32) (x5 : Int32) (x6 : Int32) (x7 : Int32) (I : mI) (L : mL) (o : Int32 × mI × mL), k32 x1 x2 x3 x4 x5 x6 x7 I L = some o → RR mX11_layBook d 32 [some (.ref 67), some (.int x1), some (.int x2), some (.int x3), some (.int x4), some (.int x5), some (.int x6), some (.int x7), none, none, none, none] [] I L (retQ (some (.int o.1)) o.2.1 o.2.2)) : ∀ (n : Nat) (x1 : Int32) (x2 : Int32) (x3 : Int32) (x4 : Int32) (x5 : Int32) (x6 : Int32) (x7 : Int32) (x8 : Int32) (x9 : Int64) (x11 : Int32) (I : mI) (L : mL) (o : Int32 × mI × mL), f_X11_layBook_67_l65 k32 n x1 x2 x3 x4 x5 x6 x7 x8 x9 x11 I L = some o → RR mX11_layBook d 65 [some (.ref 67), some (.int x1), some (.int x2), some (.int x3), some (.int x4), some (.int x5), some (.int x6), some (.int x7), some (.int x8), some (.long x9), none, some (.int x11)] [] I L (retQ (some (.int o.1)) o.2.1 o.2.2) := by
  intro n
  induction n with
  | zero => intro x1 x2 x3 x4 x5 x6 x7 x8 x9 x11 I L o h; rw [f_X11_layBook_67_l65] at h; cases h
  | succ n ih =>
    intro x1 x2 x3 x4 x5 x6 x7 x8 x9 x11 I L o h
    rw [f_X11_layBook_67_l65] at h
    refine r_iload dX11_layBook_65 rfl ?_
    refine r_bipush (v := 10) dX11_layBook_67 (by decide) ?_
    refine r_icmp_ge (tgt := 127) dX11_layBook_69 (by decide) (fun c => ?_) (fun c => ?_)
    · rw [if_pos c] at h
      exact RR.wk (ok_X11_layBook_67_b127 hd hk32 _ _ _ _ _ _ _ _ h) (And.intro rfl (And.intro rfl (And.intro rfl (And.intro rfl (And.intro rfl (And.intro rfl (And.intro rfl (And.intro rfl (And.intro rfl (trivial))))))))))
    · rw [if_neg c] at h
      refine r_lload dX11_layBook_72 rfl ?_
      refine r_lconst (v := 0) dX11_layBook_74 (by decide) ?_
      refine r_lcmp dX11_layBook_75 ?_
      refine r_if_lt (tgt := 127) dX11_layBook_76 (by decide) (fun c => ?_) (fun c => ?_)
      · rw [if_pos c] at h
        exact RR.wk (ok_X11_layBook_67_b127 hd hk32 _ _ _ _ _ _ _ _ h) (And.intro rfl (And.intro rfl (And.intro rfl (And.intro rfl (And.intro rfl (And.intro rfl (And.intro rfl (And.intro rfl (And.intro rfl (trivial))))))))))
      · rw [if_neg c] at h
        refine r_aload_n (i := 0) dX11_layBook_79 rfl rfl ?_
        refine r_getR f_X11_47 dX11_layBook_80 rfl rfl ?_
        refine r_iload dX11_layBook_83 rfl ?_
        refine r_dup2 dX11_layBook_85 rfl rfl ?_
        obtain ⟨hb, h⟩ := ck_some h
        refine r_iald rfl (inb_vp hb) dX11_layBook_86 ?_
        refine r_aload_n (i := 0) dX11_layBook_87 rfl rfl ?_
        refine r_getR f_X11_7 dX11_layBook_88 rfl rfl ?_
        refine r_bipush (v := 6) dX11_layBook_91 (by decide) ?_
        refine r_iload_n (i := 1) dX11_layBook_93 rfl rfl ?_
        refine r_iadd dX11_layBook_94 ?_
        obtain ⟨hb, h⟩ := ck_some h
        refine r_iald rfl (inb_vp hb) dX11_layBook_95 ?_
        refine r_iload dX11_layBook_96 rfl ?_
        refine r_iload_n (i := 2) dX11_layBook_98 rfl rfl ?_
        obtain ⟨r6, hr, h⟩ := bind_some h
        refine r_S (d' := 0) k_X11_58 dX11_layBook_99 (by omega) rfl (Nat.le_of_ble_eq_true rfl) (Nat.le_of_ble_eq_true rfl) (ok_X11_weightBy (Nat.le_refl _) hr) (fun v I' L' hq => ?_)
        obtain ⟨rfl, rfl, rfl⟩ := hq
        simp only [Option.toList_some, Option.toList_none, List.drop_succ_cons, List.drop_zero, List.drop_nil, List.cons_append, List.nil_append]
        refine r_i2l dX11_layBook_102 ?_
        refine r_lload dX11_layBook_103 rfl ?_
        refine r_lcmp dX11_layBook_105 ?_
        refine r_if_ne (tgt := 113) dX11_layBook_106 (by decide) (fun c => ?_) (fun c => ?_)
        · rw [if_neg c] at h
          refine r_iconst (v := 1) dX11_layBook_113 (by decide) ?_
          refine r_iload dX11_layBook_114 rfl ?_
          refine r_ishl dX11_layBook_116 ?_
          refine r_iconst (v := (-1)) dX11_layBook_117 (by decide) ?_
          refine r_ixor dX11_layBook_118 ?_
          refine r_iand dX11_layBook_119 ?_
          obtain ⟨hb, h⟩ := ck_some h
          refine r_iast rfl (inb_vp hb) dX11_layBook_120 ?_
          replace h := lt_some h
          refine r_iinc (v := _) dX11_layBook_121 rfl rfl (by decide) rfl ?_
          simp only [List.set_cons_zero, List.set_cons_succ]
          replace h := lt_some h
          refine r_goto (tgt := 65) dX11_layBook_124 (by decide) ?_
          exact RR.wk (ih _ _ _ _ _ _ _ _ _ _ _ _ _ h) (And.intro rfl (And.intro rfl (And.intro rfl (And.intro rfl (And.intro rfl (And.intro rfl (And.intro rfl (And.intro rfl (And.intro rfl (And.intro rfl (And.intro rfl (trivial))))))))))))
        · rw [if_pos c] at h
          refine r_iconst (v := (-1)) dX11_layBook_109 (by decide) ?_
          refine r_goto (tgt := 119) dX11_layBook_110 (by decide) ?_
          refine r_iand dX11_layBook_119 ?_
          obtain ⟨hb, h⟩ := ck_some h
          refine r_iast rfl (inb_vp hb) dX11_layBook_120 ?_
          replace h := lt_some h
          refine r_iinc (v := _) dX11_layBook_121 rfl rfl (by decide) rfl ?_
          simp only [List.set_cons_zero, List.set_cons_succ]
          replace h := lt_some h
          refine r_goto (tgt := 65) dX11_layBook_124 (by decide) ?_
          exact RR.wk (ih _ _ _ _ _ _ _ _ _ _ _ _ _ h) (And.intro rfl (And.intro rfl (And.intro rfl (And.intro rfl (And.intro rfl (And.intro rfl (And.intro rfl (And.intro rfl (And.intro rfl (And.intro rfl (And.intro rfl (trivial))))))))))))
def f_X11_layBook_67_l32 : Nat → Int32 → Int32 → Int32 → Int32 → Int32 → Int32 → Int32 → mI → mL → rI
  | 0, _, _, _, _, _, _, _, _, _ => none
  | n + 1, x1, x2, x3, x4, x5, x6, x7, I, L => if x5 ≤ x7 then (some (x6, I, L)) else (lt (((x3 + x7) / 13) - ((x3 + x7) / 13) / 4 * 4) (fun v1 => ck (inb (x4 + x7) 96) (lt (L 73 (x4 + x7).toNatClampNeg) (fun v2 => f_X11_layBook_67_l65 (f_X11_layBook_67_l32 n) fuel x1 x2 x3 x4 x5 x6 x7 v1 v2 1 I L))))
theorem ok_X11_layBook_67_l32 {d : Nat} (hd : 1 ≤ d) : ∀ (n : Nat) (x1 : Int32) (x2 : Int32) (x3 : Int32) (x4 : Int32) (x5 : Int32) (x6 : Int32) (x7 : Int32) (I : mI) (L : mL) (o : Int32 × mI × mL), f_X11_layBook_67_l32 n x1 x2 x3 x4 x5 x6 x7 I L = some o → RR mX11_layBook d 32 [some (.ref 67), some (.int x1), some (.int x2), some (.int x3), some (.int x4), some (.int x5), some (.int x6), some (.int x7), none, none, none, none] [] I L (retQ (some (.int o.1)) o.2.1 o.2.2) := by
  intro n
  induction n with
  | zero => intro x1 x2 x3 x4 x5 x6 x7 I L o h; rw [f_X11_layBook_67_l32] at h; cases h
  | succ n ih =>
    intro x1 x2 x3 x4 x5 x6 x7 I L o h
    rw [f_X11_layBook_67_l32] at h
    refine r_iload dX11_layBook_32 rfl ?_
    refine r_iload dX11_layBook_34 rfl ?_
    refine r_icmp_ge (tgt := 159) dX11_layBook_36 (by decide) (fun c => ?_) (fun c => ?_)
    · rw [if_pos c] at h
      refine r_iload dX11_layBook_159 rfl ?_
      refine r_iret (by first | rfl | decide) dX11_layBook_161 ?_
      obtain rfl := Option.some.inj h
      exact ⟨rfl, rfl, rfl⟩
    · rw [if_neg c] at h
      refine r_iload_n (i := 3) dX11_layBook_39 rfl rfl ?_
      refine r_iload dX11_layBook_40 rfl ?_
      refine r_iadd dX11_layBook_42 ?_
      refine r_bipush (v := 13) dX11_layBook_43 (by decide) ?_
      refine r_idiv dX11_layBook_45 (by decide) ?_
      refine r_iconst (v := 4) dX11_layBook_46 (by decide) ?_
      refine r_irem dX11_layBook_47 (by decide) ?_
      refine r_istore dX11_layBook_48 (by decide) rfl ?_
      simp only [List.set_cons_zero, List.set_cons_succ]
      replace h := lt_some h
      refine r_aload_n (i := 0) dX11_layBook_50 rfl rfl ?_
      refine r_getR f_X11_25 dX11_layBook_51 rfl rfl ?_
      refine r_iload dX11_layBook_54 rfl ?_
      refine r_iload dX11_layBook_56 rfl ?_
      refine r_iadd dX11_layBook_58 ?_
      obtain ⟨hb, h⟩ := ck_some h
      refine r_lald rfl (inb_vp hb) dX11_layBook_59 ?_
      refine r_lstore dX11_layBook_60 (by decide) rfl ?_
      simp only [List.set_cons_zero, List.set_cons_succ]
      replace h := lt_some h
      refine r_iconst (v := 1) dX11_layBook_62 (by decide) ?_
      refine r_istore dX11_layBook_63 (by decide) rfl ?_
      simp only [List.set_cons_zero, List.set_cons_succ]
      exact RR.wk (ok_X11_layBook_67_l65 hd ih _ _ _ _ _ _ _ _ _ _ _ _ _ _ h) (And.intro rfl (And.intro rfl (And.intro rfl (And.intro rfl (And.intro rfl (And.intro rfl (And.intro rfl (And.intro rfl (And.intro rfl (And.intro rfl (And.intro rfl (trivial))))))))))))
def f_X11_layBook_67_l3 : Nat → Int32 → Int32 → Int32 → Int32 → Int32 → Int32 → mI → mL → rI
  | 0, _, _, _, _, _, _, _, _ => none
  | n + 1, x1, x2, x3, x4, x5, x6, I, L => if 4 ≤ x6 then (f_X11_layBook_67_l32 fuel x1 x2 x3 x4 x5 (-4) 0 I L) else (ck (inb x6 4) (lt (uI I 80 x6.toNatClampNeg 1022) (fun M11 => lt (x6 + Int32.ofInt 1) (fun v12 => f_X11_layBook_67_l3 n x1 x2 x3 x4 x5 v12 M11 L))))
theorem ok_X11_layBook_67_l3 {d : Nat} (hd : 1 ≤ d) : ∀ (n : Nat) (x1 : Int32) (x2 : Int32) (x3 : Int32) (x4 : Int32) (x5 : Int32) (x6 : Int32) (I : mI) (L : mL) (o : Int32 × mI × mL), f_X11_layBook_67_l3 n x1 x2 x3 x4 x5 x6 I L = some o → RR mX11_layBook d 3 [some (.ref 67), some (.int x1), some (.int x2), some (.int x3), some (.int x4), some (.int x5), some (.int x6), none, none, none, none, none] [] I L (retQ (some (.int o.1)) o.2.1 o.2.2) := by
  intro n
  induction n with
  | zero => intro x1 x2 x3 x4 x5 x6 I L o h; rw [f_X11_layBook_67_l3] at h; cases h
  | succ n ih =>
    intro x1 x2 x3 x4 x5 x6 I L o h
    rw [f_X11_layBook_67_l3] at h
    refine r_iload dX11_layBook_3 rfl ?_
    refine r_iconst (v := 4) dX11_layBook_5 (by decide) ?_
    refine r_icmp_ge (tgt := 25) dX11_layBook_6 (by decide) (fun c => ?_) (fun c => ?_)
    · rw [if_pos c] at h
      refine r_bipush (v := (-4)) dX11_layBook_25 (by decide) ?_
      refine r_istore dX11_layBook_27 (by decide) rfl ?_
      simp only [List.set_cons_zero, List.set_cons_succ]
      refine r_iconst (v := 0) dX11_layBook_29 (by decide) ?_
      refine r_istore dX11_layBook_30 (by decide) rfl ?_
      simp only [List.set_cons_zero, List.set_cons_succ]
      exact RR.wk (ok_X11_layBook_67_l32 hd _ _ _ _ _ _ _ _ _ _ _ h) (And.intro rfl (And.intro rfl (And.intro rfl (And.intro rfl (And.intro rfl (And.intro rfl (And.intro rfl (And.intro rfl (trivial)))))))))
    · rw [if_neg c] at h
      refine r_aload_n (i := 0) dX11_layBook_9 rfl rfl ?_
      refine r_getR f_X11_47 dX11_layBook_10 rfl rfl ?_
      refine r_iload dX11_layBook_13 rfl ?_
      refine r_sipush (v := 1022) dX11_layBook_15 (by decide) ?_
      obtain ⟨hb, h⟩ := ck_some h
      refine r_iast rfl (inb_vp hb) dX11_layBook_18 ?_
      replace h := lt_some h
      refine r_iinc (v := _) dX11_layBook_19 rfl rfl (by decide) rfl ?_
      simp only [List.set_cons_zero, List.set_cons_succ]
      replace h := lt_some h
      refine r_goto (tgt := 3) dX11_layBook_22 (by decide) ?_
      exact RR.wk (ih _ _ _ _ _ _ _ _ _ h) (And.intro rfl (And.intro rfl (And.intro rfl (And.intro rfl (And.intro rfl (And.intro rfl (And.intro rfl (trivial))))))))
def f_X11_layBook_67 (I : mI) (L : mL) (a1 : Int32) (a2 : Int32) (a3 : Int32) (a4 : Int32) (a5 : Int32) : rI := f_X11_layBook_67_l3 fuel a1 a2 a3 a4 a5 0 I L
theorem ok_X11_layBook_67 {d : Nat} (hd : 1 ≤ d) {I : mI} {L : mL} {a1 : Int32} {a2 : Int32} {a3 : Int32} {a4 : Int32} {a5 : Int32} {o : Int32 × mI × mL} (h : f_X11_layBook_67 I L a1 a2 a3 a4 a5 = some o) : RR mX11_layBook d 0 [some (.ref 67), some (.int a1), some (.int a2), some (.int a3), some (.int a4), some (.int a5), none, none, none, none, none, none] [] I L (retQ (some (.int o.1)) o.2.1 o.2.2) := by
  unfold f_X11_layBook_67 at h
  refine r_iconst (v := 0) dX11_layBook_0 (by decide) ?_
  refine r_istore dX11_layBook_1 (by decide) rfl ?_
  simp only [List.set_cons_zero, List.set_cons_succ]
  exact RR.wk (ok_X11_layBook_67_l3 hd _ _ _ _ _ _ _ _ _ _ h) (And.intro rfl (And.intro rfl (And.intro rfl (And.intro rfl (And.intro rfl (And.intro rfl (And.intro rfl (trivial))))))))
