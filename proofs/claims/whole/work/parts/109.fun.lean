def f_X11_layWays_67_l137 (k117 : Int32 → Int32 → mI → mL → rV) (k127 : Int32 → Int32 → Int32 → mI → mL → rV) : Nat → Int32 → Int32 → Int32 → Int32 → mI → mL → rV
  | 0, _, _, _, _, _, _ => none
  | n + 1, x4, x5, x6, x7, I, L => if x4 ≤ x7 then (lt (x6 + Int32.ofInt 1) (fun v3 => k127 x4 x5 v3 I L)) else (ck (inb ((8 * x6) + x5) 64) (ck (inb ((8 * x5) + x7) 64) (lt ((I 75 ((8 * x6) + x5).toNatClampNeg) + (I 75 ((8 * x5) + x7).toNatClampNeg)) (fun v4 => ck (inb ((8 * x6) + x7) 64) (if (I 75 ((8 * x6) + x7).toNatClampNeg) ≤ v4 then (ck (inb ((8 * x6) + x7) 64) (ck (inb ((8 * x6) + x7) 64) (lt (uI I 75 ((8 * x6) + x7).toNatClampNeg (I 75 ((8 * x6) + x7).toNatClampNeg)) (fun M5 => lt (x7 + Int32.ofInt 1) (fun v6 => f_X11_layWays_67_l137 k117 k127 n x4 x5 x6 v6 M5 L))))) else (ck (inb ((8 * x6) + x7) 64) (lt (uI I 75 ((8 * x6) + x7).toNatClampNeg v4) (fun M7 => lt (x7 + Int32.ofInt 1) (fun v8 => f_X11_layWays_67_l137 k117 k127 n x4 x5 x6 v8 M7 L)))))))))
theorem ok_X11_layWays_67_l137 {d : Nat} (hd : 3 ≤ d) {k117 : Int32 → Int32 → mI → mL → rV} {k127 : Int32 → Int32 → Int32 → mI → mL → rV} (hk117 : ∀ (x4 : Int32) (x5 : Int32) (I : mI) (L : mL) (o : mI × mL), k117 x4 x5 I L = some o → RR mX11_layWays d 117 [some (.ref 67), none, none, none, some (.int x4), some (.int x5), none, none, none] [] I L (retQ none o.1 o.2)) (hk127 : ∀ (x4 : Int32) (x5 : Int32) (x6 : Int32) (I : mI) (L : mL) (o : mI × mL), k127 x4 x5 x6 I L = some o → RR mX11_layWays d 127 [some (.ref 67), none, none, none, some (.int x4), some (.int x5), some (.int x6), none, none] [] I L (retQ none o.1 o.2)) : ∀ (n : Nat) (x4 : Int32) (x5 : Int32) (x6 : Int32) (x7 : Int32) (I : mI) (L : mL) (o : mI × mL), f_X11_layWays_67_l137 k117 k127 n x4 x5 x6 x7 I L = some o → RR mX11_layWays d 137 [some (.ref 67), none, none, none, some (.int x4), some (.int x5), some (.int x6), some (.int x7), none] [] I L (retQ none o.1 o.2) := by
  intro n
  induction n with
  | zero => intro x4 x5 x6 x7 I L o h; rw [f_X11_layWays_67_l137] at h; cases h
  | succ n ih =>
    intro x4 x5 x6 x7 I L o h
    rw [f_X11_layWays_67_l137] at h
    refine r_iload dX11_layWays_137 rfl ?_
    refine r_iload dX11_layWays_139 rfl ?_
    refine r_icmp_ge (tgt := 228) dX11_layWays_141 (by decide) (fun c => ?_) (fun c => ?_)
    · rw [if_pos c] at h
      refine r_iinc (v := _) dX11_layWays_228 rfl rfl (by decide) rfl ?_
      simp only [List.set_cons_zero, List.set_cons_succ]
      replace h := lt_some h
      refine r_goto (tgt := 127) dX11_layWays_231 (by decide) ?_
      exact RR.wk (hk127 _ _ _ _ _ _ h) (And.intro rfl (And.intro rfl (And.intro rfl (And.intro rfl (trivial)))))
    · rw [if_neg c] at h
      refine r_aload_n (i := 0) dX11_layWays_144 rfl rfl ?_
      refine r_getR f_X11_32 dX11_layWays_145 rfl rfl ?_
      refine r_bipush (v := 8) dX11_layWays_148 (by decide) ?_
      refine r_iload dX11_layWays_150 rfl ?_
      refine r_imul dX11_layWays_152 ?_
      refine r_iload dX11_layWays_153 rfl ?_
      refine r_iadd dX11_layWays_155 ?_
      obtain ⟨hb, h⟩ := ck_some h
      refine r_iald rfl (inb_vp hb) dX11_layWays_156 ?_
      refine r_aload_n (i := 0) dX11_layWays_157 rfl rfl ?_
      refine r_getR f_X11_32 dX11_layWays_158 rfl rfl ?_
      refine r_bipush (v := 8) dX11_layWays_161 (by decide) ?_
      refine r_iload dX11_layWays_163 rfl ?_
      refine r_imul dX11_layWays_165 ?_
      refine r_iload dX11_layWays_166 rfl ?_
      refine r_iadd dX11_layWays_168 ?_
      obtain ⟨hb, h⟩ := ck_some h
      refine r_iald rfl (inb_vp hb) dX11_layWays_169 ?_
      refine r_iadd dX11_layWays_170 ?_
      refine r_istore dX11_layWays_171 (by decide) rfl ?_
      simp only [List.set_cons_zero, List.set_cons_succ]
      replace h := lt_some h
      refine r_aload_n (i := 0) dX11_layWays_173 rfl rfl ?_
      refine r_getR f_X11_32 dX11_layWays_174 rfl rfl ?_
      refine r_bipush (v := 8) dX11_layWays_177 (by decide) ?_
      refine r_iload dX11_layWays_179 rfl ?_
      refine r_imul dX11_layWays_181 ?_
      refine r_iload dX11_layWays_182 rfl ?_
      refine r_iadd dX11_layWays_184 ?_
      refine r_iload dX11_layWays_185 rfl ?_
      refine r_aload_n (i := 0) dX11_layWays_187 rfl rfl ?_
      refine r_getR f_X11_32 dX11_layWays_188 rfl rfl ?_
      refine r_bipush (v := 8) dX11_layWays_191 (by decide) ?_
      refine r_iload dX11_layWays_193 rfl ?_
      refine r_imul dX11_layWays_195 ?_
      refine r_iload dX11_layWays_196 rfl ?_
      refine r_iadd dX11_layWays_198 ?_
      obtain ⟨hb, h⟩ := ck_some h
      refine r_iald rfl (inb_vp hb) dX11_layWays_199 ?_
      refine r_icmp_ge (tgt := 208) dX11_layWays_200 (by decide) (fun c => ?_) (fun c => ?_)
      · rw [if_pos c] at h
        refine r_aload_n (i := 0) dX11_layWays_208 rfl rfl ?_
        refine r_getR f_X11_32 dX11_layWays_209 rfl rfl ?_
        refine r_bipush (v := 8) dX11_layWays_212 (by decide) ?_
        refine r_iload dX11_layWays_214 rfl ?_
        refine r_imul dX11_layWays_216 ?_
        refine r_iload dX11_layWays_217 rfl ?_
        refine r_iadd dX11_layWays_219 ?_
        obtain ⟨hb, h⟩ := ck_some h
        refine r_iald rfl (inb_vp hb) dX11_layWays_220 ?_
        obtain ⟨hb, h⟩ := ck_some h
        refine r_iast rfl (inb_vp hb) dX11_layWays_221 ?_
        replace h := lt_some h
        refine r_iinc (v := _) dX11_layWays_222 rfl rfl (by decide) rfl ?_
        simp only [List.set_cons_zero, List.set_cons_succ]
        replace h := lt_some h
        refine r_goto (tgt := 137) dX11_layWays_225 (by decide) ?_
        exact RR.wk (ih _ _ _ _ _ _ _ h) (And.intro rfl (And.intro rfl (And.intro rfl (And.intro rfl (And.intro rfl (trivial))))))
      · rw [if_neg c] at h
        refine r_iload dX11_layWays_203 rfl ?_
        refine r_goto (tgt := 221) dX11_layWays_205 (by decide) ?_
        obtain ⟨hb, h⟩ := ck_some h
        refine r_iast rfl (inb_vp hb) dX11_layWays_221 ?_
        replace h := lt_some h
        refine r_iinc (v := _) dX11_layWays_222 rfl rfl (by decide) rfl ?_
        simp only [List.set_cons_zero, List.set_cons_succ]
        replace h := lt_some h
        refine r_goto (tgt := 137) dX11_layWays_225 (by decide) ?_
        exact RR.wk (ih _ _ _ _ _ _ _ h) (And.intro rfl (And.intro rfl (And.intro rfl (And.intro rfl (And.intro rfl (trivial))))))
def f_X11_layWays_67_l127 (k117 : Int32 → Int32 → mI → mL → rV) : Nat → Int32 → Int32 → Int32 → mI → mL → rV
  | 0, _, _, _, _, _ => none
  | n + 1, x4, x5, x6, I, L => if x4 ≤ x6 then (lt (x5 + Int32.ofInt 1) (fun v2 => k117 x4 v2 I L)) else (f_X11_layWays_67_l137 k117 (f_X11_layWays_67_l127 k117 n) fuel x4 x5 x6 0 I L)
theorem ok_X11_layWays_67_l127 {d : Nat} (hd : 3 ≤ d) {k117 : Int32 → Int32 → mI → mL → rV} (hk117 : ∀ (x4 : Int32) (x5 : Int32) (I : mI) (L : mL) (o : mI × mL), k117 x4 x5 I L = some o → RR mX11_layWays d 117 [some (.ref 67), none, none, none, some (.int x4), some (.int x5), none, none, none] [] I L (retQ none o.1 o.2)) : ∀ (n : Nat) (x4 : Int32) (x5 : Int32) (x6 : Int32) (I : mI) (L : mL) (o : mI × mL), f_X11_layWays_67_l127 k117 n x4 x5 x6 I L = some o → RR mX11_layWays d 127 [some (.ref 67), none, none, none, some (.int x4), some (.int x5), some (.int x6), none, none] [] I L (retQ none o.1 o.2) := by
  intro n
  induction n with
  | zero => intro x4 x5 x6 I L o h; rw [f_X11_layWays_67_l127] at h; cases h
  | succ n ih =>
    intro x4 x5 x6 I L o h
    rw [f_X11_layWays_67_l127] at h
    refine r_iload dX11_layWays_127 rfl ?_
    refine r_iload dX11_layWays_129 rfl ?_
    refine r_icmp_ge (tgt := 234) dX11_layWays_131 (by decide) (fun c => ?_) (fun c => ?_)
    · rw [if_pos c] at h
      refine r_iinc (v := _) dX11_layWays_234 rfl rfl (by decide) rfl ?_
      simp only [List.set_cons_zero, List.set_cons_succ]
      replace h := lt_some h
      refine r_goto (tgt := 117) dX11_layWays_237 (by decide) ?_
      exact RR.wk (hk117 _ _ _ _ _ h) (And.intro rfl (And.intro rfl (And.intro rfl (trivial))))
    · rw [if_neg c] at h
      refine r_iconst (v := 0) dX11_layWays_134 (by decide) ?_
      refine r_istore dX11_layWays_135 (by decide) rfl ?_
      simp only [List.set_cons_zero, List.set_cons_succ]
      exact RR.wk (ok_X11_layWays_67_l137 hd hk117 ih _ _ _ _ _ _ _ _ h) (And.intro rfl (And.intro rfl (And.intro rfl (And.intro rfl (And.intro rfl (trivial))))))
def f_X11_layWays_67_l117 : Nat → Int32 → Int32 → mI → mL → rV
  | 0, _, _, _, _ => none
  | n + 1, x4, x5, I, L => if x4 ≤ x5 then (some (I, L)) else (f_X11_layWays_67_l127 (f_X11_layWays_67_l117 n) fuel x4 x5 0 I L)
theorem ok_X11_layWays_67_l117 {d : Nat} (hd : 3 ≤ d) : ∀ (n : Nat) (x4 : Int32) (x5 : Int32) (I : mI) (L : mL) (o : mI × mL), f_X11_layWays_67_l117 n x4 x5 I L = some o → RR mX11_layWays d 117 [some (.ref 67), none, none, none, some (.int x4), some (.int x5), none, none, none] [] I L (retQ none o.1 o.2) := by
  intro n
  induction n with
  | zero => intro x4 x5 I L o h; rw [f_X11_layWays_67_l117] at h; cases h
  | succ n ih =>
    intro x4 x5 I L o h
    rw [f_X11_layWays_67_l117] at h
    refine r_iload dX11_layWays_117 rfl ?_
    refine r_iload dX11_layWays_119 rfl ?_
    refine r_icmp_ge (tgt := 240) dX11_layWays_121 (by decide) (fun c => ?_) (fun c => ?_)
    · rw [if_pos c] at h
      refine r_vret dX11_layWays_240 ?_
      obtain rfl := Option.some.inj h
      exact ⟨rfl, rfl, rfl⟩
    · rw [if_neg c] at h
      refine r_iconst (v := 0) dX11_layWays_124 (by decide) ?_
      refine r_istore dX11_layWays_125 (by decide) rfl ?_
      simp only [List.set_cons_zero, List.set_cons_succ]
      exact RR.wk (ok_X11_layWays_67_l127 hd ih _ _ _ _ _ _ _ h) (And.intro rfl (And.intro rfl (And.intro rfl (And.intro rfl (trivial)))))
def f_X11_layWays_67_b55 (I : mI) (L : mL) (k11 : Int32 → Int32 → Int32 → Int32 → Int32 → mI → mL → rV) (k21 : Int32 → Int32 → Int32 → Int32 → Int32 → Int32 → mI → mL → rV) (x1 : Int32) (x2 : Int32) (x3 : Int32) (x4 : Int32) (x5 : Int32) (x6 : Int32) (s0 : Int32) : rV := if s0 = 0 then (ck (inb ((8 * x5) + x6) 64) (lt (uI I 75 ((8 * x5) + x6).toNatClampNeg 100000000) (fun M16 => lt (x6 + Int32.ofInt 1) (fun v17 => k21 x1 x2 x3 x4 x5 v17 M16 L)))) else (if x5 = x6 then (ck (inb ((8 * x5) + x6) 64) (lt (uI I 75 ((8 * x5) + x6).toNatClampNeg 0) (fun M14 => lt (x6 + Int32.ofInt 1) (fun v15 => k21 x1 x2 x3 x4 x5 v15 M14 L)))) else ((f_X11_costOf_67 I L x1 x2 x3 x5 x6).bind (fun r11 => ck (inb ((8 * x5) + x6) 64) (lt (uI I 75 ((8 * x5) + x6).toNatClampNeg r11) (fun M12 => lt (x6 + Int32.ofInt 1) (fun v13 => k21 x1 x2 x3 x4 x5 v13 M12 L))))))
theorem ok_X11_layWays_67_b55 {d : Nat} (hd : 3 ≤ d){I : mI} {L : mL} {k11 : Int32 → Int32 → Int32 → Int32 → Int32 → mI → mL → rV} {k21 : Int32 → Int32 → Int32 → Int32 → Int32 → Int32 → mI → mL → rV} (hk11 : ∀ (x1 : Int32) (x2 : Int32) (x3 : Int32) (x4 : Int32) (x5 : Int32) (I : mI) (L : mL) (o : mI × mL), k11 x1 x2 x3 x4 x5 I L = some o → RR mX11_layWays d 11 [some (.ref 67), some (.int x1), some (.int x2), some (.int x3), some (.int x4), some (.int x5), none, none, none] [] I L (retQ none o.1 o.2)) (hk21 : ∀ (x1 : Int32) (x2 : Int32) (x3 : Int32) (x4 : Int32) (x5 : Int32) (x6 : Int32) (I : mI) (L : mL) (o : mI × mL), k21 x1 x2 x3 x4 x5 x6 I L = some o → RR mX11_layWays d 21 [some (.ref 67), some (.int x1), some (.int x2), some (.int x3), some (.int x4), some (.int x5), some (.int x6), none, none] [] I L (retQ none o.1 o.2)) (x1 : Int32) (x2 : Int32) (x3 : Int32) (x4 : Int32) (x5 : Int32) (x6 : Int32) (s0 : Int32) {o : mI × mL} (h : f_X11_layWays_67_b55 I L k11 k21 x1 x2 x3 x4 x5 x6 s0 = some o) : RR mX11_layWays d 55 [some (.ref 67), some (.int x1), some (.int x2), some (.int x3), some (.int x4), some (.int x5), some (.int x6), none, none] [.int s0] I L (retQ none o.1 o.2) := by
  unfold f_X11_layWays_67_b55 at h
  refine r_istore dX11_layWays_55 (by decide) rfl ?_
  simp only [List.set_cons_zero, List.set_cons_succ]
  refine r_aload_n (i := 0) dX11_layWays_57 rfl rfl ?_
  refine r_getR f_X11_32 dX11_layWays_58 rfl rfl ?_
  refine r_bipush (v := 8) dX11_layWays_61 (by decide) ?_
  refine r_iload dX11_layWays_63 rfl ?_
  refine r_imul dX11_layWays_65 ?_
  refine r_iload dX11_layWays_66 rfl ?_
  refine r_iadd dX11_layWays_68 ?_
  refine r_iload dX11_layWays_69 rfl ?_
  refine r_if_ne (tgt := 79) dX11_layWays_71 (by decide) (fun c => ?_) (fun c => ?_)
  · rw [if_neg c] at h
    refine r_iload dX11_layWays_79 rfl ?_
    refine r_iload dX11_layWays_81 rfl ?_
    refine r_icmp_ne (tgt := 90) dX11_layWays_83 (by decide) (fun c => ?_) (fun c => ?_)
    · rw [if_neg c] at h
      refine r_aload_n (i := 0) dX11_layWays_90 rfl rfl ?_
      refine r_iload_n (i := 1) dX11_layWays_91 rfl rfl ?_
      refine r_iload_n (i := 2) dX11_layWays_92 rfl rfl ?_
      refine r_iload_n (i := 3) dX11_layWays_93 rfl rfl ?_
      refine r_iload dX11_layWays_94 rfl ?_
      refine r_iload dX11_layWays_96 rfl ?_
      obtain ⟨r11, hr, h⟩ := bind_some h
      refine r_V (d' := 2) k_X11_156 dX11_layWays_98 (by omega) rfl rfl rfl (Nat.le_of_ble_eq_true rfl) (Nat.le_of_ble_eq_true rfl) (ok_X11_costOf_67 (Nat.le_refl _) hr) (fun v I' L' hq => ?_)
      obtain ⟨rfl, rfl, rfl⟩ := hq
      simp only [Option.toList_some, Option.toList_none, List.drop_succ_cons, List.drop_zero, List.drop_nil, List.cons_append, List.nil_append]
      obtain ⟨hb, h⟩ := ck_some h
      refine r_iast rfl (inb_vp hb) dX11_layWays_101 ?_
      replace h := lt_some h
      refine r_iinc (v := _) dX11_layWays_102 rfl rfl (by decide) rfl ?_
      simp only [List.set_cons_zero, List.set_cons_succ]
      replace h := lt_some h
      refine r_goto (tgt := 21) dX11_layWays_105 (by decide) ?_
      exact RR.wk (hk21 _ _ _ _ _ _ _ _ _ h) (And.intro rfl (And.intro rfl (And.intro rfl (And.intro rfl (And.intro rfl (And.intro rfl (And.intro rfl (trivial))))))))
    · rw [if_pos c] at h
      refine r_iconst (v := 0) dX11_layWays_86 (by decide) ?_
      refine r_goto (tgt := 101) dX11_layWays_87 (by decide) ?_
      obtain ⟨hb, h⟩ := ck_some h
      refine r_iast rfl (inb_vp hb) dX11_layWays_101 ?_
      replace h := lt_some h
      refine r_iinc (v := _) dX11_layWays_102 rfl rfl (by decide) rfl ?_
      simp only [List.set_cons_zero, List.set_cons_succ]
      replace h := lt_some h
      refine r_goto (tgt := 21) dX11_layWays_105 (by decide) ?_
      exact RR.wk (hk21 _ _ _ _ _ _ _ _ _ h) (And.intro rfl (And.intro rfl (And.intro rfl (And.intro rfl (And.intro rfl (And.intro rfl (And.intro rfl (trivial))))))))
  · rw [if_pos c] at h
    refine r_ldc n_X11_151 dX11_layWays_74 ?_
    refine r_goto (tgt := 101) dX11_layWays_76 (by decide) ?_
    obtain ⟨hb, h⟩ := ck_some h
    refine r_iast rfl (inb_vp hb) dX11_layWays_101 ?_
    replace h := lt_some h
    refine r_iinc (v := _) dX11_layWays_102 rfl rfl (by decide) rfl ?_
    simp only [List.set_cons_zero, List.set_cons_succ]
    replace h := lt_some h
    refine r_goto (tgt := 21) dX11_layWays_105 (by decide) ?_
    exact RR.wk (hk21 _ _ _ _ _ _ _ _ _ h) (And.intro rfl (And.intro rfl (And.intro rfl (And.intro rfl (And.intro rfl (And.intro rfl (And.intro rfl (trivial))))))))
def f_X11_layWays_67_b54 (I : mI) (L : mL) (k11 : Int32 → Int32 → Int32 → Int32 → Int32 → mI → mL → rV) (k21 : Int32 → Int32 → Int32 → Int32 → Int32 → Int32 → mI → mL → rV) (x1 : Int32) (x2 : Int32) (x3 : Int32) (x4 : Int32) (x5 : Int32) (x6 : Int32) : rV := f_X11_layWays_67_b55 I L k11 k21 x1 x2 x3 x4 x5 x6 0
theorem ok_X11_layWays_67_b54 {d : Nat} (hd : 3 ≤ d){I : mI} {L : mL} {k11 : Int32 → Int32 → Int32 → Int32 → Int32 → mI → mL → rV} {k21 : Int32 → Int32 → Int32 → Int32 → Int32 → Int32 → mI → mL → rV} (hk11 : ∀ (x1 : Int32) (x2 : Int32) (x3 : Int32) (x4 : Int32) (x5 : Int32) (I : mI) (L : mL) (o : mI × mL), k11 x1 x2 x3 x4 x5 I L = some o → RR mX11_layWays d 11 [some (.ref 67), some (.int x1), some (.int x2), some (.int x3), some (.int x4), some (.int x5), none, none, none] [] I L (retQ none o.1 o.2)) (hk21 : ∀ (x1 : Int32) (x2 : Int32) (x3 : Int32) (x4 : Int32) (x5 : Int32) (x6 : Int32) (I : mI) (L : mL) (o : mI × mL), k21 x1 x2 x3 x4 x5 x6 I L = some o → RR mX11_layWays d 21 [some (.ref 67), some (.int x1), some (.int x2), some (.int x3), some (.int x4), some (.int x5), some (.int x6), none, none] [] I L (retQ none o.1 o.2)) (x1 : Int32) (x2 : Int32) (x3 : Int32) (x4 : Int32) (x5 : Int32) (x6 : Int32) {o : mI × mL} (h : f_X11_layWays_67_b54 I L k11 k21 x1 x2 x3 x4 x5 x6 = some o) : RR mX11_layWays d 54 [some (.ref 67), some (.int x1), some (.int x2), some (.int x3), some (.int x4), some (.int x5), some (.int x6), none, none] [] I L (retQ none o.1 o.2) := by
  unfold f_X11_layWays_67_b54 at h
  refine r_iconst (v := 0) dX11_layWays_54 (by decide) ?_
  exact RR.wk (ok_X11_layWays_67_b55 hd hk11 hk21 _ _ _ _ _ _ _ h) (And.intro rfl (And.intro rfl (And.intro rfl (And.intro rfl (And.intro rfl (And.intro rfl (And.intro rfl (trivial))))))))
def f_X11_layWays_67_l21 (k11 : Int32 → Int32 → Int32 → Int32 → Int32 → mI → mL → rV) : Nat → Int32 → Int32 → Int32 → Int32 → Int32 → Int32 → mI → mL → rV
  | 0, _, _, _, _, _, _, _, _ => none
  | n + 1, x1, x2, x3, x4, x5, x6, I, L => if x4 ≤ x6 then (lt (x5 + Int32.ofInt 1) (fun v9 => k11 x1 x2 x3 x4 v9 I L)) else ((f_X11_bears_67 I L x1 x2 x5).bind (fun r10 => if r10 = 0 then (f_X11_layWays_67_b54 I L k11 (f_X11_layWays_67_l21 k11 n) x1 x2 x3 x4 x5 x6) else ((f_X11_bears_67 I L x1 x2 x6).bind (fun r18 => if r18 = 0 then (f_X11_layWays_67_b54 I L k11 (f_X11_layWays_67_l21 k11 n) x1 x2 x3 x4 x5 x6) else (f_X11_layWays_67_b55 I L k11 (f_X11_layWays_67_l21 k11 n) x1 x2 x3 x4 x5 x6 1)))))
theorem ok_X11_layWays_67_l21 {d : Nat} (hd : 3 ≤ d) {k11 : Int32 → Int32 → Int32 → Int32 → Int32 → mI → mL → rV} (hk11 : ∀ (x1 : Int32) (x2 : Int32) (x3 : Int32) (x4 : Int32) (x5 : Int32) (I : mI) (L : mL) (o : mI × mL), k11 x1 x2 x3 x4 x5 I L = some o → RR mX11_layWays d 11 [some (.ref 67), some (.int x1), some (.int x2), some (.int x3), some (.int x4), some (.int x5), none, none, none] [] I L (retQ none o.1 o.2)) : ∀ (n : Nat) (x1 : Int32) (x2 : Int32) (x3 : Int32) (x4 : Int32) (x5 : Int32) (x6 : Int32) (I : mI) (L : mL) (o : mI × mL), f_X11_layWays_67_l21 k11 n x1 x2 x3 x4 x5 x6 I L = some o → RR mX11_layWays d 21 [some (.ref 67), some (.int x1), some (.int x2), some (.int x3), some (.int x4), some (.int x5), some (.int x6), none, none] [] I L (retQ none o.1 o.2) := by
  intro n
  induction n with
  | zero => intro x1 x2 x3 x4 x5 x6 I L o h; rw [f_X11_layWays_67_l21] at h; cases h
  | succ n ih =>
    intro x1 x2 x3 x4 x5 x6 I L o h
    rw [f_X11_layWays_67_l21] at h
    refine r_iload dX11_layWays_21 rfl ?_
    refine r_iload dX11_layWays_23 rfl ?_
    refine r_icmp_ge (tgt := 108) dX11_layWays_25 (by decide) (fun c => ?_) (fun c => ?_)
    · rw [if_pos c] at h
      refine r_iinc (v := _) dX11_layWays_108 rfl rfl (by decide) rfl ?_
      simp only [List.set_cons_zero, List.set_cons_succ]
      replace h := lt_some h
      refine r_goto (tgt := 11) dX11_layWays_111 (by decide) ?_
      exact RR.wk (hk11 _ _ _ _ _ _ _ _ h) (And.intro rfl (And.intro rfl (And.intro rfl (And.intro rfl (And.intro rfl (And.intro rfl (trivial)))))))
    · rw [if_neg c] at h
      refine r_aload_n (i := 0) dX11_layWays_28 rfl rfl ?_
      refine r_iload_n (i := 1) dX11_layWays_29 rfl rfl ?_
      refine r_iload_n (i := 2) dX11_layWays_30 rfl rfl ?_
      refine r_iload dX11_layWays_31 rfl ?_
      obtain ⟨r10, hr, h⟩ := bind_some h
      refine r_V (d' := 2) k_X11_152 dX11_layWays_33 (by omega) rfl rfl rfl (Nat.le_of_ble_eq_true rfl) (Nat.le_of_ble_eq_true rfl) (ok_X11_bears_67 (Nat.le_refl _) hr) (fun v I' L' hq => ?_)
      obtain ⟨rfl, rfl, rfl⟩ := hq
      simp only [Option.toList_some, Option.toList_none, List.drop_succ_cons, List.drop_zero, List.drop_nil, List.cons_append, List.nil_append]
      refine r_if_eq (tgt := 54) dX11_layWays_36 (by decide) (fun c => ?_) (fun c => ?_)
      · rw [if_pos c] at h
        exact RR.wk (ok_X11_layWays_67_b54 hd hk11 ih _ _ _ _ _ _ h) (And.intro rfl (And.intro rfl (And.intro rfl (And.intro rfl (And.intro rfl (And.intro rfl (And.intro rfl (trivial))))))))
      · rw [if_neg c] at h
        refine r_aload_n (i := 0) dX11_layWays_39 rfl rfl ?_
        refine r_iload_n (i := 1) dX11_layWays_40 rfl rfl ?_
        refine r_iload_n (i := 2) dX11_layWays_41 rfl rfl ?_
        refine r_iload dX11_layWays_42 rfl ?_
        obtain ⟨r18, hr, h⟩ := bind_some h
        refine r_V (d' := 2) k_X11_152 dX11_layWays_44 (by omega) rfl rfl rfl (Nat.le_of_ble_eq_true rfl) (Nat.le_of_ble_eq_true rfl) (ok_X11_bears_67 (Nat.le_refl _) hr) (fun v I' L' hq => ?_)
        obtain ⟨rfl, rfl, rfl⟩ := hq
        simp only [Option.toList_some, Option.toList_none, List.drop_succ_cons, List.drop_zero, List.drop_nil, List.cons_append, List.nil_append]
        refine r_if_eq (tgt := 54) dX11_layWays_47 (by decide) (fun c => ?_) (fun c => ?_)
        · rw [if_pos c] at h
          exact RR.wk (ok_X11_layWays_67_b54 hd hk11 ih _ _ _ _ _ _ h) (And.intro rfl (And.intro rfl (And.intro rfl (And.intro rfl (And.intro rfl (And.intro rfl (And.intro rfl (trivial))))))))
        · rw [if_neg c] at h
          refine r_iconst (v := 1) dX11_layWays_50 (by decide) ?_
          refine r_goto (tgt := 55) dX11_layWays_51 (by decide) ?_
          exact RR.wk (ok_X11_layWays_67_b55 hd hk11 ih _ _ _ _ _ _ _ h) (And.intro rfl (And.intro rfl (And.intro rfl (And.intro rfl (And.intro rfl (And.intro rfl (And.intro rfl (trivial))))))))
def f_X11_layWays_67_l11 : Nat → Int32 → Int32 → Int32 → Int32 → Int32 → mI → mL → rV
  | 0, _, _, _, _, _, _, _ => none
  | n + 1, x1, x2, x3, x4, x5, I, L => if x4 ≤ x5 then (f_X11_layWays_67_l117 fuel x4 0 I L) else (f_X11_layWays_67_l21 (f_X11_layWays_67_l11 n) fuel x1 x2 x3 x4 x5 0 I L)
theorem ok_X11_layWays_67_l11 {d : Nat} (hd : 3 ≤ d) : ∀ (n : Nat) (x1 : Int32) (x2 : Int32) (x3 : Int32) (x4 : Int32) (x5 : Int32) (I : mI) (L : mL) (o : mI × mL), f_X11_layWays_67_l11 n x1 x2 x3 x4 x5 I L = some o → RR mX11_layWays d 11 [some (.ref 67), some (.int x1), some (.int x2), some (.int x3), some (.int x4), some (.int x5), none, none, none] [] I L (retQ none o.1 o.2) := by
  intro n
  induction n with
  | zero => intro x1 x2 x3 x4 x5 I L o h; rw [f_X11_layWays_67_l11] at h; cases h
  | succ n ih =>
    intro x1 x2 x3 x4 x5 I L o h
    rw [f_X11_layWays_67_l11] at h
    refine r_iload dX11_layWays_11 rfl ?_
    refine r_iload dX11_layWays_13 rfl ?_
    refine r_icmp_ge (tgt := 114) dX11_layWays_15 (by decide) (fun c => ?_) (fun c => ?_)
    · rw [if_pos c] at h
      refine r_iconst (v := 0) dX11_layWays_114 (by decide) ?_
      refine r_istore dX11_layWays_115 (by decide) rfl ?_
      simp only [List.set_cons_zero, List.set_cons_succ]
      exact RR.wk (ok_X11_layWays_67_l117 hd _ _ _ _ _ _ h) (And.intro rfl (And.intro rfl (And.intro rfl (trivial))))
    · rw [if_neg c] at h
      refine r_iconst (v := 0) dX11_layWays_18 (by decide) ?_
      refine r_istore dX11_layWays_19 (by decide) rfl ?_
      simp only [List.set_cons_zero, List.set_cons_succ]
      exact RR.wk (ok_X11_layWays_67_l21 hd ih _ _ _ _ _ _ _ _ _ _ h) (And.intro rfl (And.intro rfl (And.intro rfl (And.intro rfl (And.intro rfl (And.intro rfl (And.intro rfl (trivial))))))))
def f_X11_layWays_67 (I : mI) (L : mL) (a1 : Int32) (a2 : Int32) (a3 : Int32) : rV := lt (I 68 (0 : Int32).toNatClampNeg) (fun v1 => f_X11_layWays_67_l11 fuel a1 a2 a3 v1 0 I L)
theorem ok_X11_layWays_67 {d : Nat} (hd : 3 ≤ d) {I : mI} {L : mL} {a1 : Int32} {a2 : Int32} {a3 : Int32} {o : mI × mL} (h : f_X11_layWays_67 I L a1 a2 a3 = some o) : RR mX11_layWays d 0 [some (.ref 67), some (.int a1), some (.int a2), some (.int a3), none, none, none, none, none] [] I L (retQ none o.1 o.2) := by
  unfold f_X11_layWays_67 at h
  refine r_aload_n (i := 0) dX11_layWays_0 rfl rfl ?_
  refine r_getR f_X11_7 dX11_layWays_1 rfl rfl ?_
  refine r_iconst (v := 0) dX11_layWays_4 (by decide) ?_
  refine r_iald rfl (vp_lit (by decide)) dX11_layWays_5 ?_
  refine r_istore dX11_layWays_6 (by decide) rfl ?_
  simp only [List.set_cons_zero, List.set_cons_succ]
  replace h := lt_some h
  refine r_iconst (v := 0) dX11_layWays_8 (by decide) ?_
  refine r_istore dX11_layWays_9 (by decide) rfl ?_
  simp only [List.set_cons_zero, List.set_cons_succ]
  exact RR.wk (ok_X11_layWays_67_l11 hd _ _ _ _ _ _ _ _ _ h) (And.intro rfl (And.intro rfl (And.intro rfl (And.intro rfl (And.intro rfl (And.intro rfl (trivial)))))))
def f_X11_layPath_67_b249 (I : mI) (L : mL) (k39 : Int32 → Int32 → Int32 → Int32 → Int32 → Int32 → Int32 → mI → mL → rI) (x1 : Int32) (x2 : Int32) (x4 : Int32) (x5 : Int32) (x6 : Int32) (x7 : Int32) (x10 : Int32) : rI := if x10 = 0 then (ck (inb x6 9) (lt (I 76 x6.toNatClampNeg) (fun v6 => ck (inb x6 9) (lt (x7 &&& (((1 : Int32) <<< ((I 76 x6.toNatClampNeg) &&& 31)) ^^^ (-1))) (fun v7 => lt (x6 + Int32.ofInt (-1)) (fun v8 => k39 x1 x2 x4 x5 v8 v7 v6 I L)))))) else (lt (x6 + Int32.ofInt 1) (fun v9 => ck (inb v9 9) (lt (x7 ||| ((1 : Int32) <<< ((I 76 v9.toNatClampNeg) &&& 31))) (fun v10 => k39 x1 x2 x4 x5 v9 v10 (-1) I L))))
theorem ok_X11_layPath_67_b249 {d : Nat} (hd : 3 ≤ d){I : mI} {L : mL} {k39 : Int32 → Int32 → Int32 → Int32 → Int32 → Int32 → Int32 → mI → mL → rI} (hk39 : ∀ (x1 : Int32) (x2 : Int32) (x4 : Int32) (x5 : Int32) (x6 : Int32) (x7 : Int32) (x8 : Int32) (I : mI) (L : mL) (o : Int32 × mI × mL), k39 x1 x2 x4 x5 x6 x7 x8 I L = some o → RR mX11_layPath d 39 [some (.ref 67), some (.int x1), some (.int x2), none, some (.int x4), some (.int x5), some (.int x6), some (.int x7), some (.int x8), none, none, none, none] [] I L (retQ (some (.int o.1)) o.2.1 o.2.2)) (x1 : Int32) (x2 : Int32) (x4 : Int32) (x5 : Int32) (x6 : Int32) (x7 : Int32) (x10 : Int32) {o : Int32 × mI × mL} (h : f_X11_layPath_67_b249 I L k39 x1 x2 x4 x5 x6 x7 x10 = some o) : RR mX11_layPath d 249 [some (.ref 67), some (.int x1), some (.int x2), none, some (.int x4), some (.int x5), some (.int x6), some (.int x7), none, none, some (.int x10), none, none] [] I L (retQ (some (.int o.1)) o.2.1 o.2.2) := by
  unfold f_X11_layPath_67_b249 at h
  refine r_iload dX11_layPath_249 rfl ?_
  refine r_if_eq (tgt := 277) dX11_layPath_251 (by decide) (fun c => ?_) (fun c => ?_)
  · rw [if_pos c] at h
    refine r_aload_n (i := 0) dX11_layPath_277 rfl rfl ?_
    refine r_getR f_X11_35 dX11_layPath_278 rfl rfl ?_
    refine r_iload dX11_layPath_281 rfl ?_
    obtain ⟨hb, h⟩ := ck_some h
    refine r_iald rfl (inb_vp hb) dX11_layPath_283 ?_
    refine r_istore dX11_layPath_284 (by decide) rfl ?_
    simp only [List.set_cons_zero, List.set_cons_succ]
    replace h := lt_some h
    refine r_iload dX11_layPath_286 rfl ?_
    refine r_iconst (v := 1) dX11_layPath_288 (by decide) ?_
    refine r_aload_n (i := 0) dX11_layPath_289 rfl rfl ?_
    refine r_getR f_X11_35 dX11_layPath_290 rfl rfl ?_
    refine r_iload dX11_layPath_293 rfl ?_
    obtain ⟨hb, h⟩ := ck_some h
    refine r_iald rfl (inb_vp hb) dX11_layPath_295 ?_
    refine r_ishl dX11_layPath_296 ?_
    refine r_iconst (v := (-1)) dX11_layPath_297 (by decide) ?_
    refine r_ixor dX11_layPath_298 ?_
    refine r_iand dX11_layPath_299 ?_
    refine r_istore dX11_layPath_300 (by decide) rfl ?_
    simp only [List.set_cons_zero, List.set_cons_succ]
    replace h := lt_some h
    refine r_iinc (v := _) dX11_layPath_302 rfl rfl (by decide) rfl ?_
    simp only [List.set_cons_zero, List.set_cons_succ]
    replace h := lt_some h
    refine r_goto (tgt := 39) dX11_layPath_305 (by decide) ?_
    exact RR.wk (hk39 _ _ _ _ _ _ _ _ _ _ h) (And.intro rfl (And.intro rfl (And.intro rfl (And.intro rfl (And.intro rfl (And.intro rfl (And.intro rfl (And.intro rfl (trivial)))))))))
  · rw [if_neg c] at h
    refine r_iinc (v := _) dX11_layPath_254 rfl rfl (by decide) rfl ?_
    simp only [List.set_cons_zero, List.set_cons_succ]
    replace h := lt_some h
    refine r_iload dX11_layPath_257 rfl ?_
    refine r_iconst (v := 1) dX11_layPath_259 (by decide) ?_
    refine r_aload_n (i := 0) dX11_layPath_260 rfl rfl ?_
    refine r_getR f_X11_35 dX11_layPath_261 rfl rfl ?_
    refine r_iload dX11_layPath_264 rfl ?_
    obtain ⟨hb, h⟩ := ck_some h
    refine r_iald rfl (inb_vp hb) dX11_layPath_266 ?_
    refine r_ishl dX11_layPath_267 ?_
    refine r_ior dX11_layPath_268 ?_
    refine r_istore dX11_layPath_269 (by decide) rfl ?_
    simp only [List.set_cons_zero, List.set_cons_succ]
    replace h := lt_some h
    refine r_iconst (v := (-1)) dX11_layPath_271 (by decide) ?_
    refine r_istore dX11_layPath_272 (by decide) rfl ?_
    simp only [List.set_cons_zero, List.set_cons_succ]
    refine r_goto (tgt := 305) dX11_layPath_274 (by decide) ?_
    refine r_goto (tgt := 39) dX11_layPath_305 (by decide) ?_
    exact RR.wk (hk39 _ _ _ _ _ _ _ _ _ _ h) (And.intro rfl (And.intro rfl (And.intro rfl (And.intro rfl (And.intro rfl (And.intro rfl (And.intro rfl (And.intro rfl (trivial)))))))))
def f_X11_layPath_67_b211 (I : mI) (L : mL) (k39 : Int32 → Int32 → Int32 → Int32 → Int32 → Int32 → Int32 → mI → mL → rI) (k72 : Int32 → Int32 → Int32 → Int32 → Int32 → Int32 → Int32 → Int32 → mI → mL → rI) (x1 : Int32) (x2 : Int32) (x4 : Int32) (x5 : Int32) (x6 : Int32) (x7 : Int32) (x9 : Int32) (x12 : Int32) (s0 : Int32) : rI := if s0 = 0 then (lt (x9 + Int32.ofInt 1) (fun v11 => k72 x1 x2 x4 x5 x6 x7 v11 s0 I L)) else (ck (inb (x6 + 1) 9) (lt (uI I 76 (x6 + 1).toNatClampNeg x9) (fun M12 => ck (inb (x6 + 1) 9) (lt (uI M12 77 (x6 + 1).toNatClampNeg x12) (fun M13 => k72 x1 x2 x4 x5 x6 x7 x9 s0 M13 L)))))
theorem ok_X11_layPath_67_b211 {d : Nat} (hd : 3 ≤ d){I : mI} {L : mL} {k39 : Int32 → Int32 → Int32 → Int32 → Int32 → Int32 → Int32 → mI → mL → rI} {k72 : Int32 → Int32 → Int32 → Int32 → Int32 → Int32 → Int32 → Int32 → mI → mL → rI} (hk39 : ∀ (x1 : Int32) (x2 : Int32) (x4 : Int32) (x5 : Int32) (x6 : Int32) (x7 : Int32) (x8 : Int32) (I : mI) (L : mL) (o : Int32 × mI × mL), k39 x1 x2 x4 x5 x6 x7 x8 I L = some o → RR mX11_layPath d 39 [some (.ref 67), some (.int x1), some (.int x2), none, some (.int x4), some (.int x5), some (.int x6), some (.int x7), some (.int x8), none, none, none, none] [] I L (retQ (some (.int o.1)) o.2.1 o.2.2)) (hk72 : ∀ (x1 : Int32) (x2 : Int32) (x4 : Int32) (x5 : Int32) (x6 : Int32) (x7 : Int32) (x9 : Int32) (x10 : Int32) (I : mI) (L : mL) (o : Int32 × mI × mL), k72 x1 x2 x4 x5 x6 x7 x9 x10 I L = some o → RR mX11_layPath d 72 [some (.ref 67), some (.int x1), some (.int x2), none, some (.int x4), some (.int x5), some (.int x6), some (.int x7), none, some (.int x9), some (.int x10), none, none] [] I L (retQ (some (.int o.1)) o.2.1 o.2.2)) (x1 : Int32) (x2 : Int32) (x4 : Int32) (x5 : Int32) (x6 : Int32) (x7 : Int32) (x9 : Int32) (x12 : Int32) (s0 : Int32) {o : Int32 × mI × mL} (h : f_X11_layPath_67_b211 I L k39 k72 x1 x2 x4 x5 x6 x7 x9 x12 s0 = some o) : RR mX11_layPath d 211 [some (.ref 67), some (.int x1), some (.int x2), none, some (.int x4), some (.int x5), some (.int x6), some (.int x7), none, some (.int x9), none, none, some (.int x12)] [.int s0] I L (retQ (some (.int o.1)) o.2.1 o.2.2) := by
  unfold f_X11_layPath_67_b211 at h
  refine r_istore dX11_layPath_211 (by decide) rfl ?_
  simp only [List.set_cons_zero, List.set_cons_succ]
  refine r_iload dX11_layPath_213 rfl ?_
  refine r_if_eq (tgt := 243) dX11_layPath_215 (by decide) (fun c => ?_) (fun c => ?_)
  · rw [if_pos c] at h
    refine r_iinc (v := _) dX11_layPath_243 rfl rfl (by decide) rfl ?_
    simp only [List.set_cons_zero, List.set_cons_succ]
    replace h := lt_some h
    refine r_goto (tgt := 72) dX11_layPath_246 (by decide) ?_
    exact RR.wk (hk72 _ _ _ _ _ _ _ _ _ _ _ h) (And.intro rfl (And.intro rfl (And.intro rfl (And.intro rfl (And.intro rfl (And.intro rfl (And.intro rfl (And.intro rfl (And.intro rfl (trivial))))))))))
  · rw [if_neg c] at h
    refine r_aload_n (i := 0) dX11_layPath_218 rfl rfl ?_
    refine r_getR f_X11_35 dX11_layPath_219 rfl rfl ?_
    refine r_iload dX11_layPath_222 rfl ?_
    refine r_iconst (v := 1) dX11_layPath_224 (by decide) ?_
    refine r_iadd dX11_layPath_225 ?_
    refine r_iload dX11_layPath_226 rfl ?_
    obtain ⟨hb, h⟩ := ck_some h
    refine r_iast rfl (inb_vp hb) dX11_layPath_228 ?_
    replace h := lt_some h
    refine r_aload_n (i := 0) dX11_layPath_229 rfl rfl ?_
    refine r_getR f_X11_38 dX11_layPath_230 rfl rfl ?_
    refine r_iload dX11_layPath_233 rfl ?_
    refine r_iconst (v := 1) dX11_layPath_235 (by decide) ?_
    refine r_iadd dX11_layPath_236 ?_
    refine r_iload dX11_layPath_237 rfl ?_
    obtain ⟨hb, h⟩ := ck_some h
    refine r_iast rfl (inb_vp hb) dX11_layPath_239 ?_
    replace h := lt_some h
    refine r_goto (tgt := 246) dX11_layPath_240 (by decide) ?_
    refine r_goto (tgt := 72) dX11_layPath_246 (by decide) ?_
    exact RR.wk (hk72 _ _ _ _ _ _ _ _ _ _ _ h) (And.intro rfl (And.intro rfl (And.intro rfl (And.intro rfl (And.intro rfl (And.intro rfl (And.intro rfl (And.intro rfl (And.intro rfl (trivial))))))))))
def f_X11_layPath_67_b210 (I : mI) (L : mL) (k39 : Int32 → Int32 → Int32 → Int32 → Int32 → Int32 → Int32 → mI → mL → rI) (k72 : Int32 → Int32 → Int32 → Int32 → Int32 → Int32 → Int32 → Int32 → mI → mL → rI) (x1 : Int32) (x2 : Int32) (x4 : Int32) (x5 : Int32) (x6 : Int32) (x7 : Int32) (x9 : Int32) (x12 : Int32) : rI := f_X11_layPath_67_b211 I L k39 k72 x1 x2 x4 x5 x6 x7 x9 x12 0
theorem ok_X11_layPath_67_b210 {d : Nat} (hd : 3 ≤ d){I : mI} {L : mL} {k39 : Int32 → Int32 → Int32 → Int32 → Int32 → Int32 → Int32 → mI → mL → rI} {k72 : Int32 → Int32 → Int32 → Int32 → Int32 → Int32 → Int32 → Int32 → mI → mL → rI} (hk39 : ∀ (x1 : Int32) (x2 : Int32) (x4 : Int32) (x5 : Int32) (x6 : Int32) (x7 : Int32) (x8 : Int32) (I : mI) (L : mL) (o : Int32 × mI × mL), k39 x1 x2 x4 x5 x6 x7 x8 I L = some o → RR mX11_layPath d 39 [some (.ref 67), some (.int x1), some (.int x2), none, some (.int x4), some (.int x5), some (.int x6), some (.int x7), some (.int x8), none, none, none, none] [] I L (retQ (some (.int o.1)) o.2.1 o.2.2)) (hk72 : ∀ (x1 : Int32) (x2 : Int32) (x4 : Int32) (x5 : Int32) (x6 : Int32) (x7 : Int32) (x9 : Int32) (x10 : Int32) (I : mI) (L : mL) (o : Int32 × mI × mL), k72 x1 x2 x4 x5 x6 x7 x9 x10 I L = some o → RR mX11_layPath d 72 [some (.ref 67), some (.int x1), some (.int x2), none, some (.int x4), some (.int x5), some (.int x6), some (.int x7), none, some (.int x9), some (.int x10), none, none] [] I L (retQ (some (.int o.1)) o.2.1 o.2.2)) (x1 : Int32) (x2 : Int32) (x4 : Int32) (x5 : Int32) (x6 : Int32) (x7 : Int32) (x9 : Int32) (x12 : Int32) {o : Int32 × mI × mL} (h : f_X11_layPath_67_b210 I L k39 k72 x1 x2 x4 x5 x6 x7 x9 x12 = some o) : RR mX11_layPath d 210 [some (.ref 67), some (.int x1), some (.int x2), none, some (.int x4), some (.int x5), some (.int x6), some (.int x7), none, some (.int x9), none, none, some (.int x12)] [] I L (retQ (some (.int o.1)) o.2.1 o.2.2) := by
  unfold f_X11_layPath_67_b210 at h
  refine r_iconst (v := 0) dX11_layPath_210 (by decide) ?_
  exact RR.wk (ok_X11_layPath_67_b211 hd hk39 hk72 _ _ _ _ _ _ _ _ _ h) (And.intro rfl (And.intro rfl (And.intro rfl (And.intro rfl (And.intro rfl (And.intro rfl (And.intro rfl (And.intro rfl (And.intro rfl (trivial))))))))))
def f_X11_layPath_67_b178 (I : mI) (L : mL) (k39 : Int32 → Int32 → Int32 → Int32 → Int32 → Int32 → Int32 → mI → mL → rI) (k72 : Int32 → Int32 → Int32 → Int32 → Int32 → Int32 → Int32 → Int32 → mI → mL → rI) (x1 : Int32) (x2 : Int32) (x4 : Int32) (x5 : Int32) (x6 : Int32) (x7 : Int32) (x9 : Int32) (x11 : Int32) (s0 : Int32) : rI := if x11 = 0 then (f_X11_layPath_67_b210 I L k39 k72 x1 x2 x4 x5 x6 x7 x9 s0) else (ck (inb ((8 * x9) + x4) 64) (if x5 < (s0 + (I 75 ((8 * x9) + x4).toNatClampNeg)) then (f_X11_layPath_67_b210 I L k39 k72 x1 x2 x4 x5 x6 x7 x9 s0) else (f_X11_layPath_67_b211 I L k39 k72 x1 x2 x4 x5 x6 x7 x9 s0 1)))
theorem ok_X11_layPath_67_b178 {d : Nat} (hd : 3 ≤ d){I : mI} {L : mL} {k39 : Int32 → Int32 → Int32 → Int32 → Int32 → Int32 → Int32 → mI → mL → rI} {k72 : Int32 → Int32 → Int32 → Int32 → Int32 → Int32 → Int32 → Int32 → mI → mL → rI} (hk39 : ∀ (x1 : Int32) (x2 : Int32) (x4 : Int32) (x5 : Int32) (x6 : Int32) (x7 : Int32) (x8 : Int32) (I : mI) (L : mL) (o : Int32 × mI × mL), k39 x1 x2 x4 x5 x6 x7 x8 I L = some o → RR mX11_layPath d 39 [some (.ref 67), some (.int x1), some (.int x2), none, some (.int x4), some (.int x5), some (.int x6), some (.int x7), some (.int x8), none, none, none, none] [] I L (retQ (some (.int o.1)) o.2.1 o.2.2)) (hk72 : ∀ (x1 : Int32) (x2 : Int32) (x4 : Int32) (x5 : Int32) (x6 : Int32) (x7 : Int32) (x9 : Int32) (x10 : Int32) (I : mI) (L : mL) (o : Int32 × mI × mL), k72 x1 x2 x4 x5 x6 x7 x9 x10 I L = some o → RR mX11_layPath d 72 [some (.ref 67), some (.int x1), some (.int x2), none, some (.int x4), some (.int x5), some (.int x6), some (.int x7), none, some (.int x9), some (.int x10), none, none] [] I L (retQ (some (.int o.1)) o.2.1 o.2.2)) (x1 : Int32) (x2 : Int32) (x4 : Int32) (x5 : Int32) (x6 : Int32) (x7 : Int32) (x9 : Int32) (x11 : Int32) (s0 : Int32) {o : Int32 × mI × mL} (h : f_X11_layPath_67_b178 I L k39 k72 x1 x2 x4 x5 x6 x7 x9 x11 s0 = some o) : RR mX11_layPath d 178 [some (.ref 67), some (.int x1), some (.int x2), none, some (.int x4), some (.int x5), some (.int x6), some (.int x7), none, some (.int x9), none, some (.int x11), none] [.int s0] I L (retQ (some (.int o.1)) o.2.1 o.2.2) := by
  unfold f_X11_layPath_67_b178 at h
  refine r_istore dX11_layPath_178 (by decide) rfl ?_
  simp only [List.set_cons_zero, List.set_cons_succ]
  refine r_iload dX11_layPath_180 rfl ?_
  refine r_if_eq (tgt := 210) dX11_layPath_182 (by decide) (fun c => ?_) (fun c => ?_)
  · rw [if_pos c] at h
    exact RR.wk (ok_X11_layPath_67_b210 hd hk39 hk72 _ _ _ _ _ _ _ _ h) (And.intro rfl (And.intro rfl (And.intro rfl (And.intro rfl (And.intro rfl (And.intro rfl (And.intro rfl (And.intro rfl (And.intro rfl (trivial))))))))))
  · rw [if_neg c] at h
    refine r_iload dX11_layPath_185 rfl ?_
    refine r_aload_n (i := 0) dX11_layPath_187 rfl rfl ?_
    refine r_getR f_X11_32 dX11_layPath_188 rfl rfl ?_
    refine r_bipush (v := 8) dX11_layPath_191 (by decide) ?_
    refine r_iload dX11_layPath_193 rfl ?_
    refine r_imul dX11_layPath_195 ?_
    refine r_iload dX11_layPath_196 rfl ?_
    refine r_iadd dX11_layPath_198 ?_
    obtain ⟨hb, h⟩ := ck_some h
    refine r_iald rfl (inb_vp hb) dX11_layPath_199 ?_
    refine r_iadd dX11_layPath_200 ?_
    refine r_iload dX11_layPath_201 rfl ?_
    refine r_icmp_gt (tgt := 210) dX11_layPath_203 (by decide) (fun c => ?_) (fun c => ?_)
    · rw [if_pos c] at h
      exact RR.wk (ok_X11_layPath_67_b210 hd hk39 hk72 _ _ _ _ _ _ _ _ h) (And.intro rfl (And.intro rfl (And.intro rfl (And.intro rfl (And.intro rfl (And.intro rfl (And.intro rfl (And.intro rfl (And.intro rfl (trivial))))))))))
    · rw [if_neg c] at h
      refine r_iconst (v := 1) dX11_layPath_206 (by decide) ?_
      refine r_goto (tgt := 211) dX11_layPath_207 (by decide) ?_
      exact RR.wk (ok_X11_layPath_67_b211 hd hk39 hk72 _ _ _ _ _ _ _ _ _ h) (And.intro rfl (And.intro rfl (And.intro rfl (And.intro rfl (And.intro rfl (And.intro rfl (And.intro rfl (And.intro rfl (And.intro rfl (trivial))))))))))
def f_X11_layPath_67_b142 (I : mI) (L : mL) (k39 : Int32 → Int32 → Int32 → Int32 → Int32 → Int32 → Int32 → mI → mL → rI) (k72 : Int32 → Int32 → Int32 → Int32 → Int32 → Int32 → Int32 → Int32 → mI → mL → rI) (x1 : Int32) (x2 : Int32) (x4 : Int32) (x5 : Int32) (x6 : Int32) (x7 : Int32) (x9 : Int32) (s0 : Int32) : rI := if s0 = 0 then (f_X11_layPath_67_b178 I L k39 k72 x1 x2 x4 x5 x6 x7 x9 s0 100000000) else (ck (inb x6 9) (ck (inb x6 9) ((f_X11_costOf_67 I L x1 x2 0 (I 76 x6.toNatClampNeg) x9).bind (fun r14 => f_X11_layPath_67_b178 I L k39 k72 x1 x2 x4 x5 x6 x7 x9 s0 ((I 77 x6.toNatClampNeg) + r14)))))
theorem ok_X11_layPath_67_b142 {d : Nat} (hd : 3 ≤ d){I : mI} {L : mL} {k39 : Int32 → Int32 → Int32 → Int32 → Int32 → Int32 → Int32 → mI → mL → rI} {k72 : Int32 → Int32 → Int32 → Int32 → Int32 → Int32 → Int32 → Int32 → mI → mL → rI} (hk39 : ∀ (x1 : Int32) (x2 : Int32) (x4 : Int32) (x5 : Int32) (x6 : Int32) (x7 : Int32) (x8 : Int32) (I : mI) (L : mL) (o : Int32 × mI × mL), k39 x1 x2 x4 x5 x6 x7 x8 I L = some o → RR mX11_layPath d 39 [some (.ref 67), some (.int x1), some (.int x2), none, some (.int x4), some (.int x5), some (.int x6), some (.int x7), some (.int x8), none, none, none, none] [] I L (retQ (some (.int o.1)) o.2.1 o.2.2)) (hk72 : ∀ (x1 : Int32) (x2 : Int32) (x4 : Int32) (x5 : Int32) (x6 : Int32) (x7 : Int32) (x9 : Int32) (x10 : Int32) (I : mI) (L : mL) (o : Int32 × mI × mL), k72 x1 x2 x4 x5 x6 x7 x9 x10 I L = some o → RR mX11_layPath d 72 [some (.ref 67), some (.int x1), some (.int x2), none, some (.int x4), some (.int x5), some (.int x6), some (.int x7), none, some (.int x9), some (.int x10), none, none] [] I L (retQ (some (.int o.1)) o.2.1 o.2.2)) (x1 : Int32) (x2 : Int32) (x4 : Int32) (x5 : Int32) (x6 : Int32) (x7 : Int32) (x9 : Int32) (s0 : Int32) {o : Int32 × mI × mL} (h : f_X11_layPath_67_b142 I L k39 k72 x1 x2 x4 x5 x6 x7 x9 s0 = some o) : RR mX11_layPath d 142 [some (.ref 67), some (.int x1), some (.int x2), none, some (.int x4), some (.int x5), some (.int x6), some (.int x7), none, some (.int x9), none, none, none] [.int s0] I L (retQ (some (.int o.1)) o.2.1 o.2.2) := by
  unfold f_X11_layPath_67_b142 at h
  refine r_istore dX11_layPath_142 (by decide) rfl ?_
  simp only [List.set_cons_zero, List.set_cons_succ]
  refine r_iload dX11_layPath_144 rfl ?_
  refine r_if_eq (tgt := 176) dX11_layPath_146 (by decide) (fun c => ?_) (fun c => ?_)
  · rw [if_pos c] at h
    refine r_ldc n_X11_151 dX11_layPath_176 ?_
    exact RR.wk (ok_X11_layPath_67_b178 hd hk39 hk72 _ _ _ _ _ _ _ _ _ h) (And.intro rfl (And.intro rfl (And.intro rfl (And.intro rfl (And.intro rfl (And.intro rfl (And.intro rfl (And.intro rfl (And.intro rfl (trivial))))))))))
  · rw [if_neg c] at h
    refine r_aload_n (i := 0) dX11_layPath_149 rfl rfl ?_
    refine r_getR f_X11_38 dX11_layPath_150 rfl rfl ?_
    refine r_iload dX11_layPath_153 rfl ?_
    obtain ⟨hb, h⟩ := ck_some h
    refine r_iald rfl (inb_vp hb) dX11_layPath_155 ?_
    refine r_aload_n (i := 0) dX11_layPath_156 rfl rfl ?_
    refine r_iload_n (i := 1) dX11_layPath_157 rfl rfl ?_
    refine r_iload_n (i := 2) dX11_layPath_158 rfl rfl ?_
    refine r_iconst (v := 0) dX11_layPath_159 (by decide) ?_
    refine r_aload_n (i := 0) dX11_layPath_160 rfl rfl ?_
    refine r_getR f_X11_35 dX11_layPath_161 rfl rfl ?_
    refine r_iload dX11_layPath_164 rfl ?_
    obtain ⟨hb, h⟩ := ck_some h
    refine r_iald rfl (inb_vp hb) dX11_layPath_166 ?_
    refine r_iload dX11_layPath_167 rfl ?_
    obtain ⟨r14, hr, h⟩ := bind_some h
    refine r_V (d' := 2) k_X11_156 dX11_layPath_169 (by omega) rfl rfl rfl (Nat.le_of_ble_eq_true rfl) (Nat.le_of_ble_eq_true rfl) (ok_X11_costOf_67 (Nat.le_refl _) hr) (fun v I' L' hq => ?_)
    obtain ⟨rfl, rfl, rfl⟩ := hq
    simp only [Option.toList_some, Option.toList_none, List.drop_succ_cons, List.drop_zero, List.drop_nil, List.cons_append, List.nil_append]
    refine r_iadd dX11_layPath_172 ?_
    refine r_goto (tgt := 178) dX11_layPath_173 (by decide) ?_
    exact RR.wk (ok_X11_layPath_67_b178 hd hk39 hk72 _ _ _ _ _ _ _ _ _ h) (And.intro rfl (And.intro rfl (And.intro rfl (And.intro rfl (And.intro rfl (And.intro rfl (And.intro rfl (And.intro rfl (And.intro rfl (trivial))))))))))
def f_X11_layPath_67_b141 (I : mI) (L : mL) (k39 : Int32 → Int32 → Int32 → Int32 → Int32 → Int32 → Int32 → mI → mL → rI) (k72 : Int32 → Int32 → Int32 → Int32 → Int32 → Int32 → Int32 → Int32 → mI → mL → rI) (x1 : Int32) (x2 : Int32) (x4 : Int32) (x5 : Int32) (x6 : Int32) (x7 : Int32) (x9 : Int32) : rI := f_X11_layPath_67_b142 I L k39 k72 x1 x2 x4 x5 x6 x7 x9 0
theorem ok_X11_layPath_67_b141 {d : Nat} (hd : 3 ≤ d){I : mI} {L : mL} {k39 : Int32 → Int32 → Int32 → Int32 → Int32 → Int32 → Int32 → mI → mL → rI} {k72 : Int32 → Int32 → Int32 → Int32 → Int32 → Int32 → Int32 → Int32 → mI → mL → rI} (hk39 : ∀ (x1 : Int32) (x2 : Int32) (x4 : Int32) (x5 : Int32) (x6 : Int32) (x7 : Int32) (x8 : Int32) (I : mI) (L : mL) (o : Int32 × mI × mL), k39 x1 x2 x4 x5 x6 x7 x8 I L = some o → RR mX11_layPath d 39 [some (.ref 67), some (.int x1), some (.int x2), none, some (.int x4), some (.int x5), some (.int x6), some (.int x7), some (.int x8), none, none, none, none] [] I L (retQ (some (.int o.1)) o.2.1 o.2.2)) (hk72 : ∀ (x1 : Int32) (x2 : Int32) (x4 : Int32) (x5 : Int32) (x6 : Int32) (x7 : Int32) (x9 : Int32) (x10 : Int32) (I : mI) (L : mL) (o : Int32 × mI × mL), k72 x1 x2 x4 x5 x6 x7 x9 x10 I L = some o → RR mX11_layPath d 72 [some (.ref 67), some (.int x1), some (.int x2), none, some (.int x4), some (.int x5), some (.int x6), some (.int x7), none, some (.int x9), some (.int x10), none, none] [] I L (retQ (some (.int o.1)) o.2.1 o.2.2)) (x1 : Int32) (x2 : Int32) (x4 : Int32) (x5 : Int32) (x6 : Int32) (x7 : Int32) (x9 : Int32) {o : Int32 × mI × mL} (h : f_X11_layPath_67_b141 I L k39 k72 x1 x2 x4 x5 x6 x7 x9 = some o) : RR mX11_layPath d 141 [some (.ref 67), some (.int x1), some (.int x2), none, some (.int x4), some (.int x5), some (.int x6), some (.int x7), none, some (.int x9), none, none, none] [] I L (retQ (some (.int o.1)) o.2.1 o.2.2) := by
  unfold f_X11_layPath_67_b141 at h
  refine r_iconst (v := 0) dX11_layPath_141 (by decide) ?_
  exact RR.wk (ok_X11_layPath_67_b142 hd hk39 hk72 _ _ _ _ _ _ _ _ h) (And.intro rfl (And.intro rfl (And.intro rfl (And.intro rfl (And.intro rfl (And.intro rfl (And.intro rfl (And.intro rfl (trivial)))))))))
def f_X11_layPath_67_l72 (k39 : Int32 → Int32 → Int32 → Int32 → Int32 → Int32 → Int32 → mI → mL → rI) : Nat → Int32 → Int32 → Int32 → Int32 → Int32 → Int32 → Int32 → Int32 → mI → mL → rI
  | 0, _, _, _, _, _, _, _, _, _, _ => none
  | n + 1, x1, x2, x4, x5, x6, x7, x9, x10, I, L => if (I 68 (0 : Int32).toNatClampNeg) ≤ x9 then (f_X11_layPath_67_b249 I L k39 x1 x2 x4 x5 x6 x7 x10) else (if x10 = 0 then (ck (inb x6 9) (if (I 76 x6.toNatClampNeg) = x4 then (f_X11_layPath_67_b249 I L k39 x1 x2 x4 x5 x6 x7 x10) else (if ((x7 >>> (x9 &&& 31)) &&& 1) = 0 then ((f_X11_bears_67 I L x1 x2 x9).bind (fun r15 => if r15 = 0 then (f_X11_layPath_67_b141 I L k39 (f_X11_layPath_67_l72 k39 n) x1 x2 x4 x5 x6 x7 x9) else (ck (inb x6 9) ((f_X11_roadOf_67 I L (I 76 x6.toNatClampNeg) x9).bind (fun r16 => if r16 < 0 then (f_X11_layPath_67_b141 I L k39 (f_X11_layPath_67_l72 k39 n) x1 x2 x4 x5 x6 x7 x9) else (f_X11_layPath_67_b142 I L k39 (f_X11_layPath_67_l72 k39 n) x1 x2 x4 x5 x6 x7 x9 1)))))) else (f_X11_layPath_67_b141 I L k39 (f_X11_layPath_67_l72 k39 n) x1 x2 x4 x5 x6 x7 x9)))) else (f_X11_layPath_67_b249 I L k39 x1 x2 x4 x5 x6 x7 x10))
theorem ok_X11_layPath_67_l72 {d : Nat} (hd : 3 ≤ d) {k39 : Int32 → Int32 → Int32 → Int32 → Int32 → Int32 → Int32 → mI → mL → rI} (hk39 : ∀ (x1 : Int32) (x2 : Int32) (x4 : Int32) (x5 : Int32) (x6 : Int32) (x7 : Int32) (x8 : Int32) (I : mI) (L : mL) (o : Int32 × mI × mL), k39 x1 x2 x4 x5 x6 x7 x8 I L = some o → RR mX11_layPath d 39 [some (.ref 67), some (.int x1), some (.int x2), none, some (.int x4), some (.int x5), some (.int x6), some (.int x7), some (.int x8), none, none, none, none] [] I L (retQ (some (.int o.1)) o.2.1 o.2.2)) : ∀ (n : Nat) (x1 : Int32) (x2 : Int32) (x4 : Int32) (x5 : Int32) (x6 : Int32) (x7 : Int32) (x9 : Int32) (x10 : Int32) (I : mI) (L : mL) (o : Int32 × mI × mL), f_X11_layPath_67_l72 k39 n x1 x2 x4 x5 x6 x7 x9 x10 I L = some o → RR mX11_layPath d 72 [some (.ref 67), some (.int x1), some (.int x2), none, some (.int x4), some (.int x5), some (.int x6), some (.int x7), none, some (.int x9), some (.int x10), none, none] [] I L (retQ (some (.int o.1)) o.2.1 o.2.2) := by
  intro n
  induction n with
  | zero => intro x1 x2 x4 x5 x6 x7 x9 x10 I L o h; rw [f_X11_layPath_67_l72] at h; cases h
  | succ n ih =>
    intro x1 x2 x4 x5 x6 x7 x9 x10 I L o h
    rw [f_X11_layPath_67_l72] at h
    refine r_iload dX11_layPath_72 rfl ?_
    refine r_aload_n (i := 0) dX11_layPath_74 rfl rfl ?_
    refine r_getR f_X11_7 dX11_layPath_75 rfl rfl ?_
    refine r_iconst (v := 0) dX11_layPath_78 (by decide) ?_
    refine r_iald rfl (vp_lit (by decide)) dX11_layPath_79 ?_
    refine r_icmp_ge (tgt := 249) dX11_layPath_80 (by decide) (fun c => ?_) (fun c => ?_)
    · rw [if_pos c] at h
      exact RR.wk (ok_X11_layPath_67_b249 hd hk39 _ _ _ _ _ _ _ h) (And.intro rfl (And.intro rfl (And.intro rfl (And.intro rfl (And.intro rfl (And.intro rfl (And.intro rfl (And.intro rfl (trivial)))))))))
    · rw [if_neg c] at h
      refine r_iload dX11_layPath_83 rfl ?_
      refine r_if_ne (tgt := 249) dX11_layPath_85 (by decide) (fun c => ?_) (fun c => ?_)
      · rw [if_neg c] at h
        exact RR.wk (ok_X11_layPath_67_b249 hd hk39 _ _ _ _ _ _ _ h) (And.intro rfl (And.intro rfl (And.intro rfl (And.intro rfl (And.intro rfl (And.intro rfl (And.intro rfl (And.intro rfl (trivial)))))))))
      · rw [if_pos c] at h
        refine r_aload_n (i := 0) dX11_layPath_88 rfl rfl ?_
        refine r_getR f_X11_35 dX11_layPath_89 rfl rfl ?_
        refine r_iload dX11_layPath_92 rfl ?_
        obtain ⟨hb, h⟩ := ck_some h
        refine r_iald rfl (inb_vp hb) dX11_layPath_94 ?_
        refine r_iload dX11_layPath_95 rfl ?_
        refine r_icmp_eq (tgt := 249) dX11_layPath_97 (by decide) (fun c => ?_) (fun c => ?_)
        · rw [if_pos c] at h
          exact RR.wk (ok_X11_layPath_67_b249 hd hk39 _ _ _ _ _ _ _ h) (And.intro rfl (And.intro rfl (And.intro rfl (And.intro rfl (And.intro rfl (And.intro rfl (And.intro rfl (And.intro rfl (trivial)))))))))
        · rw [if_neg c] at h
          refine r_iload dX11_layPath_100 rfl ?_
          refine r_iload dX11_layPath_102 rfl ?_
          refine r_ishr dX11_layPath_104 ?_
          refine r_iconst (v := 1) dX11_layPath_105 (by decide) ?_
          refine r_iand dX11_layPath_106 ?_
          refine r_if_ne (tgt := 141) dX11_layPath_107 (by decide) (fun c => ?_) (fun c => ?_)
          · rw [if_neg c] at h
            exact RR.wk (ok_X11_layPath_67_b141 hd hk39 ih _ _ _ _ _ _ _ h) (And.intro rfl (And.intro rfl (And.intro rfl (And.intro rfl (And.intro rfl (And.intro rfl (And.intro rfl (And.intro rfl (trivial)))))))))
          · rw [if_pos c] at h
            refine r_aload_n (i := 0) dX11_layPath_110 rfl rfl ?_
            refine r_iload_n (i := 1) dX11_layPath_111 rfl rfl ?_
            refine r_iload_n (i := 2) dX11_layPath_112 rfl rfl ?_
            refine r_iload dX11_layPath_113 rfl ?_
            obtain ⟨r15, hr, h⟩ := bind_some h
            refine r_V (d' := 2) k_X11_152 dX11_layPath_115 (by omega) rfl rfl rfl (Nat.le_of_ble_eq_true rfl) (Nat.le_of_ble_eq_true rfl) (ok_X11_bears_67 (Nat.le_refl _) hr) (fun v I' L' hq => ?_)
            obtain ⟨rfl, rfl, rfl⟩ := hq
            simp only [Option.toList_some, Option.toList_none, List.drop_succ_cons, List.drop_zero, List.drop_nil, List.cons_append, List.nil_append]
            refine r_if_eq (tgt := 141) dX11_layPath_118 (by decide) (fun c => ?_) (fun c => ?_)
            · rw [if_pos c] at h
              exact RR.wk (ok_X11_layPath_67_b141 hd hk39 ih _ _ _ _ _ _ _ h) (And.intro rfl (And.intro rfl (And.intro rfl (And.intro rfl (And.intro rfl (And.intro rfl (And.intro rfl (And.intro rfl (trivial)))))))))
            · rw [if_neg c] at h
              refine r_aload_n (i := 0) dX11_layPath_121 rfl rfl ?_
              refine r_aload_n (i := 0) dX11_layPath_122 rfl rfl ?_
              refine r_getR f_X11_35 dX11_layPath_123 rfl rfl ?_
              refine r_iload dX11_layPath_126 rfl ?_
              obtain ⟨hb, h⟩ := ck_some h
              refine r_iald rfl (inb_vp hb) dX11_layPath_128 ?_
              refine r_iload dX11_layPath_129 rfl ?_
              obtain ⟨r16, hr, h⟩ := bind_some h
              refine r_V (d' := 0) k_X11_74 dX11_layPath_131 (by omega) rfl rfl rfl (Nat.le_of_ble_eq_true rfl) (Nat.le_of_ble_eq_true rfl) (ok_X11_roadOf_67 (Nat.le_refl _) hr) (fun v I' L' hq => ?_)
              obtain ⟨rfl, rfl, rfl⟩ := hq
              simp only [Option.toList_some, Option.toList_none, List.drop_succ_cons, List.drop_zero, List.drop_nil, List.cons_append, List.nil_append]
              refine r_if_lt (tgt := 141) dX11_layPath_134 (by decide) (fun c => ?_) (fun c => ?_)
              · rw [if_pos c] at h
                exact RR.wk (ok_X11_layPath_67_b141 hd hk39 ih _ _ _ _ _ _ _ h) (And.intro rfl (And.intro rfl (And.intro rfl (And.intro rfl (And.intro rfl (And.intro rfl (And.intro rfl (And.intro rfl (trivial)))))))))
              · rw [if_neg c] at h
                refine r_iconst (v := 1) dX11_layPath_137 (by decide) ?_
                refine r_goto (tgt := 142) dX11_layPath_138 (by decide) ?_
                exact RR.wk (ok_X11_layPath_67_b142 hd hk39 ih _ _ _ _ _ _ _ _ h) (And.intro rfl (And.intro rfl (And.intro rfl (And.intro rfl (And.intro rfl (And.intro rfl (And.intro rfl (And.intro rfl (trivial)))))))))
def f_X11_layPath_67_l39 : Nat → Int32 → Int32 → Int32 → Int32 → Int32 → Int32 → Int32 → mI → mL → rI
  | 0, _, _, _, _, _, _, _, _, _ => none
  | n + 1, x1, x2, x4, x5, x6, x7, x8, I, L => ck (inb x6 9) (if (I 76 x6.toNatClampNeg) = x4 then (ck (inb x6 9) (if (I 77 x6.toNatClampNeg) = x5 then (some (x6 + 1, I, L)) else (lt (x8 + 1) (fun v17 => f_X11_layPath_67_l72 (f_X11_layPath_67_l39 n) fuel x1 x2 x4 x5 x6 x7 v17 0 I L)))) else (lt (x8 + 1) (fun v5 => f_X11_layPath_67_l72 (f_X11_layPath_67_l39 n) fuel x1 x2 x4 x5 x6 x7 v5 0 I L)))
theorem ok_X11_layPath_67_l39 {d : Nat} (hd : 3 ≤ d) : ∀ (n : Nat) (x1 : Int32) (x2 : Int32) (x4 : Int32) (x5 : Int32) (x6 : Int32) (x7 : Int32) (x8 : Int32) (I : mI) (L : mL) (o : Int32 × mI × mL), f_X11_layPath_67_l39 n x1 x2 x4 x5 x6 x7 x8 I L = some o → RR mX11_layPath d 39 [some (.ref 67), some (.int x1), some (.int x2), none, some (.int x4), some (.int x5), some (.int x6), some (.int x7), some (.int x8), none, none, none, none] [] I L (retQ (some (.int o.1)) o.2.1 o.2.2) := by
  intro n
  induction n with
  | zero => intro x1 x2 x4 x5 x6 x7 x8 I L o h; rw [f_X11_layPath_67_l39] at h; cases h
  | succ n ih =>
    intro x1 x2 x4 x5 x6 x7 x8 I L o h
    rw [f_X11_layPath_67_l39] at h
    refine r_aload_n (i := 0) dX11_layPath_39 rfl rfl ?_
    refine r_getR f_X11_35 dX11_layPath_40 rfl rfl ?_
    refine r_iload dX11_layPath_43 rfl ?_
    obtain ⟨hb, h⟩ := ck_some h
    refine r_iald rfl (inb_vp hb) dX11_layPath_45 ?_
    refine r_iload dX11_layPath_46 rfl ?_
    refine r_icmp_ne (tgt := 63) dX11_layPath_48 (by decide) (fun c => ?_) (fun c => ?_)
    · rw [if_neg c] at h
      refine r_iload dX11_layPath_63 rfl ?_
      refine r_iconst (v := 1) dX11_layPath_65 (by decide) ?_
      refine r_iadd dX11_layPath_66 ?_
      refine r_istore dX11_layPath_67 (by decide) rfl ?_
      simp only [List.set_cons_zero, List.set_cons_succ]
      replace h := lt_some h
      refine r_iconst (v := 0) dX11_layPath_69 (by decide) ?_
      refine r_istore dX11_layPath_70 (by decide) rfl ?_
      simp only [List.set_cons_zero, List.set_cons_succ]
      exact RR.wk (ok_X11_layPath_67_l72 hd ih _ _ _ _ _ _ _ _ _ _ _ _ h) (And.intro rfl (And.intro rfl (And.intro rfl (And.intro rfl (And.intro rfl (And.intro rfl (And.intro rfl (And.intro rfl (And.intro rfl (trivial))))))))))
    · rw [if_pos c] at h
      refine r_aload_n (i := 0) dX11_layPath_51 rfl rfl ?_
      refine r_getR f_X11_38 dX11_layPath_52 rfl rfl ?_
      refine r_iload dX11_layPath_55 rfl ?_
      obtain ⟨hb, h⟩ := ck_some h
      refine r_iald rfl (inb_vp hb) dX11_layPath_57 ?_
      refine r_iload dX11_layPath_58 rfl ?_
      refine r_icmp_eq (tgt := 308) dX11_layPath_60 (by decide) (fun c => ?_) (fun c => ?_)
      · rw [if_pos c] at h
        refine r_iload dX11_layPath_308 rfl ?_
        refine r_iconst (v := 1) dX11_layPath_310 (by decide) ?_
        refine r_iadd dX11_layPath_311 ?_
        refine r_iret (by first | rfl | decide) dX11_layPath_312 ?_
        obtain rfl := Option.some.inj h
        exact ⟨rfl, rfl, rfl⟩
      · rw [if_neg c] at h
        refine r_iload dX11_layPath_63 rfl ?_
        refine r_iconst (v := 1) dX11_layPath_65 (by decide) ?_
        refine r_iadd dX11_layPath_66 ?_
        refine r_istore dX11_layPath_67 (by decide) rfl ?_
        simp only [List.set_cons_zero, List.set_cons_succ]
        replace h := lt_some h
        refine r_iconst (v := 0) dX11_layPath_69 (by decide) ?_
        refine r_istore dX11_layPath_70 (by decide) rfl ?_
        simp only [List.set_cons_zero, List.set_cons_succ]
        exact RR.wk (ok_X11_layPath_67_l72 hd ih _ _ _ _ _ _ _ _ _ _ _ _ h) (And.intro rfl (And.intro rfl (And.intro rfl (And.intro rfl (And.intro rfl (And.intro rfl (And.intro rfl (And.intro rfl (And.intro rfl (trivial))))))))))
def f_X11_layPath_67 (I : mI) (L : mL) (a1 : Int32) (a2 : Int32) (a3 : Int32) (a4 : Int32) : rI := ck (inb ((8 * a3) + a4) 64) (lt (I 75 ((8 * a3) + a4).toNatClampNeg) (fun v1 => lt ((1 : Int32) <<< (a3 &&& 31)) (fun v2 => lt (uI I 76 (0 : Int32).toNatClampNeg a3) (fun M3 => lt (uI M3 77 (0 : Int32).toNatClampNeg 0) (fun M4 => f_X11_layPath_67_l39 fuel a1 a2 a4 v1 0 v2 (-1) M4 L)))))
theorem ok_X11_layPath_67 {d : Nat} (hd : 3 ≤ d) {I : mI} {L : mL} {a1 : Int32} {a2 : Int32} {a3 : Int32} {a4 : Int32} {o : Int32 × mI × mL} (h : f_X11_layPath_67 I L a1 a2 a3 a4 = some o) : RR mX11_layPath d 0 [some (.ref 67), some (.int a1), some (.int a2), some (.int a3), some (.int a4), none, none, none, none, none, none, none, none] [] I L (retQ (some (.int o.1)) o.2.1 o.2.2) := by
  unfold f_X11_layPath_67 at h
  refine r_aload_n (i := 0) dX11_layPath_0 rfl rfl ?_
  refine r_getR f_X11_32 dX11_layPath_1 rfl rfl ?_
  refine r_bipush (v := 8) dX11_layPath_4 (by decide) ?_
  refine r_iload_n (i := 3) dX11_layPath_6 rfl rfl ?_
  refine r_imul dX11_layPath_7 ?_
  refine r_iload dX11_layPath_8 rfl ?_
  refine r_iadd dX11_layPath_10 ?_
  obtain ⟨hb, h⟩ := ck_some h
  refine r_iald rfl (inb_vp hb) dX11_layPath_11 ?_
  refine r_istore dX11_layPath_12 (by decide) rfl ?_
  simp only [List.set_cons_zero, List.set_cons_succ]
  replace h := lt_some h
  refine r_iconst (v := 0) dX11_layPath_14 (by decide) ?_
  refine r_istore dX11_layPath_15 (by decide) rfl ?_
  simp only [List.set_cons_zero, List.set_cons_succ]
  refine r_iconst (v := 1) dX11_layPath_17 (by decide) ?_
  refine r_iload_n (i := 3) dX11_layPath_18 rfl rfl ?_
  refine r_ishl dX11_layPath_19 ?_
  refine r_istore dX11_layPath_20 (by decide) rfl ?_
  simp only [List.set_cons_zero, List.set_cons_succ]
  replace h := lt_some h
  refine r_aload_n (i := 0) dX11_layPath_22 rfl rfl ?_
  refine r_getR f_X11_35 dX11_layPath_23 rfl rfl ?_
  refine r_iconst (v := 0) dX11_layPath_26 (by decide) ?_
  refine r_iload_n (i := 3) dX11_layPath_27 rfl rfl ?_
  refine r_iast rfl (vp_lit (by decide)) dX11_layPath_28 ?_
  replace h := lt_some h
  refine r_aload_n (i := 0) dX11_layPath_29 rfl rfl ?_
  refine r_getR f_X11_38 dX11_layPath_30 rfl rfl ?_
  refine r_iconst (v := 0) dX11_layPath_33 (by decide) ?_
  refine r_iconst (v := 0) dX11_layPath_34 (by decide) ?_
  refine r_iast rfl (vp_lit (by decide)) dX11_layPath_35 ?_
  replace h := lt_some h
  refine r_iconst (v := (-1)) dX11_layPath_36 (by decide) ?_
  refine r_istore dX11_layPath_37 (by decide) rfl ?_
  simp only [List.set_cons_zero, List.set_cons_succ]
  exact RR.wk (ok_X11_layPath_67_l39 hd _ _ _ _ _ _ _ _ _ _ _ h) (And.intro rfl (And.intro rfl (And.intro rfl (And.intro rfl (And.intro rfl (And.intro rfl (And.intro rfl (And.intro rfl (trivial)))))))))
def f_X11_way_67 (I : mI) (L : mL) (a1 : Int32) (a2 : Int32) (a3 : Int32) (a4 : Int32) (a5 : Int32) : rI := (f_X11_isCart_67 I L a1).bind (fun r1 => if r1 = 0 then (some ((-1), I, L)) else ((f_X11_in I L (a2.toInt64) 1 99).bind (fun r2 => if r2 = 0 then (some ((-1), I, L)) else ((f_X11_isParish_67 I L a3).bind (fun r3 => if r3 = 0 then (some ((-1), I, L)) else ((f_X11_isParish_67 I L a4).bind (fun r4 => if r4 = 0 then (some ((-1), I, L)) else ((f_X11_in I L (a5.toInt64) (-1) 7).bind (fun r5 => if r5 = 0 then (some ((-1), I, L)) else (bndV (f_X11_layWays_67 I L a1 a2 0) (fun Ir6 Lr6 => ck (inb ((8 * a3) + a4) 64) (if (Ir6 75 ((8 * a3) + a4).toNatClampNeg) < 100000000 then (if 0 ≤ a5 then (bndI (f_X11_layPath_67 Ir6 Lr6 a1 a2 a3 a4) (fun r8 Ir8 Lr8 => if r8 ≤ a5 then (some ((-4), Ir8, Lr8)) else (ck (inb a5 9) (some (Ir8 76 a5.toNatClampNeg, Ir8, Lr8))))) else (ck (inb ((8 * a3) + a4) 64) (some (Ir6 75 ((8 * a3) + a4).toNatClampNeg, Ir6, Lr6)))) else (some ((-4), Ir6, Lr6))))))))))))))
theorem ok_X11_way_67 {d : Nat} (hd : 4 ≤ d) {I : mI} {L : mL} {a1 : Int32} {a2 : Int32} {a3 : Int32} {a4 : Int32} {a5 : Int32} {o : Int32 × mI × mL} (h : f_X11_way_67 I L a1 a2 a3 a4 a5 = some o) : RR mX11_way d 0 [some (.ref 67), some (.int a1), some (.int a2), some (.int a3), some (.int a4), some (.int a5)] [] I L (retQ (some (.int o.1)) o.2.1 o.2.2) := by
  unfold f_X11_way_67 at h
  refine r_aload_n (i := 0) dX11_way_0 rfl rfl ?_
  refine r_iload_n (i := 1) dX11_way_1 rfl rfl ?_
  obtain ⟨r1, hr, h⟩ := bind_some h
  refine r_V (d' := 1) k_X11_97 dX11_way_2 (by omega) rfl rfl rfl (Nat.le_of_ble_eq_true rfl) (Nat.le_of_ble_eq_true rfl) (ok_X11_isCart_67 (Nat.le_refl _) hr) (fun v I' L' hq => ?_)
  obtain ⟨rfl, rfl, rfl⟩ := hq
  simp only [Option.toList_some, Option.toList_none, List.drop_succ_cons, List.drop_zero, List.drop_nil, List.cons_append, List.nil_append]
  refine r_if_eq (tgt := 52) dX11_way_5 (by decide) (fun c => ?_) (fun c => ?_)
  · rw [if_pos c] at h
    refine r_iconst (v := (-1)) dX11_way_52 (by decide) ?_
    refine r_iret (by first | rfl | decide) dX11_way_53 ?_
    obtain rfl := Option.some.inj h
    exact ⟨rfl, rfl, rfl⟩
  · rw [if_neg c] at h
    refine r_iload_n (i := 2) dX11_way_8 rfl rfl ?_
    refine r_i2l dX11_way_9 ?_
    refine r_lconst (v := 1) dX11_way_10 (by decide) ?_
    refine r_ldc2 n_X11_83 dX11_way_11 ?_
    obtain ⟨r2, hr, h⟩ := bind_some h
    refine r_S (d' := 0) k_X11_50 dX11_way_14 (by omega) rfl (Nat.le_of_ble_eq_true rfl) (Nat.le_of_ble_eq_true rfl) (ok_X11_in (Nat.le_refl _) hr) (fun v I' L' hq => ?_)
    obtain ⟨rfl, rfl, rfl⟩ := hq
    simp only [Option.toList_some, Option.toList_none, List.drop_succ_cons, List.drop_zero, List.drop_nil, List.cons_append, List.nil_append]
    refine r_if_eq (tgt := 52) dX11_way_17 (by decide) (fun c => ?_) (fun c => ?_)
    · rw [if_pos c] at h
      refine r_iconst (v := (-1)) dX11_way_52 (by decide) ?_
      refine r_iret (by first | rfl | decide) dX11_way_53 ?_
      obtain rfl := Option.some.inj h
      exact ⟨rfl, rfl, rfl⟩
    · rw [if_neg c] at h
      refine r_aload_n (i := 0) dX11_way_20 rfl rfl ?_
      refine r_iload_n (i := 3) dX11_way_21 rfl rfl ?_
      obtain ⟨r3, hr, h⟩ := bind_some h
      refine r_V (d' := 1) k_X11_68 dX11_way_22 (by omega) rfl rfl rfl (Nat.le_of_ble_eq_true rfl) (Nat.le_of_ble_eq_true rfl) (ok_X11_isParish_67 (Nat.le_refl _) hr) (fun v I' L' hq => ?_)
      obtain ⟨rfl, rfl, rfl⟩ := hq
      simp only [Option.toList_some, Option.toList_none, List.drop_succ_cons, List.drop_zero, List.drop_nil, List.cons_append, List.nil_append]
      refine r_if_eq (tgt := 52) dX11_way_25 (by decide) (fun c => ?_) (fun c => ?_)
      · rw [if_pos c] at h
        refine r_iconst (v := (-1)) dX11_way_52 (by decide) ?_
        refine r_iret (by first | rfl | decide) dX11_way_53 ?_
        obtain rfl := Option.some.inj h
        exact ⟨rfl, rfl, rfl⟩
      · rw [if_neg c] at h
        refine r_aload_n (i := 0) dX11_way_28 rfl rfl ?_
        refine r_iload dX11_way_29 rfl ?_
        obtain ⟨r4, hr, h⟩ := bind_some h
        refine r_V (d' := 1) k_X11_68 dX11_way_31 (by omega) rfl rfl rfl (Nat.le_of_ble_eq_true rfl) (Nat.le_of_ble_eq_true rfl) (ok_X11_isParish_67 (Nat.le_refl _) hr) (fun v I' L' hq => ?_)
        obtain ⟨rfl, rfl, rfl⟩ := hq
        simp only [Option.toList_some, Option.toList_none, List.drop_succ_cons, List.drop_zero, List.drop_nil, List.cons_append, List.nil_append]
        refine r_if_eq (tgt := 52) dX11_way_34 (by decide) (fun c => ?_) (fun c => ?_)
        · rw [if_pos c] at h
          refine r_iconst (v := (-1)) dX11_way_52 (by decide) ?_
          refine r_iret (by first | rfl | decide) dX11_way_53 ?_
          obtain rfl := Option.some.inj h
          exact ⟨rfl, rfl, rfl⟩
        · rw [if_neg c] at h
          refine r_iload dX11_way_37 rfl ?_
          refine r_i2l dX11_way_39 ?_
          refine r_ldc2 n_X11_160 dX11_way_40 ?_
          refine r_ldc2 n_X11_91 dX11_way_43 ?_
          obtain ⟨r5, hr, h⟩ := bind_some h
          refine r_S (d' := 0) k_X11_50 dX11_way_46 (by omega) rfl (Nat.le_of_ble_eq_true rfl) (Nat.le_of_ble_eq_true rfl) (ok_X11_in (Nat.le_refl _) hr) (fun v I' L' hq => ?_)
          obtain ⟨rfl, rfl, rfl⟩ := hq
          simp only [Option.toList_some, Option.toList_none, List.drop_succ_cons, List.drop_zero, List.drop_nil, List.cons_append, List.nil_append]
          refine r_if_ne (tgt := 54) dX11_way_49 (by decide) (fun c => ?_) (fun c => ?_)
          · rw [if_neg c] at h
            refine r_aload_n (i := 0) dX11_way_54 rfl rfl ?_
            refine r_iload_n (i := 1) dX11_way_55 rfl rfl ?_
            refine r_iload_n (i := 2) dX11_way_56 rfl rfl ?_
            refine r_iconst (v := 0) dX11_way_57 (by decide) ?_
            obtain ⟨⟨Ir6, Lr6⟩, hr, h⟩ := bind_some h
            refine r_V (d' := 3) k_X11_162 dX11_way_58 (by omega) rfl rfl rfl (Nat.le_of_ble_eq_true rfl) (Nat.le_of_ble_eq_true rfl) (ok_X11_layWays_67 (Nat.le_refl _) hr) (fun v I' L' hq => ?_)
            obtain ⟨rfl, rfl, rfl⟩ := hq
            simp only [Option.toList_some, Option.toList_none, List.drop_succ_cons, List.drop_zero, List.drop_nil, List.cons_append, List.nil_append]
            dsimp only at h
            refine r_aload_n (i := 0) dX11_way_61 rfl rfl ?_
            refine r_getR f_X11_32 dX11_way_62 rfl rfl ?_
            refine r_bipush (v := 8) dX11_way_65 (by decide) ?_
            refine r_iload_n (i := 3) dX11_way_67 rfl rfl ?_
            refine r_imul dX11_way_68 ?_
            refine r_iload dX11_way_69 rfl ?_
            refine r_iadd dX11_way_71 ?_
            obtain ⟨hb, h⟩ := ck_some h
            refine r_iald rfl (inb_vp hb) dX11_way_72 ?_
            refine r_ldc n_X11_151 dX11_way_73 ?_
            refine r_icmp_lt (tgt := 81) dX11_way_75 (by decide) (fun c => ?_) (fun c => ?_)
            · rw [if_pos c] at h
              refine r_iload dX11_way_81 rfl ?_
              refine r_if_ge (tgt := 99) dX11_way_83 (by decide) (fun c => ?_) (fun c => ?_)
              · rw [if_pos c] at h
                refine r_iload dX11_way_99 rfl ?_
                refine r_aload_n (i := 0) dX11_way_101 rfl rfl ?_
                refine r_iload_n (i := 1) dX11_way_102 rfl rfl ?_
                refine r_iload_n (i := 2) dX11_way_103 rfl rfl ?_
                refine r_iload_n (i := 3) dX11_way_104 rfl rfl ?_
                refine r_iload dX11_way_105 rfl ?_
                obtain ⟨⟨r8, Ir8, Lr8⟩, hr, h⟩ := bind_some h
                refine r_V (d' := 3) k_X11_166 dX11_way_107 (by omega) rfl rfl rfl (Nat.le_of_ble_eq_true rfl) (Nat.le_of_ble_eq_true rfl) (ok_X11_layPath_67 (Nat.le_refl _) hr) (fun v I' L' hq => ?_)
                obtain ⟨rfl, rfl, rfl⟩ := hq
                simp only [Option.toList_some, Option.toList_none, List.drop_succ_cons, List.drop_zero, List.drop_nil, List.cons_append, List.nil_append]
                dsimp only at h
                refine r_icmp_ge (tgt := 123) dX11_way_110 (by decide) (fun c => ?_) (fun c => ?_)
                · rw [if_pos c] at h
                  refine r_bipush (v := (-4)) dX11_way_123 (by decide) ?_
                  refine r_iret (by first | rfl | decide) dX11_way_125 ?_
                  obtain rfl := Option.some.inj h
                  exact ⟨rfl, rfl, rfl⟩
                · rw [if_neg c] at h
                  refine r_aload_n (i := 0) dX11_way_113 rfl rfl ?_
                  refine r_getR f_X11_35 dX11_way_114 rfl rfl ?_
                  refine r_iload dX11_way_117 rfl ?_
                  obtain ⟨hb, h⟩ := ck_some h
                  refine r_iald rfl (inb_vp hb) dX11_way_119 ?_
                  refine r_goto (tgt := 125) dX11_way_120 (by decide) ?_
                  refine r_iret (by first | rfl | decide) dX11_way_125 ?_
                  obtain rfl := Option.some.inj h
                  exact ⟨rfl, rfl, rfl⟩
              · rw [if_neg c] at h
                refine r_aload_n (i := 0) dX11_way_86 rfl rfl ?_
                refine r_getR f_X11_32 dX11_way_87 rfl rfl ?_
                refine r_bipush (v := 8) dX11_way_90 (by decide) ?_
                refine r_iload_n (i := 3) dX11_way_92 rfl rfl ?_
                refine r_imul dX11_way_93 ?_
                refine r_iload dX11_way_94 rfl ?_
                refine r_iadd dX11_way_96 ?_
                obtain ⟨hb, h⟩ := ck_some h
                refine r_iald rfl (inb_vp hb) dX11_way_97 ?_
                refine r_iret (by first | rfl | decide) dX11_way_98 ?_
                obtain rfl := Option.some.inj h
                exact ⟨rfl, rfl, rfl⟩
            · rw [if_neg c] at h
              refine r_bipush (v := (-4)) dX11_way_78 (by decide) ?_
              refine r_iret (by first | rfl | decide) dX11_way_80 ?_
              obtain rfl := Option.some.inj h
              exact ⟨rfl, rfl, rfl⟩
          · rw [if_pos c] at h
            refine r_iconst (v := (-1)) dX11_way_52 (by decide) ?_
            refine r_iret (by first | rfl | decide) dX11_way_53 ?_
            obtain rfl := Option.some.inj h
            exact ⟨rfl, rfl, rfl⟩
def f_X11_netOf_67 (I : mI) (L : mL) (a1 : Int32) (a2 : Int32) : Option Int32 := ck (inb (111 + a1) 135) (ck (inb ((8 * (I 68 (111 + a1).toNatClampNeg)) + a2) 64) (lt (I 75 ((8 * (I 68 (111 + a1).toNatClampNeg)) + a2).toNatClampNeg) (fun v1 => if v1 < 100000000 then (ck (inb (105 + a1) 135) (ck (inb (99 + a1) 135) ((f_X11_weight_67 I L a2 (I 68 (99 + a1).toNatClampNeg)).bind (fun r2 => some (((I 68 (105 + a1).toNatClampNeg) * r2) - v1))))) else (some (-100000000)))))
theorem ok_X11_netOf_67 {d : Nat} (hd : 2 ≤ d) {I : mI} {L : mL} {a1 : Int32} {a2 : Int32} {o : Int32} (h : f_X11_netOf_67 I L a1 a2 = some o) : RR mX11_netOf d 0 [some (.ref 67), some (.int a1), some (.int a2), none] [] I L (retQ (some (.int o)) I L) := by
  unfold f_X11_netOf_67 at h
  refine r_aload_n (i := 0) dX11_netOf_0 rfl rfl ?_
  refine r_getR f_X11_32 dX11_netOf_1 rfl rfl ?_
  refine r_bipush (v := 8) dX11_netOf_4 (by decide) ?_
  refine r_aload_n (i := 0) dX11_netOf_6 rfl rfl ?_
  refine r_getR f_X11_7 dX11_netOf_7 rfl rfl ?_
  refine r_bipush (v := 111) dX11_netOf_10 (by decide) ?_
  refine r_iload_n (i := 1) dX11_netOf_12 rfl rfl ?_
  refine r_iadd dX11_netOf_13 ?_
  obtain ⟨hb, h⟩ := ck_some h
  refine r_iald rfl (inb_vp hb) dX11_netOf_14 ?_
  refine r_imul dX11_netOf_15 ?_
  refine r_iload_n (i := 2) dX11_netOf_16 rfl rfl ?_
  refine r_iadd dX11_netOf_17 ?_
  obtain ⟨hb, h⟩ := ck_some h
  refine r_iald rfl (inb_vp hb) dX11_netOf_18 ?_
  refine r_istore_n (i := 3) dX11_netOf_19 rfl (by decide) rfl ?_
  simp only [List.set_cons_zero, List.set_cons_succ]
  replace h := lt_some h
  refine r_iload_n (i := 3) dX11_netOf_20 rfl rfl ?_
  refine r_ldc n_X11_151 dX11_netOf_21 ?_
  refine r_icmp_lt (tgt := 31) dX11_netOf_23 (by decide) (fun c => ?_) (fun c => ?_)
  · rw [if_pos c] at h
    refine r_aload_n (i := 0) dX11_netOf_31 rfl rfl ?_
    refine r_getR f_X11_7 dX11_netOf_32 rfl rfl ?_
    refine r_bipush (v := 105) dX11_netOf_35 (by decide) ?_
    refine r_iload_n (i := 1) dX11_netOf_37 rfl rfl ?_
    refine r_iadd dX11_netOf_38 ?_
    obtain ⟨hb, h⟩ := ck_some h
    refine r_iald rfl (inb_vp hb) dX11_netOf_39 ?_
    refine r_aload_n (i := 0) dX11_netOf_40 rfl rfl ?_
    refine r_iload_n (i := 2) dX11_netOf_41 rfl rfl ?_
    refine r_aload_n (i := 0) dX11_netOf_42 rfl rfl ?_
    refine r_getR f_X11_7 dX11_netOf_43 rfl rfl ?_
    refine r_bipush (v := 99) dX11_netOf_46 (by decide) ?_
    refine r_iload_n (i := 1) dX11_netOf_48 rfl rfl ?_
    refine r_iadd dX11_netOf_49 ?_
    obtain ⟨hb, h⟩ := ck_some h
    refine r_iald rfl (inb_vp hb) dX11_netOf_50 ?_
    obtain ⟨r2, hr, h⟩ := bind_some h
    refine r_V (d' := 1) k_X11_88 dX11_netOf_51 (by omega) rfl rfl rfl (Nat.le_of_ble_eq_true rfl) (Nat.le_of_ble_eq_true rfl) (ok_X11_weight_67 (Nat.le_refl _) hr) (fun v I' L' hq => ?_)
    obtain ⟨rfl, rfl, rfl⟩ := hq
    simp only [Option.toList_some, Option.toList_none, List.drop_succ_cons, List.drop_zero, List.drop_nil, List.cons_append, List.nil_append]
    refine r_imul dX11_netOf_54 ?_
    refine r_iload_n (i := 3) dX11_netOf_55 rfl rfl ?_
    refine r_isub dX11_netOf_56 ?_
    refine r_iret (by first | rfl | decide) dX11_netOf_57 ?_
    obtain rfl := Option.some.inj h
    exact ⟨rfl, rfl, rfl⟩
  · rw [if_neg c] at h
    refine r_ldc n_X11_170 dX11_netOf_26 ?_
    refine r_goto (tgt := 57) dX11_netOf_28 (by decide) ?_
    refine r_iret (by first | rfl | decide) dX11_netOf_57 ?_
    obtain rfl := Option.some.inj h
    exact ⟨rfl, rfl, rfl⟩
def f_X11_net_67 (I : mI) (L : mL) (a1 : Int32) (a2 : Int32) (a3 : Int32) : rI := (f_X11_isGood_67 I L a1).bind (fun r1 => if r1 = 0 then (some ((-1000001), I, L)) else ((f_X11_isParish_67 I L a2).bind (fun r2 => if r2 = 0 then (some ((-1000001), I, L)) else ((f_X11_isCart_67 I L a3).bind (fun r3 => if r3 = 0 then (some ((-1000001), I, L)) else (ck (inb (99 + a1) 135) (bndV (f_X11_layWays_67 I L a3 (I 68 (99 + a1).toNatClampNeg) 0) (fun Ir4 Lr4 => (f_X11_netOf_67 Ir4 Lr4 a1 a2).bind (fun r6 => if r6 = (-100000000) then (some ((-1000004), Ir4, Lr4)) else (some (r6, Ir4, Lr4)))))))))))
theorem ok_X11_net_67 {d : Nat} (hd : 4 ≤ d) {I : mI} {L : mL} {a1 : Int32} {a2 : Int32} {a3 : Int32} {o : Int32 × mI × mL} (h : f_X11_net_67 I L a1 a2 a3 = some o) : RR mX11_net d 0 [some (.ref 67), some (.int a1), some (.int a2), some (.int a3), none] [] I L (retQ (some (.int o.1)) o.2.1 o.2.2) := by
  unfold f_X11_net_67 at h
  refine r_aload_n (i := 0) dX11_net_0 rfl rfl ?_
  refine r_iload_n (i := 1) dX11_net_1 rfl rfl ?_
  obtain ⟨r1, hr, h⟩ := bind_some h
  refine r_V (d' := 1) k_X11_85 dX11_net_2 (by omega) rfl rfl rfl (Nat.le_of_ble_eq_true rfl) (Nat.le_of_ble_eq_true rfl) (ok_X11_isGood_67 (Nat.le_refl _) hr) (fun v I' L' hq => ?_)
  obtain ⟨rfl, rfl, rfl⟩ := hq
  simp only [Option.toList_some, Option.toList_none, List.drop_succ_cons, List.drop_zero, List.drop_nil, List.cons_append, List.nil_append]
  refine r_if_eq (tgt := 24) dX11_net_5 (by decide) (fun c => ?_) (fun c => ?_)
  · rw [if_pos c] at h
    refine r_ldc n_X11_171 dX11_net_24 ?_
    refine r_iret (by first | rfl | decide) dX11_net_26 ?_
    obtain rfl := Option.some.inj h
    exact ⟨rfl, rfl, rfl⟩
  · rw [if_neg c] at h
    refine r_aload_n (i := 0) dX11_net_8 rfl rfl ?_
    refine r_iload_n (i := 2) dX11_net_9 rfl rfl ?_
    obtain ⟨r2, hr, h⟩ := bind_some h
    refine r_V (d' := 1) k_X11_68 dX11_net_10 (by omega) rfl rfl rfl (Nat.le_of_ble_eq_true rfl) (Nat.le_of_ble_eq_true rfl) (ok_X11_isParish_67 (Nat.le_refl _) hr) (fun v I' L' hq => ?_)
    obtain ⟨rfl, rfl, rfl⟩ := hq
    simp only [Option.toList_some, Option.toList_none, List.drop_succ_cons, List.drop_zero, List.drop_nil, List.cons_append, List.nil_append]
    refine r_if_eq (tgt := 24) dX11_net_13 (by decide) (fun c => ?_) (fun c => ?_)
    · rw [if_pos c] at h
      refine r_ldc n_X11_171 dX11_net_24 ?_
      refine r_iret (by first | rfl | decide) dX11_net_26 ?_
      obtain rfl := Option.some.inj h
      exact ⟨rfl, rfl, rfl⟩
    · rw [if_neg c] at h
      refine r_aload_n (i := 0) dX11_net_16 rfl rfl ?_
      refine r_iload_n (i := 3) dX11_net_17 rfl rfl ?_
      obtain ⟨r3, hr, h⟩ := bind_some h
      refine r_V (d' := 1) k_X11_97 dX11_net_18 (by omega) rfl rfl rfl (Nat.le_of_ble_eq_true rfl) (Nat.le_of_ble_eq_true rfl) (ok_X11_isCart_67 (Nat.le_refl _) hr) (fun v I' L' hq => ?_)
      obtain ⟨rfl, rfl, rfl⟩ := hq
      simp only [Option.toList_some, Option.toList_none, List.drop_succ_cons, List.drop_zero, List.drop_nil, List.cons_append, List.nil_append]
      refine r_if_ne (tgt := 27) dX11_net_21 (by decide) (fun c => ?_) (fun c => ?_)
      · rw [if_neg c] at h
        refine r_aload_n (i := 0) dX11_net_27 rfl rfl ?_
        refine r_iload_n (i := 3) dX11_net_28 rfl rfl ?_
        refine r_aload_n (i := 0) dX11_net_29 rfl rfl ?_
        refine r_getR f_X11_7 dX11_net_30 rfl rfl ?_
        refine r_bipush (v := 99) dX11_net_33 (by decide) ?_
        refine r_iload_n (i := 1) dX11_net_35 rfl rfl ?_
        refine r_iadd dX11_net_36 ?_
        obtain ⟨hb, h⟩ := ck_some h
        refine r_iald rfl (inb_vp hb) dX11_net_37 ?_
        refine r_iconst (v := 0) dX11_net_38 (by decide) ?_
        obtain ⟨⟨Ir4, Lr4⟩, hr, h⟩ := bind_some h
        refine r_V (d' := 3) k_X11_162 dX11_net_39 (by omega) rfl rfl rfl (Nat.le_of_ble_eq_true rfl) (Nat.le_of_ble_eq_true rfl) (ok_X11_layWays_67 (Nat.le_refl _) hr) (fun v I' L' hq => ?_)
        obtain ⟨rfl, rfl, rfl⟩ := hq
        simp only [Option.toList_some, Option.toList_none, List.drop_succ_cons, List.drop_zero, List.drop_nil, List.cons_append, List.nil_append]
        dsimp only at h
        refine r_aload_n (i := 0) dX11_net_42 rfl rfl ?_
        refine r_iload_n (i := 1) dX11_net_43 rfl rfl ?_
        refine r_iload_n (i := 2) dX11_net_44 rfl rfl ?_
        obtain ⟨r6, hr, h⟩ := bind_some h
        refine r_V (d' := 2) k_X11_172 dX11_net_45 (by omega) rfl rfl rfl (Nat.le_of_ble_eq_true rfl) (Nat.le_of_ble_eq_true rfl) (ok_X11_netOf_67 (Nat.le_refl _) hr) (fun v I' L' hq => ?_)
        obtain ⟨rfl, rfl, rfl⟩ := hq
        simp only [Option.toList_some, Option.toList_none, List.drop_succ_cons, List.drop_zero, List.drop_nil, List.cons_append, List.nil_append]
        refine r_istore dX11_net_48 (by decide) rfl ?_
        simp only [List.set_cons_zero, List.set_cons_succ]
        refine r_iload dX11_net_50 rfl ?_
        refine r_ldc n_X11_170 dX11_net_52 ?_
        refine r_icmp_ne (tgt := 62) dX11_net_54 (by decide) (fun c => ?_) (fun c => ?_)
        · rw [if_neg c] at h
          refine r_iload dX11_net_62 rfl ?_
          refine r_iret (by first | rfl | decide) dX11_net_64 ?_
          obtain rfl := Option.some.inj h
          exact ⟨rfl, rfl, rfl⟩
        · rw [if_pos c] at h
          refine r_ldc n_X11_175 dX11_net_57 ?_
          refine r_goto (tgt := 64) dX11_net_59 (by decide) ?_
          refine r_iret (by first | rfl | decide) dX11_net_64 ?_
          obtain rfl := Option.some.inj h
          exact ⟨rfl, rfl, rfl⟩
      · rw [if_pos c] at h
        refine r_ldc n_X11_171 dX11_net_24 ?_
        refine r_iret (by first | rfl | decide) dX11_net_26 ?_
        obtain rfl := Option.some.inj h
        exact ⟨rfl, rfl, rfl⟩
def f_X11_marketOf_67_l22 : Nat → Int32 → Int32 → Int32 → mI → mL → rI
  | 0, _, _, _, _, _ => none
  | n + 1, x1, x4, x5, I, L => if (I 68 (0 : Int32).toNatClampNeg) ≤ x5 then (some (x4, I, L)) else ((f_X11_netOf_67 I L x1 x5).bind (fun r3 => if r3 ≤ (-100000000) then (lt (x5 + Int32.ofInt 1) (fun v4 => f_X11_marketOf_67_l22 n x1 x4 v4 I L)) else (if x4 = (-4) then (lt (x5 + Int32.ofInt 1) (fun v5 => f_X11_marketOf_67_l22 n x1 x5 v5 I L)) else ((f_X11_netOf_67 I L x1 x4).bind (fun r6 => if r3 ≤ r6 then (lt (x5 + Int32.ofInt 1) (fun v7 => f_X11_marketOf_67_l22 n x1 x4 v7 I L)) else (lt (x5 + Int32.ofInt 1) (fun v8 => f_X11_marketOf_67_l22 n x1 x5 v8 I L)))))))
theorem ok_X11_marketOf_67_l22 {d : Nat} (hd : 4 ≤ d) : ∀ (n : Nat) (x1 : Int32) (x4 : Int32) (x5 : Int32) (I : mI) (L : mL) (o : Int32 × mI × mL), f_X11_marketOf_67_l22 n x1 x4 x5 I L = some o → RR mX11_marketOf d 22 [some (.ref 67), some (.int x1), none, none, some (.int x4), some (.int x5), none] [] I L (retQ (some (.int o.1)) o.2.1 o.2.2) := by
  intro n
  induction n with
  | zero => intro x1 x4 x5 I L o h; rw [f_X11_marketOf_67_l22] at h; cases h
  | succ n ih =>
    intro x1 x4 x5 I L o h
    rw [f_X11_marketOf_67_l22] at h
    refine r_iload dX11_marketOf_22 rfl ?_
    refine r_aload_n (i := 0) dX11_marketOf_24 rfl rfl ?_
    refine r_getR f_X11_7 dX11_marketOf_25 rfl rfl ?_
    refine r_iconst (v := 0) dX11_marketOf_28 (by decide) ?_
    refine r_iald rfl (vp_lit (by decide)) dX11_marketOf_29 ?_
    refine r_icmp_ge (tgt := 83) dX11_marketOf_30 (by decide) (fun c => ?_) (fun c => ?_)
    · rw [if_pos c] at h
      refine r_iload dX11_marketOf_83 rfl ?_
      refine r_iret (by first | rfl | decide) dX11_marketOf_85 ?_
      obtain rfl := Option.some.inj h
      exact ⟨rfl, rfl, rfl⟩
    · rw [if_neg c] at h
      refine r_aload_n (i := 0) dX11_marketOf_33 rfl rfl ?_
      refine r_iload_n (i := 1) dX11_marketOf_34 rfl rfl ?_
      refine r_iload dX11_marketOf_35 rfl ?_
      obtain ⟨r3, hr, h⟩ := bind_some h
      refine r_V (d' := 2) k_X11_172 dX11_marketOf_37 (by omega) rfl rfl rfl (Nat.le_of_ble_eq_true rfl) (Nat.le_of_ble_eq_true rfl) (ok_X11_netOf_67 (Nat.le_refl _) hr) (fun v I' L' hq => ?_)
      obtain ⟨rfl, rfl, rfl⟩ := hq
      simp only [Option.toList_some, Option.toList_none, List.drop_succ_cons, List.drop_zero, List.drop_nil, List.cons_append, List.nil_append]
      refine r_istore dX11_marketOf_40 (by decide) rfl ?_
      simp only [List.set_cons_zero, List.set_cons_succ]
      refine r_iload dX11_marketOf_42 rfl ?_
      refine r_ldc n_X11_170 dX11_marketOf_44 ?_
      refine r_icmp_le (tgt := 73) dX11_marketOf_46 (by decide) (fun c => ?_) (fun c => ?_)
      · rw [if_pos c] at h
        refine r_iload dX11_marketOf_73 rfl ?_
        refine r_istore dX11_marketOf_75 (by decide) rfl ?_
        simp only [List.set_cons_zero, List.set_cons_succ]
        refine r_iinc (v := _) dX11_marketOf_77 rfl rfl (by decide) rfl ?_
        simp only [List.set_cons_zero, List.set_cons_succ]
        replace h := lt_some h
        refine r_goto (tgt := 22) dX11_marketOf_80 (by decide) ?_
        exact RR.wk (ih _ _ _ _ _ _ h) (And.intro rfl (And.intro rfl (And.intro rfl (And.intro rfl (trivial)))))
      · rw [if_neg c] at h
        refine r_iload dX11_marketOf_49 rfl ?_
        refine r_bipush (v := (-4)) dX11_marketOf_51 (by decide) ?_
        refine r_icmp_eq (tgt := 68) dX11_marketOf_53 (by decide) (fun c => ?_) (fun c => ?_)
        · rw [if_pos c] at h
          refine r_iload dX11_marketOf_68 rfl ?_
          refine r_goto (tgt := 75) dX11_marketOf_70 (by decide) ?_
          refine r_istore dX11_marketOf_75 (by decide) rfl ?_
          simp only [List.set_cons_zero, List.set_cons_succ]
          refine r_iinc (v := _) dX11_marketOf_77 rfl rfl (by decide) rfl ?_
          simp only [List.set_cons_zero, List.set_cons_succ]
          replace h := lt_some h
          refine r_goto (tgt := 22) dX11_marketOf_80 (by decide) ?_
          exact RR.wk (ih _ _ _ _ _ _ h) (And.intro rfl (And.intro rfl (And.intro rfl (And.intro rfl (trivial)))))
        · rw [if_neg c] at h
          refine r_iload dX11_marketOf_56 rfl ?_
          refine r_aload_n (i := 0) dX11_marketOf_58 rfl rfl ?_
          refine r_iload_n (i := 1) dX11_marketOf_59 rfl rfl ?_
          refine r_iload dX11_marketOf_60 rfl ?_
          obtain ⟨r6, hr, h⟩ := bind_some h
          refine r_V (d' := 2) k_X11_172 dX11_marketOf_62 (by omega) rfl rfl rfl (Nat.le_of_ble_eq_true rfl) (Nat.le_of_ble_eq_true rfl) (ok_X11_netOf_67 (Nat.le_refl _) hr) (fun v I' L' hq => ?_)
          obtain ⟨rfl, rfl, rfl⟩ := hq
          simp only [Option.toList_some, Option.toList_none, List.drop_succ_cons, List.drop_zero, List.drop_nil, List.cons_append, List.nil_append]
          refine r_icmp_le (tgt := 73) dX11_marketOf_65 (by decide) (fun c => ?_) (fun c => ?_)
          · rw [if_pos c] at h
            refine r_iload dX11_marketOf_73 rfl ?_
            refine r_istore dX11_marketOf_75 (by decide) rfl ?_
            simp only [List.set_cons_zero, List.set_cons_succ]
            refine r_iinc (v := _) dX11_marketOf_77 rfl rfl (by decide) rfl ?_
            simp only [List.set_cons_zero, List.set_cons_succ]
            replace h := lt_some h
            refine r_goto (tgt := 22) dX11_marketOf_80 (by decide) ?_
            exact RR.wk (ih _ _ _ _ _ _ h) (And.intro rfl (And.intro rfl (And.intro rfl (And.intro rfl (trivial)))))
          · rw [if_neg c] at h
            refine r_iload dX11_marketOf_68 rfl ?_
            refine r_goto (tgt := 75) dX11_marketOf_70 (by decide) ?_
            refine r_istore dX11_marketOf_75 (by decide) rfl ?_
            simp only [List.set_cons_zero, List.set_cons_succ]
            refine r_iinc (v := _) dX11_marketOf_77 rfl rfl (by decide) rfl ?_
            simp only [List.set_cons_zero, List.set_cons_succ]
            replace h := lt_some h
            refine r_goto (tgt := 22) dX11_marketOf_80 (by decide) ?_
            exact RR.wk (ih _ _ _ _ _ _ h) (And.intro rfl (And.intro rfl (And.intro rfl (And.intro rfl (trivial)))))
def f_X11_marketOf_67 (I : mI) (L : mL) (a1 : Int32) (a2 : Int32) (a3 : Int32) : rI := ck (inb (99 + a1) 135) (bndV (f_X11_layWays_67 I L a2 (I 68 (99 + a1).toNatClampNeg) a3) (fun Ir1 Lr1 => f_X11_marketOf_67_l22 fuel a1 (-4) 0 Ir1 Lr1))
theorem ok_X11_marketOf_67 {d : Nat} (hd : 4 ≤ d) {I : mI} {L : mL} {a1 : Int32} {a2 : Int32} {a3 : Int32} {o : Int32 × mI × mL} (h : f_X11_marketOf_67 I L a1 a2 a3 = some o) : RR mX11_marketOf d 0 [some (.ref 67), some (.int a1), some (.int a2), some (.int a3), none, none, none] [] I L (retQ (some (.int o.1)) o.2.1 o.2.2) := by
  unfold f_X11_marketOf_67 at h
  refine r_aload_n (i := 0) dX11_marketOf_0 rfl rfl ?_
  refine r_iload_n (i := 2) dX11_marketOf_1 rfl rfl ?_
  refine r_aload_n (i := 0) dX11_marketOf_2 rfl rfl ?_
  refine r_getR f_X11_7 dX11_marketOf_3 rfl rfl ?_
  refine r_bipush (v := 99) dX11_marketOf_6 (by decide) ?_
  refine r_iload_n (i := 1) dX11_marketOf_8 rfl rfl ?_
  refine r_iadd dX11_marketOf_9 ?_
  obtain ⟨hb, h⟩ := ck_some h
  refine r_iald rfl (inb_vp hb) dX11_marketOf_10 ?_
  refine r_iload_n (i := 3) dX11_marketOf_11 rfl rfl ?_
  obtain ⟨⟨Ir1, Lr1⟩, hr, h⟩ := bind_some h
  refine r_V (d' := 3) k_X11_162 dX11_marketOf_12 (by omega) rfl rfl rfl (Nat.le_of_ble_eq_true rfl) (Nat.le_of_ble_eq_true rfl) (ok_X11_layWays_67 (Nat.le_refl _) hr) (fun v I' L' hq => ?_)
  obtain ⟨rfl, rfl, rfl⟩ := hq
  simp only [Option.toList_some, Option.toList_none, List.drop_succ_cons, List.drop_zero, List.drop_nil, List.cons_append, List.nil_append]
  dsimp only at h
  refine r_bipush (v := (-4)) dX11_marketOf_15 (by decide) ?_
  refine r_istore dX11_marketOf_17 (by decide) rfl ?_
  simp only [List.set_cons_zero, List.set_cons_succ]
  refine r_iconst (v := 0) dX11_marketOf_19 (by decide) ?_
  refine r_istore dX11_marketOf_20 (by decide) rfl ?_
  simp only [List.set_cons_zero, List.set_cons_succ]
  exact RR.wk (ok_X11_marketOf_67_l22 hd _ _ _ _ _ _ _ h) (And.intro rfl (And.intro rfl (And.intro rfl (And.intro rfl (trivial)))))
def f_X11_market_67 (I : mI) (L : mL) (a1 : Int32) (a2 : Int32) : rI := (f_X11_isGood_67 I L a1).bind (fun r1 => if r1 = 0 then (some ((-1), I, L)) else ((f_X11_isCart_67 I L a2).bind (fun r2 => if r2 = 0 then (some ((-1), I, L)) else (bndI (f_X11_marketOf_67 I L a1 a2 0) (fun r3 Ir3 Lr3 => some (r3, Ir3, Lr3))))))
theorem ok_X11_market_67 {d : Nat} (hd : 5 ≤ d) {I : mI} {L : mL} {a1 : Int32} {a2 : Int32} {o : Int32 × mI × mL} (h : f_X11_market_67 I L a1 a2 = some o) : RR mX11_market d 0 [some (.ref 67), some (.int a1), some (.int a2)] [] I L (retQ (some (.int o.1)) o.2.1 o.2.2) := by
  unfold f_X11_market_67 at h
  refine r_aload_n (i := 0) dX11_market_0 rfl rfl ?_
  refine r_iload_n (i := 1) dX11_market_1 rfl rfl ?_
  obtain ⟨r1, hr, h⟩ := bind_some h
  refine r_V (d' := 1) k_X11_85 dX11_market_2 (by omega) rfl rfl rfl (Nat.le_of_ble_eq_true rfl) (Nat.le_of_ble_eq_true rfl) (ok_X11_isGood_67 (Nat.le_refl _) hr) (fun v I' L' hq => ?_)
  obtain ⟨rfl, rfl, rfl⟩ := hq
  simp only [Option.toList_some, Option.toList_none, List.drop_succ_cons, List.drop_zero, List.drop_nil, List.cons_append, List.nil_append]
  refine r_if_eq (tgt := 26) dX11_market_5 (by decide) (fun c => ?_) (fun c => ?_)
  · rw [if_pos c] at h
    refine r_iconst (v := (-1)) dX11_market_26 (by decide) ?_
    refine r_iret (by first | rfl | decide) dX11_market_27 ?_
    obtain rfl := Option.some.inj h
    exact ⟨rfl, rfl, rfl⟩
  · rw [if_neg c] at h
    refine r_aload_n (i := 0) dX11_market_8 rfl rfl ?_
    refine r_iload_n (i := 2) dX11_market_9 rfl rfl ?_
    obtain ⟨r2, hr, h⟩ := bind_some h
    refine r_V (d' := 1) k_X11_97 dX11_market_10 (by omega) rfl rfl rfl (Nat.le_of_ble_eq_true rfl) (Nat.le_of_ble_eq_true rfl) (ok_X11_isCart_67 (Nat.le_refl _) hr) (fun v I' L' hq => ?_)
    obtain ⟨rfl, rfl, rfl⟩ := hq
    simp only [Option.toList_some, Option.toList_none, List.drop_succ_cons, List.drop_zero, List.drop_nil, List.cons_append, List.nil_append]
    refine r_if_eq (tgt := 26) dX11_market_13 (by decide) (fun c => ?_) (fun c => ?_)
    · rw [if_pos c] at h
      refine r_iconst (v := (-1)) dX11_market_26 (by decide) ?_
      refine r_iret (by first | rfl | decide) dX11_market_27 ?_
      obtain rfl := Option.some.inj h
      exact ⟨rfl, rfl, rfl⟩
    · rw [if_neg c] at h
      refine r_aload_n (i := 0) dX11_market_16 rfl rfl ?_
      refine r_iload_n (i := 1) dX11_market_17 rfl rfl ?_
      refine r_iload_n (i := 2) dX11_market_18 rfl rfl ?_
      refine r_iconst (v := 0) dX11_market_19 (by decide) ?_
      obtain ⟨⟨r3, Ir3, Lr3⟩, hr, h⟩ := bind_some h
      refine r_V (d' := 4) k_X11_176 dX11_market_20 (by omega) rfl rfl rfl (Nat.le_of_ble_eq_true rfl) (Nat.le_of_ble_eq_true rfl) (ok_X11_marketOf_67 (Nat.le_refl _) hr) (fun v I' L' hq => ?_)
      obtain ⟨rfl, rfl, rfl⟩ := hq
      simp only [Option.toList_some, Option.toList_none, List.drop_succ_cons, List.drop_zero, List.drop_nil, List.cons_append, List.nil_append]
      dsimp only at h
      refine r_goto (tgt := 27) dX11_market_23 (by decide) ?_
      refine r_iret (by first | rfl | decide) dX11_market_27 ?_
      obtain rfl := Option.some.inj h
      exact ⟨rfl, rfl, rfl⟩
def f_X11_trade_67_l65 (k51 : Int32 → Int32 → Int32 → Int32 → Int32 → mI → mL → rI) : Nat → Int32 → Int32 → Int32 → Int32 → Int32 → Int32 → mI → mL → rI
  | 0, _, _, _, _, _, _, _, _ => none
  | n + 1, x1, x3, x4, x5, x6, x7, I, L => if (I 68 (0 : Int32).toNatClampNeg) ≤ x7 then (lt (x6 + Int32.ofInt 1) (fun v6 => k51 x1 x3 x4 x5 v6 I L)) else (ck (inb ((8 * x6) + x7) 64) (lt (I 75 ((8 * x6) + x7).toNatClampNeg) (fun v7 => ck (inb (105 + x1) 135) (ck (inb (99 + x1) 135) ((f_X11_weight_67 I L x7 (I 68 (99 + x1).toNatClampNeg)).bind (fun r8 => ck (inb (99 + x1) 135) ((f_X11_weight_67 I L x6 (I 68 (99 + x1).toNatClampNeg)).bind (fun r9 => lt (((I 68 (105 + x1).toNatClampNeg) * (r8 - r9)) - v7) (fun v10 => if x6 = x7 then (lt (x7 + Int32.ofInt 1) (fun v11 => f_X11_trade_67_l65 k51 n x1 x3 x4 x5 x6 v11 I L)) else (if 100000000 ≤ v7 then (lt (x7 + Int32.ofInt 1) (fun v12 => f_X11_trade_67_l65 k51 n x1 x3 x4 x5 x6 v12 I L)) else (if v10 ≤ x4 then (lt (x7 + Int32.ofInt 1) (fun v13 => f_X11_trade_67_l65 k51 n x1 x3 x4 x5 x6 v13 I L)) else (lt ((10 * x6) + x7) (fun v14 => lt (x7 + Int32.ofInt 1) (fun v15 => f_X11_trade_67_l65 k51 n x1 x3 v10 v14 x6 v15 I L))))))))))))))
theorem ok_X11_trade_67_l65 {d : Nat} (hd : 4 ≤ d) {k51 : Int32 → Int32 → Int32 → Int32 → Int32 → mI → mL → rI} (hk51 : ∀ (x1 : Int32) (x3 : Int32) (x4 : Int32) (x5 : Int32) (x6 : Int32) (I : mI) (L : mL) (o : Int32 × mI × mL), k51 x1 x3 x4 x5 x6 I L = some o → RR mX11_trade d 51 [some (.ref 67), some (.int x1), none, some (.int x3), some (.int x4), some (.int x5), some (.int x6), none, none, none] [] I L (retQ (some (.int o.1)) o.2.1 o.2.2)) : ∀ (n : Nat) (x1 : Int32) (x3 : Int32) (x4 : Int32) (x5 : Int32) (x6 : Int32) (x7 : Int32) (I : mI) (L : mL) (o : Int32 × mI × mL), f_X11_trade_67_l65 k51 n x1 x3 x4 x5 x6 x7 I L = some o → RR mX11_trade d 65 [some (.ref 67), some (.int x1), none, some (.int x3), some (.int x4), some (.int x5), some (.int x6), some (.int x7), none, none] [] I L (retQ (some (.int o.1)) o.2.1 o.2.2) := by
  intro n
  induction n with
  | zero => intro x1 x3 x4 x5 x6 x7 I L o h; rw [f_X11_trade_67_l65] at h; cases h
  | succ n ih =>
    intro x1 x3 x4 x5 x6 x7 I L o h
    rw [f_X11_trade_67_l65] at h
    refine r_iload dX11_trade_65 rfl ?_
    refine r_aload_n (i := 0) dX11_trade_67 rfl rfl ?_
    refine r_getR f_X11_7 dX11_trade_68 rfl rfl ?_
    refine r_iconst (v := 0) dX11_trade_71 (by decide) ?_
    refine r_iald rfl (vp_lit (by decide)) dX11_trade_72 ?_
    refine r_icmp_ge (tgt := 178) dX11_trade_73 (by decide) (fun c => ?_) (fun c => ?_)
    · rw [if_pos c] at h
      refine r_iinc (v := _) dX11_trade_178 rfl rfl (by decide) rfl ?_
      simp only [List.set_cons_zero, List.set_cons_succ]
      replace h := lt_some h
      refine r_goto (tgt := 51) dX11_trade_181 (by decide) ?_
      exact RR.wk (hk51 _ _ _ _ _ _ _ _ h) (And.intro rfl (And.intro rfl (And.intro rfl (And.intro rfl (And.intro rfl (And.intro rfl (trivial)))))))
    · rw [if_neg c] at h
      refine r_aload_n (i := 0) dX11_trade_76 rfl rfl ?_
      refine r_getR f_X11_32 dX11_trade_77 rfl rfl ?_
      refine r_bipush (v := 8) dX11_trade_80 (by decide) ?_
      refine r_iload dX11_trade_82 rfl ?_
      refine r_imul dX11_trade_84 ?_
      refine r_iload dX11_trade_85 rfl ?_
      refine r_iadd dX11_trade_87 ?_
      obtain ⟨hb, h⟩ := ck_some h
      refine r_iald rfl (inb_vp hb) dX11_trade_88 ?_
      refine r_istore dX11_trade_89 (by decide) rfl ?_
      simp only [List.set_cons_zero, List.set_cons_succ]
      replace h := lt_some h
      refine r_aload_n (i := 0) dX11_trade_91 rfl rfl ?_
      refine r_getR f_X11_7 dX11_trade_92 rfl rfl ?_
      refine r_bipush (v := 105) dX11_trade_95 (by decide) ?_
      refine r_iload_n (i := 1) dX11_trade_97 rfl rfl ?_
      refine r_iadd dX11_trade_98 ?_
      obtain ⟨hb, h⟩ := ck_some h
      refine r_iald rfl (inb_vp hb) dX11_trade_99 ?_
      refine r_aload_n (i := 0) dX11_trade_100 rfl rfl ?_
      refine r_iload dX11_trade_101 rfl ?_
      refine r_aload_n (i := 0) dX11_trade_103 rfl rfl ?_
      refine r_getR f_X11_7 dX11_trade_104 rfl rfl ?_
      refine r_bipush (v := 99) dX11_trade_107 (by decide) ?_
      refine r_iload_n (i := 1) dX11_trade_109 rfl rfl ?_
      refine r_iadd dX11_trade_110 ?_
      obtain ⟨hb, h⟩ := ck_some h
      refine r_iald rfl (inb_vp hb) dX11_trade_111 ?_
      obtain ⟨r8, hr, h⟩ := bind_some h
      refine r_V (d' := 1) k_X11_88 dX11_trade_112 (by omega) rfl rfl rfl (Nat.le_of_ble_eq_true rfl) (Nat.le_of_ble_eq_true rfl) (ok_X11_weight_67 (Nat.le_refl _) hr) (fun v I' L' hq => ?_)
      obtain ⟨rfl, rfl, rfl⟩ := hq
      simp only [Option.toList_some, Option.toList_none, List.drop_succ_cons, List.drop_zero, List.drop_nil, List.cons_append, List.nil_append]
      refine r_aload_n (i := 0) dX11_trade_115 rfl rfl ?_
      refine r_iload dX11_trade_116 rfl ?_
      refine r_aload_n (i := 0) dX11_trade_118 rfl rfl ?_
      refine r_getR f_X11_7 dX11_trade_119 rfl rfl ?_
      refine r_bipush (v := 99) dX11_trade_122 (by decide) ?_
      refine r_iload_n (i := 1) dX11_trade_124 rfl rfl ?_
      refine r_iadd dX11_trade_125 ?_
      obtain ⟨hb, h⟩ := ck_some h
      refine r_iald rfl (inb_vp hb) dX11_trade_126 ?_
      obtain ⟨r9, hr, h⟩ := bind_some h
      refine r_V (d' := 1) k_X11_88 dX11_trade_127 (by omega) rfl rfl rfl (Nat.le_of_ble_eq_true rfl) (Nat.le_of_ble_eq_true rfl) (ok_X11_weight_67 (Nat.le_refl _) hr) (fun v I' L' hq => ?_)
      obtain ⟨rfl, rfl, rfl⟩ := hq
      simp only [Option.toList_some, Option.toList_none, List.drop_succ_cons, List.drop_zero, List.drop_nil, List.cons_append, List.nil_append]
      refine r_isub dX11_trade_130 ?_
      refine r_imul dX11_trade_131 ?_
      refine r_iload dX11_trade_132 rfl ?_
      refine r_isub dX11_trade_134 ?_
      refine r_istore dX11_trade_135 (by decide) rfl ?_
      simp only [List.set_cons_zero, List.set_cons_succ]
      replace h := lt_some h
      refine r_iload dX11_trade_137 rfl ?_
      refine r_iload dX11_trade_139 rfl ?_
      refine r_icmp_eq (tgt := 172) dX11_trade_141 (by decide) (fun c => ?_) (fun c => ?_)
      · rw [if_pos c] at h
        refine r_iinc (v := _) dX11_trade_172 rfl rfl (by decide) rfl ?_
        simp only [List.set_cons_zero, List.set_cons_succ]
        replace h := lt_some h
        refine r_goto (tgt := 65) dX11_trade_175 (by decide) ?_
        exact RR.wk (ih _ _ _ _ _ _ _ _ _ h) (And.intro rfl (And.intro rfl (And.intro rfl (And.intro rfl (And.intro rfl (And.intro rfl (And.intro rfl (trivial))))))))
      · rw [if_neg c] at h
        refine r_iload dX11_trade_144 rfl ?_
        refine r_ldc n_X11_151 dX11_trade_146 ?_
        refine r_icmp_ge (tgt := 172) dX11_trade_148 (by decide) (fun c => ?_) (fun c => ?_)
        · rw [if_pos c] at h
          refine r_iinc (v := _) dX11_trade_172 rfl rfl (by decide) rfl ?_
          simp only [List.set_cons_zero, List.set_cons_succ]
          replace h := lt_some h
          refine r_goto (tgt := 65) dX11_trade_175 (by decide) ?_
          exact RR.wk (ih _ _ _ _ _ _ _ _ _ h) (And.intro rfl (And.intro rfl (And.intro rfl (And.intro rfl (And.intro rfl (And.intro rfl (And.intro rfl (trivial))))))))
        · rw [if_neg c] at h
          refine r_iload dX11_trade_151 rfl ?_
          refine r_iload dX11_trade_153 rfl ?_
          refine r_icmp_le (tgt := 172) dX11_trade_155 (by decide) (fun c => ?_) (fun c => ?_)
          · rw [if_pos c] at h
            refine r_iinc (v := _) dX11_trade_172 rfl rfl (by decide) rfl ?_
            simp only [List.set_cons_zero, List.set_cons_succ]
            replace h := lt_some h
            refine r_goto (tgt := 65) dX11_trade_175 (by decide) ?_
            exact RR.wk (ih _ _ _ _ _ _ _ _ _ h) (And.intro rfl (And.intro rfl (And.intro rfl (And.intro rfl (And.intro rfl (And.intro rfl (And.intro rfl (trivial))))))))
          · rw [if_neg c] at h
            refine r_iload dX11_trade_158 rfl ?_
            refine r_istore dX11_trade_160 (by decide) rfl ?_
            simp only [List.set_cons_zero, List.set_cons_succ]
            refine r_bipush (v := 10) dX11_trade_162 (by decide) ?_
            refine r_iload dX11_trade_164 rfl ?_
            refine r_imul dX11_trade_166 ?_
            refine r_iload dX11_trade_167 rfl ?_
            refine r_iadd dX11_trade_169 ?_
            refine r_istore dX11_trade_170 (by decide) rfl ?_
            simp only [List.set_cons_zero, List.set_cons_succ]
            replace h := lt_some h
            refine r_iinc (v := _) dX11_trade_172 rfl rfl (by decide) rfl ?_
            simp only [List.set_cons_zero, List.set_cons_succ]
            replace h := lt_some h
            refine r_goto (tgt := 65) dX11_trade_175 (by decide) ?_
            exact RR.wk (ih _ _ _ _ _ _ _ _ _ h) (And.intro rfl (And.intro rfl (And.intro rfl (And.intro rfl (And.intro rfl (And.intro rfl (And.intro rfl (trivial))))))))
def f_X11_trade_67_l51 : Nat → Int32 → Int32 → Int32 → Int32 → Int32 → mI → mL → rI
  | 0, _, _, _, _, _, _, _ => none
  | n + 1, x1, x3, x4, x5, x6, I, L => if (I 68 (0 : Int32).toNatClampNeg) ≤ x6 then (if x4 = (-100000000) then (some ((-1000004), I, L)) else (if x3 = 0 then (some (x4, I, L)) else (some (x5, I, L)))) else (f_X11_trade_67_l65 (f_X11_trade_67_l51 n) fuel x1 x3 x4 x5 x6 0 I L)
theorem ok_X11_trade_67_l51 {d : Nat} (hd : 4 ≤ d) : ∀ (n : Nat) (x1 : Int32) (x3 : Int32) (x4 : Int32) (x5 : Int32) (x6 : Int32) (I : mI) (L : mL) (o : Int32 × mI × mL), f_X11_trade_67_l51 n x1 x3 x4 x5 x6 I L = some o → RR mX11_trade d 51 [some (.ref 67), some (.int x1), none, some (.int x3), some (.int x4), some (.int x5), some (.int x6), none, none, none] [] I L (retQ (some (.int o.1)) o.2.1 o.2.2) := by
  intro n
  induction n with
  | zero => intro x1 x3 x4 x5 x6 I L o h; rw [f_X11_trade_67_l51] at h; cases h
  | succ n ih =>
    intro x1 x3 x4 x5 x6 I L o h
    rw [f_X11_trade_67_l51] at h
    refine r_iload dX11_trade_51 rfl ?_
    refine r_aload_n (i := 0) dX11_trade_53 rfl rfl ?_
    refine r_getR f_X11_7 dX11_trade_54 rfl rfl ?_
    refine r_iconst (v := 0) dX11_trade_57 (by decide) ?_
    refine r_iald rfl (vp_lit (by decide)) dX11_trade_58 ?_
    refine r_icmp_ge (tgt := 184) dX11_trade_59 (by decide) (fun c => ?_) (fun c => ?_)
    · rw [if_pos c] at h
      refine r_iload dX11_trade_184 rfl ?_
      refine r_ldc n_X11_170 dX11_trade_186 ?_
      refine r_icmp_ne (tgt := 196) dX11_trade_188 (by decide) (fun c => ?_) (fun c => ?_)
      · rw [if_neg c] at h
        refine r_iload_n (i := 3) dX11_trade_196 rfl rfl ?_
        refine r_if_ne (tgt := 205) dX11_trade_197 (by decide) (fun c => ?_) (fun c => ?_)
        · rw [if_neg c] at h
          refine r_iload dX11_trade_205 rfl ?_
          refine r_iret (by first | rfl | decide) dX11_trade_207 ?_
          obtain rfl := Option.some.inj h
          exact ⟨rfl, rfl, rfl⟩
        · rw [if_pos c] at h
          refine r_iload dX11_trade_200 rfl ?_
          refine r_goto (tgt := 207) dX11_trade_202 (by decide) ?_
          refine r_iret (by first | rfl | decide) dX11_trade_207 ?_
          obtain rfl := Option.some.inj h
          exact ⟨rfl, rfl, rfl⟩
      · rw [if_pos c] at h
        refine r_ldc n_X11_175 dX11_trade_191 ?_
        refine r_goto (tgt := 207) dX11_trade_193 (by decide) ?_
        refine r_iret (by first | rfl | decide) dX11_trade_207 ?_
        obtain rfl := Option.some.inj h
        exact ⟨rfl, rfl, rfl⟩
    · rw [if_neg c] at h
      refine r_iconst (v := 0) dX11_trade_62 (by decide) ?_
      refine r_istore dX11_trade_63 (by decide) rfl ?_
      simp only [List.set_cons_zero, List.set_cons_succ]
      exact RR.wk (ok_X11_trade_67_l65 hd ih _ _ _ _ _ _ _ _ _ _ h) (And.intro rfl (And.intro rfl (And.intro rfl (And.intro rfl (And.intro rfl (And.intro rfl (And.intro rfl (trivial))))))))
def f_X11_trade_67 (I : mI) (L : mL) (a1 : Int32) (a2 : Int32) (a3 : Int32) : rI := (f_X11_isGood_67 I L a1).bind (fun r1 => if r1 = 0 then (some ((-1000001), I, L)) else ((f_X11_isCart_67 I L a2).bind (fun r2 => if r2 = 0 then (some ((-1000001), I, L)) else ((f_X11_isTwo I L a3).bind (fun r3 => if r3 = 0 then (some ((-1000001), I, L)) else (ck (inb (99 + a1) 135) (bndV (f_X11_layWays_67 I L a2 (I 68 (99 + a1).toNatClampNeg) 0) (fun Ir4 Lr4 => f_X11_trade_67_l51 fuel a1 a3 (-100000000) 0 0 Ir4 Lr4))))))))
theorem ok_X11_trade_67 {d : Nat} (hd : 4 ≤ d) {I : mI} {L : mL} {a1 : Int32} {a2 : Int32} {a3 : Int32} {o : Int32 × mI × mL} (h : f_X11_trade_67 I L a1 a2 a3 = some o) : RR mX11_trade d 0 [some (.ref 67), some (.int a1), some (.int a2), some (.int a3), none, none, none, none, none, none] [] I L (retQ (some (.int o.1)) o.2.1 o.2.2) := by
  unfold f_X11_trade_67 at h
  refine r_aload_n (i := 0) dX11_trade_0 rfl rfl ?_
  refine r_iload_n (i := 1) dX11_trade_1 rfl rfl ?_
  obtain ⟨r1, hr, h⟩ := bind_some h
  refine r_V (d' := 1) k_X11_85 dX11_trade_2 (by omega) rfl rfl rfl (Nat.le_of_ble_eq_true rfl) (Nat.le_of_ble_eq_true rfl) (ok_X11_isGood_67 (Nat.le_refl _) hr) (fun v I' L' hq => ?_)
  obtain ⟨rfl, rfl, rfl⟩ := hq
  simp only [Option.toList_some, Option.toList_none, List.drop_succ_cons, List.drop_zero, List.drop_nil, List.cons_append, List.nil_append]
  refine r_if_eq (tgt := 23) dX11_trade_5 (by decide) (fun c => ?_) (fun c => ?_)
  · rw [if_pos c] at h
    refine r_ldc n_X11_171 dX11_trade_23 ?_
    refine r_iret (by first | rfl | decide) dX11_trade_25 ?_
    obtain rfl := Option.some.inj h
    exact ⟨rfl, rfl, rfl⟩
  · rw [if_neg c] at h
    refine r_aload_n (i := 0) dX11_trade_8 rfl rfl ?_
    refine r_iload_n (i := 2) dX11_trade_9 rfl rfl ?_
    obtain ⟨r2, hr, h⟩ := bind_some h
    refine r_V (d' := 1) k_X11_97 dX11_trade_10 (by omega) rfl rfl rfl (Nat.le_of_ble_eq_true rfl) (Nat.le_of_ble_eq_true rfl) (ok_X11_isCart_67 (Nat.le_refl _) hr) (fun v I' L' hq => ?_)
    obtain ⟨rfl, rfl, rfl⟩ := hq
    simp only [Option.toList_some, Option.toList_none, List.drop_succ_cons, List.drop_zero, List.drop_nil, List.cons_append, List.nil_append]
    refine r_if_eq (tgt := 23) dX11_trade_13 (by decide) (fun c => ?_) (fun c => ?_)
    · rw [if_pos c] at h
      refine r_ldc n_X11_171 dX11_trade_23 ?_
      refine r_iret (by first | rfl | decide) dX11_trade_25 ?_
      obtain rfl := Option.some.inj h
      exact ⟨rfl, rfl, rfl⟩
    · rw [if_neg c] at h
      refine r_iload_n (i := 3) dX11_trade_16 rfl rfl ?_
      obtain ⟨r3, hr, h⟩ := bind_some h
      refine r_S (d' := 1) k_X11_179 dX11_trade_17 (by omega) rfl (Nat.le_of_ble_eq_true rfl) (Nat.le_of_ble_eq_true rfl) (ok_X11_isTwo (Nat.le_refl _) hr) (fun v I' L' hq => ?_)
      obtain ⟨rfl, rfl, rfl⟩ := hq
      simp only [Option.toList_some, Option.toList_none, List.drop_succ_cons, List.drop_zero, List.drop_nil, List.cons_append, List.nil_append]
      refine r_if_ne (tgt := 26) dX11_trade_20 (by decide) (fun c => ?_) (fun c => ?_)
      · rw [if_neg c] at h
        refine r_aload_n (i := 0) dX11_trade_26 rfl rfl ?_
        refine r_iload_n (i := 2) dX11_trade_27 rfl rfl ?_
        refine r_aload_n (i := 0) dX11_trade_28 rfl rfl ?_
        refine r_getR f_X11_7 dX11_trade_29 rfl rfl ?_
        refine r_bipush (v := 99) dX11_trade_32 (by decide) ?_
        refine r_iload_n (i := 1) dX11_trade_34 rfl rfl ?_
        refine r_iadd dX11_trade_35 ?_
        obtain ⟨hb, h⟩ := ck_some h
        refine r_iald rfl (inb_vp hb) dX11_trade_36 ?_
        refine r_iconst (v := 0) dX11_trade_37 (by decide) ?_
        obtain ⟨⟨Ir4, Lr4⟩, hr, h⟩ := bind_some h
        refine r_V (d' := 3) k_X11_162 dX11_trade_38 (by omega) rfl rfl rfl (Nat.le_of_ble_eq_true rfl) (Nat.le_of_ble_eq_true rfl) (ok_X11_layWays_67 (Nat.le_refl _) hr) (fun v I' L' hq => ?_)
        obtain ⟨rfl, rfl, rfl⟩ := hq
        simp only [Option.toList_some, Option.toList_none, List.drop_succ_cons, List.drop_zero, List.drop_nil, List.cons_append, List.nil_append]
        dsimp only at h
        refine r_ldc n_X11_170 dX11_trade_41 ?_
        refine r_istore dX11_trade_43 (by decide) rfl ?_
        simp only [List.set_cons_zero, List.set_cons_succ]
        refine r_iconst (v := 0) dX11_trade_45 (by decide) ?_
        refine r_istore dX11_trade_46 (by decide) rfl ?_
        simp only [List.set_cons_zero, List.set_cons_succ]
        refine r_iconst (v := 0) dX11_trade_48 (by decide) ?_
        refine r_istore dX11_trade_49 (by decide) rfl ?_
        simp only [List.set_cons_zero, List.set_cons_succ]
        exact RR.wk (ok_X11_trade_67_l51 hd _ _ _ _ _ _ _ _ _ h) (And.intro rfl (And.intro rfl (And.intro rfl (And.intro rfl (And.intro rfl (And.intro rfl (trivial)))))))
      · rw [if_pos c] at h
        refine r_ldc n_X11_171 dX11_trade_23 ?_
        refine r_iret (by first | rfl | decide) dX11_trade_25 ?_
        obtain rfl := Option.some.inj h
        exact ⟨rfl, rfl, rfl⟩
def f_X11_bits_l4 (I : mI) (L : mL) : Nat → Int32 → Int32 → Option Int32
  | 0, _, _ => none
  | n + 1, x1, x2 => if x2 = 0 then (some x1) else (lt (x1 + Int32.ofInt 1) (fun v1 => lt (x2 &&& (x2 - 1)) (fun v2 => f_X11_bits_l4 I L n v1 v2)))
theorem ok_X11_bits_l4 {d : Nat} (hd : 0 ≤ d){I : mI} {L : mL} : ∀ (n : Nat) (x1 : Int32) (x2 : Int32) (o : Int32), f_X11_bits_l4 I L n x1 x2 = some o → RR mX11_bits d 4 [none, some (.int x1), some (.int x2)] [] I L (retQ (some (.int o)) I L) := by
  intro n
  induction n with
  | zero => intro x1 x2 o h; rw [f_X11_bits_l4] at h; cases h
  | succ n ih =>
    intro x1 x2 o h
    rw [f_X11_bits_l4] at h
    refine r_iload_n (i := 2) dX11_bits_4 rfl rfl ?_
    refine r_if_eq (tgt := 20) dX11_bits_5 (by decide) (fun c => ?_) (fun c => ?_)
    · rw [if_pos c] at h
      refine r_iload_n (i := 1) dX11_bits_20 rfl rfl ?_
      refine r_iret (by first | rfl | decide) dX11_bits_21 ?_
      obtain rfl := Option.some.inj h
      exact ⟨rfl, rfl, rfl⟩
    · rw [if_neg c] at h
      refine r_iinc (v := _) dX11_bits_8 rfl rfl (by decide) rfl ?_
      simp only [List.set_cons_zero, List.set_cons_succ]
      replace h := lt_some h
      refine r_iload_n (i := 2) dX11_bits_11 rfl rfl ?_
      refine r_iload_n (i := 2) dX11_bits_12 rfl rfl ?_
      refine r_iconst (v := 1) dX11_bits_13 (by decide) ?_
      refine r_isub dX11_bits_14 ?_
      refine r_iand dX11_bits_15 ?_
      refine r_istore_n (i := 2) dX11_bits_16 rfl (by decide) rfl ?_
      simp only [List.set_cons_zero, List.set_cons_succ]
      replace h := lt_some h
      refine r_goto (tgt := 4) dX11_bits_17 (by decide) ?_
      exact RR.wk (ih _ _ _ h) (And.intro rfl (And.intro rfl (trivial)))
def f_X11_bits (I : mI) (L : mL) (a0 : Int32) : Option Int32 := f_X11_bits_l4 I L fuel 0 a0
theorem ok_X11_bits {d : Nat} (hd : 0 ≤ d) {I : mI} {L : mL} {a0 : Int32} {o : Int32} (h : f_X11_bits I L a0 = some o) : RR mX11_bits d 0 [some (.int a0), none, none] [] I L (retQ (some (.int o)) I L) := by
  unfold f_X11_bits at h
  refine r_iconst (v := 0) dX11_bits_0 (by decide) ?_
  refine r_istore_n (i := 1) dX11_bits_1 rfl (by decide) rfl ?_
  simp only [List.set_cons_zero, List.set_cons_succ]
  refine r_iload_n (i := 0) dX11_bits_2 rfl rfl ?_
  refine r_istore_n (i := 2) dX11_bits_3 rfl (by decide) rfl ?_
  simp only [List.set_cons_zero, List.set_cons_succ]
  exact RR.wk (ok_X11_bits_l4 hd _ _ _ _ h) (And.intro rfl (And.intro rfl (trivial)))
def f_X11_paid_67 (I : mI) (L : mL) (a1 : Int32) (a2 : Int32) (a3 : Int32) : Option Int32 := ck (inb (105 + a1) 135) (if ((a3 >>> (a2 &&& 31)) &&& 1) = 1 then (ck (inb (99 + a1) 135) (some ((I 68 (105 + a1).toNatClampNeg) * (5 * (I 68 (99 + a1).toNatClampNeg))))) else (ck (inb (99 + a1) 135) ((f_X11_weight_67 I L a2 (I 68 (99 + a1).toNatClampNeg)).bind (fun r1 => some ((I 68 (105 + a1).toNatClampNeg) * r1)))))
theorem ok_X11_paid_67 {d : Nat} (hd : 2 ≤ d) {I : mI} {L : mL} {a1 : Int32} {a2 : Int32} {a3 : Int32} {o : Int32} (h : f_X11_paid_67 I L a1 a2 a3 = some o) : RR mX11_paid d 0 [some (.ref 67), some (.int a1), some (.int a2), some (.int a3)] [] I L (retQ (some (.int o)) I L) := by
  unfold f_X11_paid_67 at h
  refine r_aload_n (i := 0) dX11_paid_0 rfl rfl ?_
  refine r_getR f_X11_7 dX11_paid_1 rfl rfl ?_
  refine r_bipush (v := 105) dX11_paid_4 (by decide) ?_
  refine r_iload_n (i := 1) dX11_paid_6 rfl rfl ?_
  refine r_iadd dX11_paid_7 ?_
  obtain ⟨hb, h⟩ := ck_some h
  refine r_iald rfl (inb_vp hb) dX11_paid_8 ?_
  refine r_iload_n (i := 3) dX11_paid_9 rfl rfl ?_
  refine r_iload_n (i := 2) dX11_paid_10 rfl rfl ?_
  refine r_ishr dX11_paid_11 ?_
  refine r_iconst (v := 1) dX11_paid_12 (by decide) ?_
  refine r_iand dX11_paid_13 ?_
  refine r_iconst (v := 1) dX11_paid_14 (by decide) ?_
  refine r_icmp_ne (tgt := 32) dX11_paid_15 (by decide) (fun c => ?_) (fun c => ?_)
  · rw [if_neg c] at h
    refine r_aload_n (i := 0) dX11_paid_32 rfl rfl ?_
    refine r_iload_n (i := 2) dX11_paid_33 rfl rfl ?_
    refine r_aload_n (i := 0) dX11_paid_34 rfl rfl ?_
    refine r_getR f_X11_7 dX11_paid_35 rfl rfl ?_
    refine r_bipush (v := 99) dX11_paid_38 (by decide) ?_
    refine r_iload_n (i := 1) dX11_paid_40 rfl rfl ?_
    refine r_iadd dX11_paid_41 ?_
    obtain ⟨hb, h⟩ := ck_some h
    refine r_iald rfl (inb_vp hb) dX11_paid_42 ?_
    obtain ⟨r1, hr, h⟩ := bind_some h
    refine r_V (d' := 1) k_X11_88 dX11_paid_43 (by omega) rfl rfl rfl (Nat.le_of_ble_eq_true rfl) (Nat.le_of_ble_eq_true rfl) (ok_X11_weight_67 (Nat.le_refl _) hr) (fun v I' L' hq => ?_)
    obtain ⟨rfl, rfl, rfl⟩ := hq
    simp only [Option.toList_some, Option.toList_none, List.drop_succ_cons, List.drop_zero, List.drop_nil, List.cons_append, List.nil_append]
    refine r_imul dX11_paid_46 ?_
    refine r_iret (by first | rfl | decide) dX11_paid_47 ?_
    obtain rfl := Option.some.inj h
    exact ⟨rfl, rfl, rfl⟩
  · rw [if_pos c] at h
    refine r_iconst (v := 5) dX11_paid_18 (by decide) ?_
    refine r_aload_n (i := 0) dX11_paid_19 rfl rfl ?_
    refine r_getR f_X11_7 dX11_paid_20 rfl rfl ?_
    refine r_bipush (v := 99) dX11_paid_23 (by decide) ?_
    refine r_iload_n (i := 1) dX11_paid_25 rfl rfl ?_
    refine r_iadd dX11_paid_26 ?_
    obtain ⟨hb, h⟩ := ck_some h
    refine r_iald rfl (inb_vp hb) dX11_paid_27 ?_
    refine r_imul dX11_paid_28 ?_
    refine r_goto (tgt := 46) dX11_paid_29 (by decide) ?_
    refine r_imul dX11_paid_46 ?_
    refine r_iret (by first | rfl | decide) dX11_paid_47 ?_
    obtain rfl := Option.some.inj h
    exact ⟨rfl, rfl, rfl⟩
def f_X11_isEnded_67_l19 (I : mI) (L : mL) (k5 : Int32 → Int32 → Int32 → Int32 → Option Int32) : Nat → Int32 → Int32 → Int32 → Int32 → Int32 → Option Int32
  | 0, _, _, _, _, _ => none
  | n + 1, x1, x2, x3, x4, x5 => if (I 68 (0 : Int32).toNatClampNeg) ≤ x5 then (lt (x4 + Int32.ofInt 1) (fun v1 => k5 x1 x2 x3 v1)) else (if x3 = 0 then (lt (x5 + Int32.ofInt 1) (fun v2 => f_X11_isEnded_67_l19 I L k5 n x1 x2 0 x4 v2)) else (ck (inb ((8 * x4) + x5) 64) (if 100000000 ≤ (I 75 ((8 * x4) + x5).toNatClampNeg) then (lt (x5 + Int32.ofInt 1) (fun v3 => f_X11_isEnded_67_l19 I L k5 n x1 x2 1 x4 v3)) else ((f_X11_paid_67 I L x1 x5 x2).bind (fun r4 => (f_X11_paid_67 I L x1 x4 x2).bind (fun r5 => ck (inb ((8 * x4) + x5) 64) (if (I 75 ((8 * x4) + x5).toNatClampNeg) < (r4 - r5) then (lt (x5 + Int32.ofInt 1) (fun v6 => f_X11_isEnded_67_l19 I L k5 n x1 x2 0 x4 v6)) else (lt (x5 + Int32.ofInt 1) (fun v7 => f_X11_isEnded_67_l19 I L k5 n x1 x2 1 x4 v7)))))))))
theorem ok_X11_isEnded_67_l19 {d : Nat} (hd : 3 ≤ d){I : mI} {L : mL} {k5 : Int32 → Int32 → Int32 → Int32 → Option Int32} (hk5 : ∀ (x1 : Int32) (x2 : Int32) (x3 : Int32) (x4 : Int32) (o : Int32), k5 x1 x2 x3 x4 = some o → RR mX11_isEnded d 5 [some (.ref 67), some (.int x1), some (.int x2), some (.int x3), some (.int x4), none] [] I L (retQ (some (.int o)) I L)) : ∀ (n : Nat) (x1 : Int32) (x2 : Int32) (x3 : Int32) (x4 : Int32) (x5 : Int32) (o : Int32), f_X11_isEnded_67_l19 I L k5 n x1 x2 x3 x4 x5 = some o → RR mX11_isEnded d 19 [some (.ref 67), some (.int x1), some (.int x2), some (.int x3), some (.int x4), some (.int x5)] [] I L (retQ (some (.int o)) I L) := by
  intro n
  induction n with
  | zero => intro x1 x2 x3 x4 x5 o h; rw [f_X11_isEnded_67_l19] at h; cases h
  | succ n ih =>
    intro x1 x2 x3 x4 x5 o h
    rw [f_X11_isEnded_67_l19] at h
    refine r_iload dX11_isEnded_19 rfl ?_
    refine r_aload_n (i := 0) dX11_isEnded_21 rfl rfl ?_
    refine r_getR f_X11_7 dX11_isEnded_22 rfl rfl ?_
    refine r_iconst (v := 0) dX11_isEnded_25 (by decide) ?_
    refine r_iald rfl (vp_lit (by decide)) dX11_isEnded_26 ?_
    refine r_icmp_ge (tgt := 97) dX11_isEnded_27 (by decide) (fun c => ?_) (fun c => ?_)
    · rw [if_pos c] at h
      refine r_iinc (v := _) dX11_isEnded_97 rfl rfl (by decide) rfl ?_
      simp only [List.set_cons_zero, List.set_cons_succ]
      replace h := lt_some h
      refine r_goto (tgt := 5) dX11_isEnded_100 (by decide) ?_
      exact RR.wk (hk5 _ _ _ _ _ h) (And.intro rfl (And.intro rfl (And.intro rfl (And.intro rfl (And.intro rfl (trivial))))))
    · rw [if_neg c] at h
      refine r_iload_n (i := 3) dX11_isEnded_30 rfl rfl ?_
      refine r_if_eq (tgt := 89) dX11_isEnded_31 (by decide) (fun c => ?_) (fun c => ?_)
      · rw [if_pos c] at h
        refine r_iconst (v := 0) dX11_isEnded_89 (by decide) ?_
        refine r_istore_n (i := 3) dX11_isEnded_90 rfl (by decide) rfl ?_
        simp only [List.set_cons_zero, List.set_cons_succ]
        refine r_iinc (v := _) dX11_isEnded_91 rfl rfl (by decide) rfl ?_
        simp only [List.set_cons_zero, List.set_cons_succ]
        replace h := lt_some h
        refine r_goto (tgt := 19) dX11_isEnded_94 (by decide) ?_
        exact RR.wk (ih _ _ _ _ _ _ h) (And.intro rfl (And.intro rfl (And.intro rfl (And.intro rfl (And.intro rfl (And.intro rfl (trivial)))))))
      · rw [if_neg c] at h
        refine r_aload_n (i := 0) dX11_isEnded_34 rfl rfl ?_
        refine r_getR f_X11_32 dX11_isEnded_35 rfl rfl ?_
        refine r_bipush (v := 8) dX11_isEnded_38 (by decide) ?_
        refine r_iload dX11_isEnded_40 rfl ?_
        refine r_imul dX11_isEnded_42 ?_
        refine r_iload dX11_isEnded_43 rfl ?_
        refine r_iadd dX11_isEnded_45 ?_
        obtain ⟨hb, h⟩ := ck_some h
        refine r_iald rfl (inb_vp hb) dX11_isEnded_46 ?_
        refine r_ldc n_X11_151 dX11_isEnded_47 ?_
        refine r_icmp_ge (tgt := 85) dX11_isEnded_49 (by decide) (fun c => ?_) (fun c => ?_)
        · rw [if_pos c] at h
          refine r_iconst (v := 1) dX11_isEnded_85 (by decide) ?_
          refine r_goto (tgt := 90) dX11_isEnded_86 (by decide) ?_
          refine r_istore_n (i := 3) dX11_isEnded_90 rfl (by decide) rfl ?_
          simp only [List.set_cons_zero, List.set_cons_succ]
          refine r_iinc (v := _) dX11_isEnded_91 rfl rfl (by decide) rfl ?_
          simp only [List.set_cons_zero, List.set_cons_succ]
          replace h := lt_some h
          refine r_goto (tgt := 19) dX11_isEnded_94 (by decide) ?_
          exact RR.wk (ih _ _ _ _ _ _ h) (And.intro rfl (And.intro rfl (And.intro rfl (And.intro rfl (And.intro rfl (And.intro rfl (trivial)))))))
        · rw [if_neg c] at h
          refine r_aload_n (i := 0) dX11_isEnded_52 rfl rfl ?_
          refine r_iload_n (i := 1) dX11_isEnded_53 rfl rfl ?_
          refine r_iload dX11_isEnded_54 rfl ?_
          refine r_iload_n (i := 2) dX11_isEnded_56 rfl rfl ?_
          obtain ⟨r4, hr, h⟩ := bind_some h
          refine r_V (d' := 2) k_X11_182 dX11_isEnded_57 (by omega) rfl rfl rfl (Nat.le_of_ble_eq_true rfl) (Nat.le_of_ble_eq_true rfl) (ok_X11_paid_67 (Nat.le_refl _) hr) (fun v I' L' hq => ?_)
          obtain ⟨rfl, rfl, rfl⟩ := hq
          simp only [Option.toList_some, Option.toList_none, List.drop_succ_cons, List.drop_zero, List.drop_nil, List.cons_append, List.nil_append]
          refine r_aload_n (i := 0) dX11_isEnded_60 rfl rfl ?_
          refine r_iload_n (i := 1) dX11_isEnded_61 rfl rfl ?_
          refine r_iload dX11_isEnded_62 rfl ?_
          refine r_iload_n (i := 2) dX11_isEnded_64 rfl rfl ?_
          obtain ⟨r5, hr, h⟩ := bind_some h
          refine r_V (d' := 2) k_X11_182 dX11_isEnded_65 (by omega) rfl rfl rfl (Nat.le_of_ble_eq_true rfl) (Nat.le_of_ble_eq_true rfl) (ok_X11_paid_67 (Nat.le_refl _) hr) (fun v I' L' hq => ?_)
          obtain ⟨rfl, rfl, rfl⟩ := hq
          simp only [Option.toList_some, Option.toList_none, List.drop_succ_cons, List.drop_zero, List.drop_nil, List.cons_append, List.nil_append]
          refine r_isub dX11_isEnded_68 ?_
          refine r_aload_n (i := 0) dX11_isEnded_69 rfl rfl ?_
          refine r_getR f_X11_32 dX11_isEnded_70 rfl rfl ?_
          refine r_bipush (v := 8) dX11_isEnded_73 (by decide) ?_
          refine r_iload dX11_isEnded_75 rfl ?_
          refine r_imul dX11_isEnded_77 ?_
          refine r_iload dX11_isEnded_78 rfl ?_
          refine r_iadd dX11_isEnded_80 ?_
          obtain ⟨hb, h⟩ := ck_some h
          refine r_iald rfl (inb_vp hb) dX11_isEnded_81 ?_
          refine r_icmp_gt (tgt := 89) dX11_isEnded_82 (by decide) (fun c => ?_) (fun c => ?_)
          · rw [if_pos c] at h
            refine r_iconst (v := 0) dX11_isEnded_89 (by decide) ?_
            refine r_istore_n (i := 3) dX11_isEnded_90 rfl (by decide) rfl ?_
            simp only [List.set_cons_zero, List.set_cons_succ]
            refine r_iinc (v := _) dX11_isEnded_91 rfl rfl (by decide) rfl ?_
            simp only [List.set_cons_zero, List.set_cons_succ]
            replace h := lt_some h
            refine r_goto (tgt := 19) dX11_isEnded_94 (by decide) ?_
            exact RR.wk (ih _ _ _ _ _ _ h) (And.intro rfl (And.intro rfl (And.intro rfl (And.intro rfl (And.intro rfl (And.intro rfl (trivial)))))))
          · rw [if_neg c] at h
            refine r_iconst (v := 1) dX11_isEnded_85 (by decide) ?_
            refine r_goto (tgt := 90) dX11_isEnded_86 (by decide) ?_
            refine r_istore_n (i := 3) dX11_isEnded_90 rfl (by decide) rfl ?_
            simp only [List.set_cons_zero, List.set_cons_succ]
            refine r_iinc (v := _) dX11_isEnded_91 rfl rfl (by decide) rfl ?_
            simp only [List.set_cons_zero, List.set_cons_succ]
            replace h := lt_some h
            refine r_goto (tgt := 19) dX11_isEnded_94 (by decide) ?_
            exact RR.wk (ih _ _ _ _ _ _ h) (And.intro rfl (And.intro rfl (And.intro rfl (And.intro rfl (And.intro rfl (And.intro rfl (trivial)))))))
def f_X11_isEnded_67_l5 (I : mI) (L : mL) : Nat → Int32 → Int32 → Int32 → Int32 → Option Int32
  | 0, _, _, _, _ => none
  | n + 1, x1, x2, x3, x4 => if (I 68 (0 : Int32).toNatClampNeg) ≤ x4 then (ck (isb x3) (some x3)) else (f_X11_isEnded_67_l19 I L (f_X11_isEnded_67_l5 I L n) fuel x1 x2 x3 x4 0)
theorem ok_X11_isEnded_67_l5 {d : Nat} (hd : 3 ≤ d){I : mI} {L : mL} : ∀ (n : Nat) (x1 : Int32) (x2 : Int32) (x3 : Int32) (x4 : Int32) (o : Int32), f_X11_isEnded_67_l5 I L n x1 x2 x3 x4 = some o → RR mX11_isEnded d 5 [some (.ref 67), some (.int x1), some (.int x2), some (.int x3), some (.int x4), none] [] I L (retQ (some (.int o)) I L) := by
  intro n
  induction n with
  | zero => intro x1 x2 x3 x4 o h; rw [f_X11_isEnded_67_l5] at h; cases h
  | succ n ih =>
    intro x1 x2 x3 x4 o h
    rw [f_X11_isEnded_67_l5] at h
    refine r_iload dX11_isEnded_5 rfl ?_
    refine r_aload_n (i := 0) dX11_isEnded_7 rfl rfl ?_
    refine r_getR f_X11_7 dX11_isEnded_8 rfl rfl ?_
    refine r_iconst (v := 0) dX11_isEnded_11 (by decide) ?_
    refine r_iald rfl (vp_lit (by decide)) dX11_isEnded_12 ?_
    refine r_icmp_ge (tgt := 103) dX11_isEnded_13 (by decide) (fun c => ?_) (fun c => ?_)
    · rw [if_pos c] at h
      refine r_iload_n (i := 3) dX11_isEnded_103 rfl rfl ?_
      obtain ⟨hb, h⟩ := ck_some h
      refine r_iret (isb_nar hb) dX11_isEnded_104 ?_
      obtain rfl := Option.some.inj h
      exact ⟨rfl, rfl, rfl⟩
    · rw [if_neg c] at h
      refine r_iconst (v := 0) dX11_isEnded_16 (by decide) ?_
      refine r_istore dX11_isEnded_17 (by decide) rfl ?_
      simp only [List.set_cons_zero, List.set_cons_succ]
      exact RR.wk (ok_X11_isEnded_67_l19 hd ih _ _ _ _ _ _ _ h) (And.intro rfl (And.intro rfl (And.intro rfl (And.intro rfl (And.intro rfl (And.intro rfl (trivial)))))))
def f_X11_isEnded_67 (I : mI) (L : mL) (a1 : Int32) (a2 : Int32) : Option Int32 := f_X11_isEnded_67_l5 I L fuel a1 a2 1 0
theorem ok_X11_isEnded_67 {d : Nat} (hd : 3 ≤ d) {I : mI} {L : mL} {a1 : Int32} {a2 : Int32} {o : Int32} (h : f_X11_isEnded_67 I L a1 a2 = some o) : RR mX11_isEnded d 0 [some (.ref 67), some (.int a1), some (.int a2), none, none, none] [] I L (retQ (some (.int o)) I L) := by
  unfold f_X11_isEnded_67 at h
  refine r_iconst (v := 1) dX11_isEnded_0 (by decide) ?_
  refine r_istore_n (i := 3) dX11_isEnded_1 rfl (by decide) rfl ?_
  simp only [List.set_cons_zero, List.set_cons_succ]
  refine r_iconst (v := 0) dX11_isEnded_2 (by decide) ?_
  refine r_istore dX11_isEnded_3 (by decide) rfl ?_
  simp only [List.set_cons_zero, List.set_cons_succ]
  exact RR.wk (ok_X11_isEnded_67_l5 hd _ _ _ _ _ _ h) (And.intro rfl (And.intro rfl (And.intro rfl (And.intro rfl (And.intro rfl (trivial))))))
