def f_X11_of_67_l176 (I : mI) (L : mL) : Nat → Int32 → Int32 → Int32 → Int32 → Option Int32
  | 0, _, _, _, _ => none
  | n + 1, x1, x2, x3, x4 => if (I 68 (4 : Int32).toNatClampNeg) ≤ x4 then (some x3) else (if x2 = 7 then (ck (inb (129 + x4) 135) (if (I 68 (129 + x4).toNatClampNeg) = x1 then (lt (x3 ||| ((1 : Int32) <<< (x4 &&& 31))) (fun v5 => lt (x4 + Int32.ofInt 1) (fun v6 => f_X11_of_67_l176 I L n x1 x2 v5 v6))) else (lt (x3 ||| 0) (fun v3 => lt (x4 + Int32.ofInt 1) (fun v4 => f_X11_of_67_l176 I L n x1 x2 v3 v4))))) else (some x3))
theorem ok_X11_of_67_l176 {d : Nat} (hd : 2 ≤ d){I : mI} {L : mL} : ∀ (n : Nat) (x1 : Int32) (x2 : Int32) (x3 : Int32) (x4 : Int32) (o : Int32), f_X11_of_67_l176 I L n x1 x2 x3 x4 = some o → RR mX11_of d 176 [some (.ref 67), some (.int x1), some (.int x2), some (.int x3), some (.int x4)] [] I L (retQ (some (.int o)) I L) := by
  intro n
  induction n with
  | zero => intro x1 x2 x3 x4 o h; rw [f_X11_of_67_l176] at h; cases h
  | succ n ih =>
    intro x1 x2 x3 x4 o h
    rw [f_X11_of_67_l176] at h
    refine r_iload dX11_of_176 rfl ?_
    refine r_aload_n (i := 0) dX11_of_178 rfl rfl ?_
    refine r_getR f_X11_7 dX11_of_179 rfl rfl ?_
    refine r_iconst (v := 4) dX11_of_182 (by decide) ?_
    refine r_iald rfl (vp_lit (by decide)) dX11_of_183 ?_
    refine r_icmp_ge (tgt := 225) dX11_of_184 (by decide) (fun c => ?_) (fun c => ?_)
    · rw [if_pos c] at h
      refine r_iload_n (i := 3) dX11_of_225 rfl rfl ?_
      refine r_iret (by first | rfl | decide) dX11_of_226 ?_
      obtain rfl := Option.some.inj h
      exact ⟨rfl, rfl, rfl⟩
    · rw [if_neg c] at h
      refine r_iload_n (i := 2) dX11_of_187 rfl rfl ?_
      refine r_bipush (v := 7) dX11_of_188 (by decide) ?_
      refine r_icmp_ne (tgt := 225) dX11_of_190 (by decide) (fun c => ?_) (fun c => ?_)
      · rw [if_neg c] at h
        refine r_iload_n (i := 3) dX11_of_225 rfl rfl ?_
        refine r_iret (by first | rfl | decide) dX11_of_226 ?_
        obtain rfl := Option.some.inj h
        exact ⟨rfl, rfl, rfl⟩
      · rw [if_pos c] at h
        refine r_iload_n (i := 3) dX11_of_193 rfl rfl ?_
        refine r_aload_n (i := 0) dX11_of_194 rfl rfl ?_
        refine r_getR f_X11_7 dX11_of_195 rfl rfl ?_
        refine r_sipush (v := 129) dX11_of_198 (by decide) ?_
        refine r_iload dX11_of_201 rfl ?_
        refine r_iadd dX11_of_203 ?_
        obtain ⟨hb, h⟩ := ck_some h
        refine r_iald rfl (inb_vp hb) dX11_of_204 ?_
        refine r_iload_n (i := 1) dX11_of_205 rfl rfl ?_
        refine r_icmp_ne (tgt := 216) dX11_of_206 (by decide) (fun c => ?_) (fun c => ?_)
        · rw [if_neg c] at h
          refine r_iconst (v := 0) dX11_of_216 (by decide) ?_
          refine r_ior dX11_of_217 ?_
          refine r_istore_n (i := 3) dX11_of_218 rfl (by decide) rfl ?_
          simp only [List.set_cons_zero, List.set_cons_succ]
          replace h := lt_some h
          refine r_iinc (v := _) dX11_of_219 rfl rfl (by decide) rfl ?_
          simp only [List.set_cons_zero, List.set_cons_succ]
          replace h := lt_some h
          refine r_goto (tgt := 176) dX11_of_222 (by decide) ?_
          exact RR.wk (ih _ _ _ _ _ h) (And.intro rfl (And.intro rfl (And.intro rfl (And.intro rfl (And.intro rfl (trivial))))))
        · rw [if_pos c] at h
          refine r_iconst (v := 1) dX11_of_209 (by decide) ?_
          refine r_iload dX11_of_210 rfl ?_
          refine r_ishl dX11_of_212 ?_
          refine r_goto (tgt := 217) dX11_of_213 (by decide) ?_
          refine r_ior dX11_of_217 ?_
          refine r_istore_n (i := 3) dX11_of_218 rfl (by decide) rfl ?_
          simp only [List.set_cons_zero, List.set_cons_succ]
          replace h := lt_some h
          refine r_iinc (v := _) dX11_of_219 rfl rfl (by decide) rfl ?_
          simp only [List.set_cons_zero, List.set_cons_succ]
          replace h := lt_some h
          refine r_goto (tgt := 176) dX11_of_222 (by decide) ?_
          exact RR.wk (ih _ _ _ _ _ h) (And.intro rfl (And.intro rfl (And.intro rfl (And.intro rfl (And.intro rfl (trivial))))))
def f_X11_of_67_l125 (I : mI) (L : mL) : Nat → Int32 → Int32 → Int32 → Int32 → Option Int32
  | 0, _, _, _, _ => none
  | n + 1, x1, x2, x3, x4 => if (I 68 (3 : Int32).toNatClampNeg) ≤ x4 then (f_X11_of_67_l176 I L fuel x1 x2 x3 0) else (if x2 = 6 then (ck (inb (111 + x4) 135) (if (I 68 (111 + x4).toNatClampNeg) = x1 then (lt (x3 ||| ((1 : Int32) <<< (x4 &&& 31))) (fun v9 => lt (x4 + Int32.ofInt 1) (fun v10 => f_X11_of_67_l125 I L n x1 x2 v9 v10))) else (lt (x3 ||| 0) (fun v7 => lt (x4 + Int32.ofInt 1) (fun v8 => f_X11_of_67_l125 I L n x1 x2 v7 v8))))) else (f_X11_of_67_l176 I L fuel x1 x2 x3 0))
theorem ok_X11_of_67_l125 {d : Nat} (hd : 2 ≤ d){I : mI} {L : mL} : ∀ (n : Nat) (x1 : Int32) (x2 : Int32) (x3 : Int32) (x4 : Int32) (o : Int32), f_X11_of_67_l125 I L n x1 x2 x3 x4 = some o → RR mX11_of d 125 [some (.ref 67), some (.int x1), some (.int x2), some (.int x3), some (.int x4)] [] I L (retQ (some (.int o)) I L) := by
  intro n
  induction n with
  | zero => intro x1 x2 x3 x4 o h; rw [f_X11_of_67_l125] at h; cases h
  | succ n ih =>
    intro x1 x2 x3 x4 o h
    rw [f_X11_of_67_l125] at h
    refine r_iload dX11_of_125 rfl ?_
    refine r_aload_n (i := 0) dX11_of_127 rfl rfl ?_
    refine r_getR f_X11_7 dX11_of_128 rfl rfl ?_
    refine r_iconst (v := 3) dX11_of_131 (by decide) ?_
    refine r_iald rfl (vp_lit (by decide)) dX11_of_132 ?_
    refine r_icmp_ge (tgt := 173) dX11_of_133 (by decide) (fun c => ?_) (fun c => ?_)
    · rw [if_pos c] at h
      refine r_iconst (v := 0) dX11_of_173 (by decide) ?_
      refine r_istore dX11_of_174 (by decide) rfl ?_
      simp only [List.set_cons_zero, List.set_cons_succ]
      exact RR.wk (ok_X11_of_67_l176 hd _ _ _ _ _ _ h) (And.intro rfl (And.intro rfl (And.intro rfl (And.intro rfl (And.intro rfl (trivial))))))
    · rw [if_neg c] at h
      refine r_iload_n (i := 2) dX11_of_136 rfl rfl ?_
      refine r_bipush (v := 6) dX11_of_137 (by decide) ?_
      refine r_icmp_ne (tgt := 173) dX11_of_139 (by decide) (fun c => ?_) (fun c => ?_)
      · rw [if_neg c] at h
        refine r_iconst (v := 0) dX11_of_173 (by decide) ?_
        refine r_istore dX11_of_174 (by decide) rfl ?_
        simp only [List.set_cons_zero, List.set_cons_succ]
        exact RR.wk (ok_X11_of_67_l176 hd _ _ _ _ _ _ h) (And.intro rfl (And.intro rfl (And.intro rfl (And.intro rfl (And.intro rfl (trivial))))))
      · rw [if_pos c] at h
        refine r_iload_n (i := 3) dX11_of_142 rfl rfl ?_
        refine r_aload_n (i := 0) dX11_of_143 rfl rfl ?_
        refine r_getR f_X11_7 dX11_of_144 rfl rfl ?_
        refine r_bipush (v := 111) dX11_of_147 (by decide) ?_
        refine r_iload dX11_of_149 rfl ?_
        refine r_iadd dX11_of_151 ?_
        obtain ⟨hb, h⟩ := ck_some h
        refine r_iald rfl (inb_vp hb) dX11_of_152 ?_
        refine r_iload_n (i := 1) dX11_of_153 rfl rfl ?_
        refine r_icmp_ne (tgt := 164) dX11_of_154 (by decide) (fun c => ?_) (fun c => ?_)
        · rw [if_neg c] at h
          refine r_iconst (v := 0) dX11_of_164 (by decide) ?_
          refine r_ior dX11_of_165 ?_
          refine r_istore_n (i := 3) dX11_of_166 rfl (by decide) rfl ?_
          simp only [List.set_cons_zero, List.set_cons_succ]
          replace h := lt_some h
          refine r_iinc (v := _) dX11_of_167 rfl rfl (by decide) rfl ?_
          simp only [List.set_cons_zero, List.set_cons_succ]
          replace h := lt_some h
          refine r_goto (tgt := 125) dX11_of_170 (by decide) ?_
          exact RR.wk (ih _ _ _ _ _ h) (And.intro rfl (And.intro rfl (And.intro rfl (And.intro rfl (And.intro rfl (trivial))))))
        · rw [if_pos c] at h
          refine r_iconst (v := 1) dX11_of_157 (by decide) ?_
          refine r_iload dX11_of_158 rfl ?_
          refine r_ishl dX11_of_160 ?_
          refine r_goto (tgt := 165) dX11_of_161 (by decide) ?_
          refine r_ior dX11_of_165 ?_
          refine r_istore_n (i := 3) dX11_of_166 rfl (by decide) rfl ?_
          simp only [List.set_cons_zero, List.set_cons_succ]
          replace h := lt_some h
          refine r_iinc (v := _) dX11_of_167 rfl rfl (by decide) rfl ?_
          simp only [List.set_cons_zero, List.set_cons_succ]
          replace h := lt_some h
          refine r_goto (tgt := 125) dX11_of_170 (by decide) ?_
          exact RR.wk (ih _ _ _ _ _ h) (And.intro rfl (And.intro rfl (And.intro rfl (And.intro rfl (And.intro rfl (trivial))))))
def f_X11_of_67_l64 (I : mI) (L : mL) : Nat → Int32 → Int32 → Int32 → Int32 → Option Int32
  | 0, _, _, _, _ => none
  | n + 1, x1, x2, x3, x4 => if (I 68 (1 : Int32).toNatClampNeg) ≤ x4 then (f_X11_of_67_l125 I L fuel x1 x2 x3 0) else (if x2 = 5 then (ck (inb (46 + x4) 135) (if (I 68 (46 + x4).toNatClampNeg) = x1 then (lt (x3 + 1) (fun v11 => lt (x4 + Int32.ofInt 1) (fun v12 => f_X11_of_67_l64 I L n x1 x2 v11 v12))) else (ck (inb (61 + x4) 135) (if (I 68 (61 + x4).toNatClampNeg) = x1 then (lt (x3 + 1) (fun v15 => lt (x4 + Int32.ofInt 1) (fun v16 => f_X11_of_67_l64 I L n x1 x2 v15 v16))) else (lt (x3 + 0) (fun v13 => lt (x4 + Int32.ofInt 1) (fun v14 => f_X11_of_67_l64 I L n x1 x2 v13 v14))))))) else (f_X11_of_67_l125 I L fuel x1 x2 x3 0))
theorem ok_X11_of_67_l64 {d : Nat} (hd : 2 ≤ d){I : mI} {L : mL} : ∀ (n : Nat) (x1 : Int32) (x2 : Int32) (x3 : Int32) (x4 : Int32) (o : Int32), f_X11_of_67_l64 I L n x1 x2 x3 x4 = some o → RR mX11_of d 64 [some (.ref 67), some (.int x1), some (.int x2), some (.int x3), some (.int x4)] [] I L (retQ (some (.int o)) I L) := by
  intro n
  induction n with
  | zero => intro x1 x2 x3 x4 o h; rw [f_X11_of_67_l64] at h; cases h
  | succ n ih =>
    intro x1 x2 x3 x4 o h
    rw [f_X11_of_67_l64] at h
    refine r_iload dX11_of_64 rfl ?_
    refine r_aload_n (i := 0) dX11_of_66 rfl rfl ?_
    refine r_getR f_X11_7 dX11_of_67 rfl rfl ?_
    refine r_iconst (v := 1) dX11_of_70 (by decide) ?_
    refine r_iald rfl (vp_lit (by decide)) dX11_of_71 ?_
    refine r_icmp_ge (tgt := 122) dX11_of_72 (by decide) (fun c => ?_) (fun c => ?_)
    · rw [if_pos c] at h
      refine r_iconst (v := 0) dX11_of_122 (by decide) ?_
      refine r_istore dX11_of_123 (by decide) rfl ?_
      simp only [List.set_cons_zero, List.set_cons_succ]
      exact RR.wk (ok_X11_of_67_l125 hd _ _ _ _ _ _ h) (And.intro rfl (And.intro rfl (And.intro rfl (And.intro rfl (And.intro rfl (trivial))))))
    · rw [if_neg c] at h
      refine r_iload_n (i := 2) dX11_of_75 rfl rfl ?_
      refine r_iconst (v := 5) dX11_of_76 (by decide) ?_
      refine r_icmp_ne (tgt := 122) dX11_of_77 (by decide) (fun c => ?_) (fun c => ?_)
      · rw [if_neg c] at h
        refine r_iconst (v := 0) dX11_of_122 (by decide) ?_
        refine r_istore dX11_of_123 (by decide) rfl ?_
        simp only [List.set_cons_zero, List.set_cons_succ]
        exact RR.wk (ok_X11_of_67_l125 hd _ _ _ _ _ _ h) (And.intro rfl (And.intro rfl (And.intro rfl (And.intro rfl (And.intro rfl (trivial))))))
      · rw [if_pos c] at h
        refine r_iload_n (i := 3) dX11_of_80 rfl rfl ?_
        refine r_aload_n (i := 0) dX11_of_81 rfl rfl ?_
        refine r_getR f_X11_7 dX11_of_82 rfl rfl ?_
        refine r_bipush (v := 46) dX11_of_85 (by decide) ?_
        refine r_iload dX11_of_87 rfl ?_
        refine r_iadd dX11_of_89 ?_
        obtain ⟨hb, h⟩ := ck_some h
        refine r_iald rfl (inb_vp hb) dX11_of_90 ?_
        refine r_iload_n (i := 1) dX11_of_91 rfl rfl ?_
        refine r_icmp_eq (tgt := 109) dX11_of_92 (by decide) (fun c => ?_) (fun c => ?_)
        · rw [if_pos c] at h
          refine r_iconst (v := 1) dX11_of_109 (by decide) ?_
          refine r_goto (tgt := 114) dX11_of_110 (by decide) ?_
          refine r_iadd dX11_of_114 ?_
          refine r_istore_n (i := 3) dX11_of_115 rfl (by decide) rfl ?_
          simp only [List.set_cons_zero, List.set_cons_succ]
          replace h := lt_some h
          refine r_iinc (v := _) dX11_of_116 rfl rfl (by decide) rfl ?_
          simp only [List.set_cons_zero, List.set_cons_succ]
          replace h := lt_some h
          refine r_goto (tgt := 64) dX11_of_119 (by decide) ?_
          exact RR.wk (ih _ _ _ _ _ h) (And.intro rfl (And.intro rfl (And.intro rfl (And.intro rfl (And.intro rfl (trivial))))))
        · rw [if_neg c] at h
          refine r_aload_n (i := 0) dX11_of_95 rfl rfl ?_
          refine r_getR f_X11_7 dX11_of_96 rfl rfl ?_
          refine r_bipush (v := 61) dX11_of_99 (by decide) ?_
          refine r_iload dX11_of_101 rfl ?_
          refine r_iadd dX11_of_103 ?_
          obtain ⟨hb, h⟩ := ck_some h
          refine r_iald rfl (inb_vp hb) dX11_of_104 ?_
          refine r_iload_n (i := 1) dX11_of_105 rfl rfl ?_
          refine r_icmp_ne (tgt := 113) dX11_of_106 (by decide) (fun c => ?_) (fun c => ?_)
          · rw [if_neg c] at h
            refine r_iconst (v := 0) dX11_of_113 (by decide) ?_
            refine r_iadd dX11_of_114 ?_
            refine r_istore_n (i := 3) dX11_of_115 rfl (by decide) rfl ?_
            simp only [List.set_cons_zero, List.set_cons_succ]
            replace h := lt_some h
            refine r_iinc (v := _) dX11_of_116 rfl rfl (by decide) rfl ?_
            simp only [List.set_cons_zero, List.set_cons_succ]
            replace h := lt_some h
            refine r_goto (tgt := 64) dX11_of_119 (by decide) ?_
            exact RR.wk (ih _ _ _ _ _ h) (And.intro rfl (And.intro rfl (And.intro rfl (And.intro rfl (And.intro rfl (trivial))))))
          · rw [if_pos c] at h
            refine r_iconst (v := 1) dX11_of_109 (by decide) ?_
            refine r_goto (tgt := 114) dX11_of_110 (by decide) ?_
            refine r_iadd dX11_of_114 ?_
            refine r_istore_n (i := 3) dX11_of_115 rfl (by decide) rfl ?_
            simp only [List.set_cons_zero, List.set_cons_succ]
            replace h := lt_some h
            refine r_iinc (v := _) dX11_of_116 rfl rfl (by decide) rfl ?_
            simp only [List.set_cons_zero, List.set_cons_succ]
            replace h := lt_some h
            refine r_goto (tgt := 64) dX11_of_119 (by decide) ?_
            exact RR.wk (ih _ _ _ _ _ h) (And.intro rfl (And.intro rfl (And.intro rfl (And.intro rfl (And.intro rfl (trivial))))))
def f_X11_of_67 (I : mI) (L : mL) (a1 : Int32) (a2 : Int32) : Option Int32 := (f_X11_isParish_67 I L a1).bind (fun r1 => if r1 = 0 then (some (-1)) else ((f_X11_in I L (a2.toInt64) 0 7).bind (fun r2 => if r2 = 0 then (some (-1)) else (if 5 ≤ a2 then (f_X11_of_67_l64 I L fuel a1 a2 0 0) else (if a2 = 0 then (ck (inb (6 + a1) 135) (some (I 68 (6 + a1).toNatClampNeg))) else (ck (inb (((14 + (4 * a1)) + a2) - 1) 135) (some (I 68 (((14 + (4 * a1)) + a2) - 1).toNatClampNeg))))))))
theorem ok_X11_of_67 {d : Nat} (hd : 2 ≤ d) {I : mI} {L : mL} {a1 : Int32} {a2 : Int32} {o : Int32} (h : f_X11_of_67 I L a1 a2 = some o) : RR mX11_of d 0 [some (.ref 67), some (.int a1), some (.int a2), none, none] [] I L (retQ (some (.int o)) I L) := by
  unfold f_X11_of_67 at h
  refine r_aload_n (i := 0) dX11_of_0 rfl rfl ?_
  refine r_iload_n (i := 1) dX11_of_1 rfl rfl ?_
  obtain ⟨r1, hr, h⟩ := bind_some h
  refine r_V (d' := 1) k_X11_68 dX11_of_2 (by omega) rfl rfl rfl (Nat.le_of_ble_eq_true rfl) (Nat.le_of_ble_eq_true rfl) (ok_X11_isParish_67 (Nat.le_refl _) hr) (fun v I' L' hq => ?_)
  obtain ⟨rfl, rfl, rfl⟩ := hq
  simp only [Option.toList_some, Option.toList_none, List.drop_succ_cons, List.drop_zero, List.drop_nil, List.cons_append, List.nil_append]
  refine r_if_eq (tgt := 20) dX11_of_5 (by decide) (fun c => ?_) (fun c => ?_)
  · rw [if_pos c] at h
    refine r_iconst (v := (-1)) dX11_of_20 (by decide) ?_
    refine r_iret (by first | rfl | decide) dX11_of_21 ?_
    obtain rfl := Option.some.inj h
    exact ⟨rfl, rfl, rfl⟩
  · rw [if_neg c] at h
    refine r_iload_n (i := 2) dX11_of_8 rfl rfl ?_
    refine r_i2l dX11_of_9 ?_
    refine r_lconst (v := 0) dX11_of_10 (by decide) ?_
    refine r_ldc2 n_X11_91 dX11_of_11 ?_
    obtain ⟨r2, hr, h⟩ := bind_some h
    refine r_S (d' := 0) k_X11_50 dX11_of_14 (by omega) rfl (Nat.le_of_ble_eq_true rfl) (Nat.le_of_ble_eq_true rfl) (ok_X11_in (Nat.le_refl _) hr) (fun v I' L' hq => ?_)
    obtain ⟨rfl, rfl, rfl⟩ := hq
    simp only [Option.toList_some, Option.toList_none, List.drop_succ_cons, List.drop_zero, List.drop_nil, List.cons_append, List.nil_append]
    refine r_if_ne (tgt := 22) dX11_of_17 (by decide) (fun c => ?_) (fun c => ?_)
    · rw [if_neg c] at h
      refine r_iload_n (i := 2) dX11_of_22 rfl rfl ?_
      refine r_iconst (v := 5) dX11_of_23 (by decide) ?_
      refine r_icmp_ge (tgt := 59) dX11_of_24 (by decide) (fun c => ?_) (fun c => ?_)
      · rw [if_pos c] at h
        refine r_iconst (v := 0) dX11_of_59 (by decide) ?_
        refine r_istore_n (i := 3) dX11_of_60 rfl (by decide) rfl ?_
        simp only [List.set_cons_zero, List.set_cons_succ]
        refine r_iconst (v := 0) dX11_of_61 (by decide) ?_
        refine r_istore dX11_of_62 (by decide) rfl ?_
        simp only [List.set_cons_zero, List.set_cons_succ]
        exact RR.wk (ok_X11_of_67_l64 hd _ _ _ _ _ _ h) (And.intro rfl (And.intro rfl (And.intro rfl (And.intro rfl (And.intro rfl (trivial))))))
      · rw [if_neg c] at h
        refine r_iload_n (i := 2) dX11_of_27 rfl rfl ?_
        refine r_if_ne (tgt := 43) dX11_of_28 (by decide) (fun c => ?_) (fun c => ?_)
        · rw [if_neg c] at h
          refine r_aload_n (i := 0) dX11_of_43 rfl rfl ?_
          refine r_getR f_X11_7 dX11_of_44 rfl rfl ?_
          refine r_bipush (v := 14) dX11_of_47 (by decide) ?_
          refine r_iconst (v := 4) dX11_of_49 (by decide) ?_
          refine r_iload_n (i := 1) dX11_of_50 rfl rfl ?_
          refine r_imul dX11_of_51 ?_
          refine r_iadd dX11_of_52 ?_
          refine r_iload_n (i := 2) dX11_of_53 rfl rfl ?_
          refine r_iadd dX11_of_54 ?_
          refine r_iconst (v := 1) dX11_of_55 (by decide) ?_
          refine r_isub dX11_of_56 ?_
          obtain ⟨hb, h⟩ := ck_some h
          refine r_iald rfl (inb_vp hb) dX11_of_57 ?_
          refine r_iret (by first | rfl | decide) dX11_of_58 ?_
          obtain rfl := Option.some.inj h
          exact ⟨rfl, rfl, rfl⟩
        · rw [if_pos c] at h
          refine r_aload_n (i := 0) dX11_of_31 rfl rfl ?_
          refine r_getR f_X11_7 dX11_of_32 rfl rfl ?_
          refine r_bipush (v := 6) dX11_of_35 (by decide) ?_
          refine r_iload_n (i := 1) dX11_of_37 rfl rfl ?_
          refine r_iadd dX11_of_38 ?_
          obtain ⟨hb, h⟩ := ck_some h
          refine r_iald rfl (inb_vp hb) dX11_of_39 ?_
          refine r_goto (tgt := 58) dX11_of_40 (by decide) ?_
          refine r_iret (by first | rfl | decide) dX11_of_58 ?_
          obtain rfl := Option.some.inj h
          exact ⟨rfl, rfl, rfl⟩
    · rw [if_pos c] at h
      refine r_iconst (v := (-1)) dX11_of_20 (by decide) ?_
      refine r_iret (by first | rfl | decide) dX11_of_21 ?_
      obtain rfl := Option.some.inj h
      exact ⟨rfl, rfl, rfl⟩
def f_X11_told_67_b157 (I : mI) (L : mL) (x1 : Int32) (s0 : Int32) : Option Int32 := ck (inb (s0 + x1) 135) (some (I 68 (s0 + x1).toNatClampNeg))
theorem ok_X11_told_67_b157 {d : Nat} (hd : 2 ≤ d){I : mI} {L : mL} (x1 : Int32) (s0 : Int32) {o : Int32} (h : f_X11_told_67_b157 I L x1 s0 = some o) : RR mX11_told d 157 [some (.ref 67), some (.int x1), none, none, none] [.int s0] I L (retQ (some (.int o)) I L) := by
  unfold f_X11_told_67_b157 at h
  refine r_istore dX11_told_157 (by decide) rfl ?_
  simp only [List.set_cons_zero, List.set_cons_succ]
  refine r_aload_n (i := 0) dX11_told_159 rfl rfl ?_
  refine r_getR f_X11_7 dX11_told_160 rfl rfl ?_
  refine r_iload dX11_told_163 rfl ?_
  refine r_iload_n (i := 1) dX11_told_165 rfl rfl ?_
  refine r_iadd dX11_told_166 ?_
  obtain ⟨hb, h⟩ := ck_some h
  refine r_iald rfl (inb_vp hb) dX11_told_167 ?_
  refine r_iret (by first | rfl | decide) dX11_told_168 ?_
  obtain rfl := Option.some.inj h
  exact ⟨rfl, rfl, rfl⟩
def f_X11_told_67_b91 (I : mI) (L : mL) (x1 : Int32) (x2 : Int32) (s0 : Int32) : Option Int32 := if s0 = 0 then (some (-1)) else (if 3 ≤ x2 then (if 5 ≤ x2 then (if 9 ≤ x2 then (f_X11_told_67_b157 I L x1 (123 + (6 * (x2 - 9)))) else (f_X11_told_67_b157 I L x1 (99 + (6 * (x2 - 5))))) else (f_X11_told_67_b157 I L x1 (91 + (4 * (x2 - 3))))) else (f_X11_told_67_b157 I L x1 (46 + (15 * x2))))
theorem ok_X11_told_67_b91 {d : Nat} (hd : 2 ≤ d){I : mI} {L : mL} (x1 : Int32) (x2 : Int32) (s0 : Int32) {o : Int32} (h : f_X11_told_67_b91 I L x1 x2 s0 = some o) : RR mX11_told d 91 [some (.ref 67), some (.int x1), some (.int x2), none, none] [.int s0] I L (retQ (some (.int o)) I L) := by
  unfold f_X11_told_67_b91 at h
  refine r_istore_n (i := 3) dX11_told_91 rfl (by decide) rfl ?_
  simp only [List.set_cons_zero, List.set_cons_succ]
  refine r_iload_n (i := 3) dX11_told_92 rfl rfl ?_
  refine r_if_ne (tgt := 98) dX11_told_93 (by decide) (fun c => ?_) (fun c => ?_)
  · rw [if_neg c] at h
    refine r_iload_n (i := 2) dX11_told_98 rfl rfl ?_
    refine r_iconst (v := 3) dX11_told_99 (by decide) ?_
    refine r_icmp_ge (tgt := 113) dX11_told_100 (by decide) (fun c => ?_) (fun c => ?_)
    · rw [if_pos c] at h
      refine r_iload_n (i := 2) dX11_told_113 rfl rfl ?_
      refine r_iconst (v := 5) dX11_told_114 (by decide) ?_
      refine r_icmp_ge (tgt := 129) dX11_told_115 (by decide) (fun c => ?_) (fun c => ?_)
      · rw [if_pos c] at h
        refine r_iload_n (i := 2) dX11_told_129 rfl rfl ?_
        refine r_bipush (v := 9) dX11_told_130 (by decide) ?_
        refine r_icmp_ge (tgt := 147) dX11_told_132 (by decide) (fun c => ?_) (fun c => ?_)
        · rw [if_pos c] at h
          refine r_bipush (v := 123) dX11_told_147 (by decide) ?_
          refine r_bipush (v := 6) dX11_told_149 (by decide) ?_
          refine r_iload_n (i := 2) dX11_told_151 rfl rfl ?_
          refine r_bipush (v := 9) dX11_told_152 (by decide) ?_
          refine r_isub dX11_told_154 ?_
          refine r_imul dX11_told_155 ?_
          refine r_iadd dX11_told_156 ?_
          exact RR.wk (ok_X11_told_67_b157 hd _ _ h) (And.intro rfl (And.intro rfl (trivial)))
        · rw [if_neg c] at h
          refine r_bipush (v := 99) dX11_told_135 (by decide) ?_
          refine r_bipush (v := 6) dX11_told_137 (by decide) ?_
          refine r_iload_n (i := 2) dX11_told_139 rfl rfl ?_
          refine r_iconst (v := 5) dX11_told_140 (by decide) ?_
          refine r_isub dX11_told_141 ?_
          refine r_imul dX11_told_142 ?_
          refine r_iadd dX11_told_143 ?_
          refine r_goto (tgt := 157) dX11_told_144 (by decide) ?_
          exact RR.wk (ok_X11_told_67_b157 hd _ _ h) (And.intro rfl (And.intro rfl (trivial)))
      · rw [if_neg c] at h
        refine r_bipush (v := 91) dX11_told_118 (by decide) ?_
        refine r_iconst (v := 4) dX11_told_120 (by decide) ?_
        refine r_iload_n (i := 2) dX11_told_121 rfl rfl ?_
        refine r_iconst (v := 3) dX11_told_122 (by decide) ?_
        refine r_isub dX11_told_123 ?_
        refine r_imul dX11_told_124 ?_
        refine r_iadd dX11_told_125 ?_
        refine r_goto (tgt := 157) dX11_told_126 (by decide) ?_
        exact RR.wk (ok_X11_told_67_b157 hd _ _ h) (And.intro rfl (And.intro rfl (trivial)))
    · rw [if_neg c] at h
      refine r_bipush (v := 46) dX11_told_103 (by decide) ?_
      refine r_bipush (v := 15) dX11_told_105 (by decide) ?_
      refine r_iload_n (i := 2) dX11_told_107 rfl rfl ?_
      refine r_imul dX11_told_108 ?_
      refine r_iadd dX11_told_109 ?_
      refine r_goto (tgt := 157) dX11_told_110 (by decide) ?_
      exact RR.wk (ok_X11_told_67_b157 hd _ _ h) (And.intro rfl (And.intro rfl (trivial)))
  · rw [if_pos c] at h
    refine r_iconst (v := (-1)) dX11_told_96 (by decide) ?_
    refine r_iret (by first | rfl | decide) dX11_told_97 ?_
    obtain rfl := Option.some.inj h
    exact ⟨rfl, rfl, rfl⟩
def f_X11_told_67_b90 (I : mI) (L : mL) (x1 : Int32) (x2 : Int32) : Option Int32 := f_X11_told_67_b91 I L x1 x2 0
theorem ok_X11_told_67_b90 {d : Nat} (hd : 2 ≤ d){I : mI} {L : mL} (x1 : Int32) (x2 : Int32) {o : Int32} (h : f_X11_told_67_b90 I L x1 x2 = some o) : RR mX11_told d 90 [some (.ref 67), some (.int x1), some (.int x2), none, none] [] I L (retQ (some (.int o)) I L) := by
  unfold f_X11_told_67_b90 at h
  refine r_iconst (v := 0) dX11_told_90 (by decide) ?_
  exact RR.wk (ok_X11_told_67_b91 hd _ _ _ h) (And.intro rfl (And.intro rfl (And.intro rfl (trivial))))
def f_X11_told_67 (I : mI) (L : mL) (a1 : Int32) (a2 : Int32) : Option Int32 := (f_X11_in I L (a2.toInt64) 0 2).bind (fun r1 => if r1 = 0 then ((f_X11_in I L (a2.toInt64) 3 4).bind (fun r2 => if r2 = 0 then ((f_X11_in I L (a2.toInt64) 5 8).bind (fun r3 => if r3 = 0 then ((f_X11_in I L (a2.toInt64) 9 10).bind (fun r4 => if r4 = 0 then (f_X11_told_67_b90 I L a1 a2) else ((f_X11_isPerson_67 I L a1).bind (fun r5 => if r5 = 0 then (f_X11_told_67_b90 I L a1 a2) else (f_X11_told_67_b91 I L a1 a2 1))))) else ((f_X11_isGood_67 I L a1).bind (fun r6 => f_X11_told_67_b91 I L a1 a2 r6)))) else ((f_X11_isCart_67 I L a1).bind (fun r7 => f_X11_told_67_b91 I L a1 a2 r7)))) else ((f_X11_isRoad_67 I L a1).bind (fun r8 => f_X11_told_67_b91 I L a1 a2 r8)))
theorem ok_X11_told_67 {d : Nat} (hd : 2 ≤ d) {I : mI} {L : mL} {a1 : Int32} {a2 : Int32} {o : Int32} (h : f_X11_told_67 I L a1 a2 = some o) : RR mX11_told d 0 [some (.ref 67), some (.int a1), some (.int a2), none, none] [] I L (retQ (some (.int o)) I L) := by
  unfold f_X11_told_67 at h
  refine r_iload_n (i := 2) dX11_told_0 rfl rfl ?_
  refine r_i2l dX11_told_1 ?_
  refine r_lconst (v := 0) dX11_told_2 (by decide) ?_
  refine r_ldc2 n_X11_93 dX11_told_3 ?_
  obtain ⟨r1, hr, h⟩ := bind_some h
  refine r_S (d' := 0) k_X11_50 dX11_told_6 (by omega) rfl (Nat.le_of_ble_eq_true rfl) (Nat.le_of_ble_eq_true rfl) (ok_X11_in (Nat.le_refl _) hr) (fun v I' L' hq => ?_)
  obtain ⟨rfl, rfl, rfl⟩ := hq
  simp only [Option.toList_some, Option.toList_none, List.drop_succ_cons, List.drop_zero, List.drop_nil, List.cons_append, List.nil_append]
  refine r_if_eq (tgt := 20) dX11_told_9 (by decide) (fun c => ?_) (fun c => ?_)
  · rw [if_pos c] at h
    refine r_iload_n (i := 2) dX11_told_20 rfl rfl ?_
    refine r_i2l dX11_told_21 ?_
    refine r_ldc2 n_X11_62 dX11_told_22 ?_
    refine r_ldc2 n_X11_95 dX11_told_25 ?_
    obtain ⟨r2, hr, h⟩ := bind_some h
    refine r_S (d' := 0) k_X11_50 dX11_told_28 (by omega) rfl (Nat.le_of_ble_eq_true rfl) (Nat.le_of_ble_eq_true rfl) (ok_X11_in (Nat.le_refl _) hr) (fun v I' L' hq => ?_)
    obtain ⟨rfl, rfl, rfl⟩ := hq
    simp only [Option.toList_some, Option.toList_none, List.drop_succ_cons, List.drop_zero, List.drop_nil, List.cons_append, List.nil_append]
    refine r_if_eq (tgt := 42) dX11_told_31 (by decide) (fun c => ?_) (fun c => ?_)
    · rw [if_pos c] at h
      refine r_iload_n (i := 2) dX11_told_42 rfl rfl ?_
      refine r_i2l dX11_told_43 ?_
      refine r_ldc2 n_X11_100 dX11_told_44 ?_
      refine r_ldc2 n_X11_102 dX11_told_47 ?_
      obtain ⟨r3, hr, h⟩ := bind_some h
      refine r_S (d' := 0) k_X11_50 dX11_told_50 (by omega) rfl (Nat.le_of_ble_eq_true rfl) (Nat.le_of_ble_eq_true rfl) (ok_X11_in (Nat.le_refl _) hr) (fun v I' L' hq => ?_)
      obtain ⟨rfl, rfl, rfl⟩ := hq
      simp only [Option.toList_some, Option.toList_none, List.drop_succ_cons, List.drop_zero, List.drop_nil, List.cons_append, List.nil_append]
      refine r_if_eq (tgt := 64) dX11_told_53 (by decide) (fun c => ?_) (fun c => ?_)
      · rw [if_pos c] at h
        refine r_iload_n (i := 2) dX11_told_64 rfl rfl ?_
        refine r_i2l dX11_told_65 ?_
        refine r_ldc2 n_X11_72 dX11_told_66 ?_
        refine r_ldc2 n_X11_104 dX11_told_69 ?_
        obtain ⟨r4, hr, h⟩ := bind_some h
        refine r_S (d' := 0) k_X11_50 dX11_told_72 (by omega) rfl (Nat.le_of_ble_eq_true rfl) (Nat.le_of_ble_eq_true rfl) (ok_X11_in (Nat.le_refl _) hr) (fun v I' L' hq => ?_)
        obtain ⟨rfl, rfl, rfl⟩ := hq
        simp only [Option.toList_some, Option.toList_none, List.drop_succ_cons, List.drop_zero, List.drop_nil, List.cons_append, List.nil_append]
        refine r_if_eq (tgt := 90) dX11_told_75 (by decide) (fun c => ?_) (fun c => ?_)
        · rw [if_pos c] at h
          exact RR.wk (ok_X11_told_67_b90 hd _ _ h) (And.intro rfl (And.intro rfl (And.intro rfl (trivial))))
        · rw [if_neg c] at h
          refine r_aload_n (i := 0) dX11_told_78 rfl rfl ?_
          refine r_iload_n (i := 1) dX11_told_79 rfl rfl ?_
          obtain ⟨r5, hr, h⟩ := bind_some h
          refine r_V (d' := 1) k_X11_106 dX11_told_80 (by omega) rfl rfl rfl (Nat.le_of_ble_eq_true rfl) (Nat.le_of_ble_eq_true rfl) (ok_X11_isPerson_67 (Nat.le_refl _) hr) (fun v I' L' hq => ?_)
          obtain ⟨rfl, rfl, rfl⟩ := hq
          simp only [Option.toList_some, Option.toList_none, List.drop_succ_cons, List.drop_zero, List.drop_nil, List.cons_append, List.nil_append]
          refine r_if_eq (tgt := 90) dX11_told_83 (by decide) (fun c => ?_) (fun c => ?_)
          · rw [if_pos c] at h
            exact RR.wk (ok_X11_told_67_b90 hd _ _ h) (And.intro rfl (And.intro rfl (And.intro rfl (trivial))))
          · rw [if_neg c] at h
            refine r_iconst (v := 1) dX11_told_86 (by decide) ?_
            refine r_goto (tgt := 91) dX11_told_87 (by decide) ?_
            exact RR.wk (ok_X11_told_67_b91 hd _ _ _ h) (And.intro rfl (And.intro rfl (And.intro rfl (trivial))))
      · rw [if_neg c] at h
        refine r_aload_n (i := 0) dX11_told_56 rfl rfl ?_
        refine r_iload_n (i := 1) dX11_told_57 rfl rfl ?_
        obtain ⟨r6, hr, h⟩ := bind_some h
        refine r_V (d' := 1) k_X11_85 dX11_told_58 (by omega) rfl rfl rfl (Nat.le_of_ble_eq_true rfl) (Nat.le_of_ble_eq_true rfl) (ok_X11_isGood_67 (Nat.le_refl _) hr) (fun v I' L' hq => ?_)
        obtain ⟨rfl, rfl, rfl⟩ := hq
        simp only [Option.toList_some, Option.toList_none, List.drop_succ_cons, List.drop_zero, List.drop_nil, List.cons_append, List.nil_append]
        refine r_goto (tgt := 91) dX11_told_61 (by decide) ?_
        exact RR.wk (ok_X11_told_67_b91 hd _ _ _ h) (And.intro rfl (And.intro rfl (And.intro rfl (trivial))))
    · rw [if_neg c] at h
      refine r_aload_n (i := 0) dX11_told_34 rfl rfl ?_
      refine r_iload_n (i := 1) dX11_told_35 rfl rfl ?_
      obtain ⟨r7, hr, h⟩ := bind_some h
      refine r_V (d' := 1) k_X11_97 dX11_told_36 (by omega) rfl rfl rfl (Nat.le_of_ble_eq_true rfl) (Nat.le_of_ble_eq_true rfl) (ok_X11_isCart_67 (Nat.le_refl _) hr) (fun v I' L' hq => ?_)
      obtain ⟨rfl, rfl, rfl⟩ := hq
      simp only [Option.toList_some, Option.toList_none, List.drop_succ_cons, List.drop_zero, List.drop_nil, List.cons_append, List.nil_append]
      refine r_goto (tgt := 91) dX11_told_39 (by decide) ?_
      exact RR.wk (ok_X11_told_67_b91 hd _ _ _ h) (And.intro rfl (And.intro rfl (And.intro rfl (trivial))))
  · rw [if_neg c] at h
    refine r_aload_n (i := 0) dX11_told_12 rfl rfl ?_
    refine r_iload_n (i := 1) dX11_told_13 rfl rfl ?_
    obtain ⟨r8, hr, h⟩ := bind_some h
    refine r_V (d' := 1) k_X11_78 dX11_told_14 (by omega) rfl rfl rfl (Nat.le_of_ble_eq_true rfl) (Nat.le_of_ble_eq_true rfl) (ok_X11_isRoad_67 (Nat.le_refl _) hr) (fun v I' L' hq => ?_)
    obtain ⟨rfl, rfl, rfl⟩ := hq
    simp only [Option.toList_some, Option.toList_none, List.drop_succ_cons, List.drop_zero, List.drop_nil, List.cons_append, List.nil_append]
    refine r_goto (tgt := 91) dX11_told_17 (by decide) ?_
    exact RR.wk (ok_X11_told_67_b91 hd _ _ _ h) (And.intro rfl (And.intro rfl (And.intro rfl (trivial))))
def f_X11_weighs_67 (I : mI) (L : mL) (a1 : Int32) (a2 : Int32) : Option Int32 := (f_X11_isParish_67 I L a1).bind (fun r1 => if r1 = 0 then (some (-1)) else ((f_X11_in I L (a2.toInt64) 1 99).bind (fun r2 => if r2 = 0 then (some (-1)) else ((f_X11_weight_67 I L a1 a2).bind (fun r3 => some r3)))))
theorem ok_X11_weighs_67 {d : Nat} (hd : 2 ≤ d) {I : mI} {L : mL} {a1 : Int32} {a2 : Int32} {o : Int32} (h : f_X11_weighs_67 I L a1 a2 = some o) : RR mX11_weighs d 0 [some (.ref 67), some (.int a1), some (.int a2)] [] I L (retQ (some (.int o)) I L) := by
  unfold f_X11_weighs_67 at h
  refine r_aload_n (i := 0) dX11_weighs_0 rfl rfl ?_
  refine r_iload_n (i := 1) dX11_weighs_1 rfl rfl ?_
  obtain ⟨r1, hr, h⟩ := bind_some h
  refine r_V (d' := 1) k_X11_68 dX11_weighs_2 (by omega) rfl rfl rfl (Nat.le_of_ble_eq_true rfl) (Nat.le_of_ble_eq_true rfl) (ok_X11_isParish_67 (Nat.le_refl _) hr) (fun v I' L' hq => ?_)
  obtain ⟨rfl, rfl, rfl⟩ := hq
  simp only [Option.toList_some, Option.toList_none, List.drop_succ_cons, List.drop_zero, List.drop_nil, List.cons_append, List.nil_append]
  refine r_if_eq (tgt := 29) dX11_weighs_5 (by decide) (fun c => ?_) (fun c => ?_)
  · rw [if_pos c] at h
    refine r_iconst (v := (-1)) dX11_weighs_29 (by decide) ?_
    refine r_iret (by first | rfl | decide) dX11_weighs_30 ?_
    obtain rfl := Option.some.inj h
    exact ⟨rfl, rfl, rfl⟩
  · rw [if_neg c] at h
    refine r_iload_n (i := 2) dX11_weighs_8 rfl rfl ?_
    refine r_i2l dX11_weighs_9 ?_
    refine r_lconst (v := 1) dX11_weighs_10 (by decide) ?_
    refine r_ldc2 n_X11_83 dX11_weighs_11 ?_
    obtain ⟨r2, hr, h⟩ := bind_some h
    refine r_S (d' := 0) k_X11_50 dX11_weighs_14 (by omega) rfl (Nat.le_of_ble_eq_true rfl) (Nat.le_of_ble_eq_true rfl) (ok_X11_in (Nat.le_refl _) hr) (fun v I' L' hq => ?_)
    obtain ⟨rfl, rfl, rfl⟩ := hq
    simp only [Option.toList_some, Option.toList_none, List.drop_succ_cons, List.drop_zero, List.drop_nil, List.cons_append, List.nil_append]
    refine r_if_eq (tgt := 29) dX11_weighs_17 (by decide) (fun c => ?_) (fun c => ?_)
    · rw [if_pos c] at h
      refine r_iconst (v := (-1)) dX11_weighs_29 (by decide) ?_
      refine r_iret (by first | rfl | decide) dX11_weighs_30 ?_
      obtain rfl := Option.some.inj h
      exact ⟨rfl, rfl, rfl⟩
    · rw [if_neg c] at h
      refine r_aload_n (i := 0) dX11_weighs_20 rfl rfl ?_
      refine r_iload_n (i := 1) dX11_weighs_21 rfl rfl ?_
      refine r_iload_n (i := 2) dX11_weighs_22 rfl rfl ?_
      obtain ⟨r3, hr, h⟩ := bind_some h
      refine r_V (d' := 1) k_X11_88 dX11_weighs_23 (by omega) rfl rfl rfl (Nat.le_of_ble_eq_true rfl) (Nat.le_of_ble_eq_true rfl) (ok_X11_weight_67 (Nat.le_refl _) hr) (fun v I' L' hq => ?_)
      obtain ⟨rfl, rfl, rfl⟩ := hq
      simp only [Option.toList_some, Option.toList_none, List.drop_succ_cons, List.drop_zero, List.drop_nil, List.cons_append, List.nil_append]
      refine r_goto (tgt := 30) dX11_weighs_26 (by decide) ?_
      refine r_iret (by first | rfl | decide) dX11_weighs_30 ?_
      obtain rfl := Option.some.inj h
      exact ⟨rfl, rfl, rfl⟩
def f_X11_type_67 (I : mI) (L : mL) (a1 : Int32) : rI := (f_X11_in I L (a1.toInt64) 32 126).bind (fun r1 => if r1 = 0 then (some ((-1), I, L)) else (if (I 67 4) = 120 then (some ((-3), I, L)) else (ck (inb (I 67 4) 120) (lt (uI I 70 (I 67 4).toNatClampNeg a1) (fun M2 => lt (uI M2 67 4 ((M2 67 4) + 1)) (fun M3 => some (M3 67 4, M3, L)))))))
theorem ok_X11_type_67 {d : Nat} (hd : 1 ≤ d) {I : mI} {L : mL} {a1 : Int32} {o : Int32 × mI × mL} (h : f_X11_type_67 I L a1 = some o) : RR mX11_type d 0 [some (.ref 67), some (.int a1)] [] I L (retQ (some (.int o.1)) o.2.1 o.2.2) := by
  unfold f_X11_type_67 at h
  refine r_iload_n (i := 1) dX11_type_0 rfl rfl ?_
  refine r_i2l dX11_type_1 ?_
  refine r_ldc2 n_X11_109 dX11_type_2 ?_
  refine r_ldc2 n_X11_111 dX11_type_5 ?_
  obtain ⟨r1, hr, h⟩ := bind_some h
  refine r_S (d' := 0) k_X11_50 dX11_type_8 (by omega) rfl (Nat.le_of_ble_eq_true rfl) (Nat.le_of_ble_eq_true rfl) (ok_X11_in (Nat.le_refl _) hr) (fun v I' L' hq => ?_)
  obtain ⟨rfl, rfl, rfl⟩ := hq
  simp only [Option.toList_some, Option.toList_none, List.drop_succ_cons, List.drop_zero, List.drop_nil, List.cons_append, List.nil_append]
  refine r_if_ne (tgt := 16) dX11_type_11 (by decide) (fun c => ?_) (fun c => ?_)
  · rw [if_neg c] at h
    refine r_aload_n (i := 0) dX11_type_16 rfl rfl ?_
    refine r_getI f_X11_113 dX11_type_17 rfl rfl ?_
    refine r_bipush (v := 120) dX11_type_20 (by decide) ?_
    refine r_icmp_ne (tgt := 28) dX11_type_22 (by decide) (fun c => ?_) (fun c => ?_)
    · rw [if_neg c] at h
      refine r_aload_n (i := 0) dX11_type_28 rfl rfl ?_
      refine r_getR f_X11_16 dX11_type_29 rfl rfl ?_
      refine r_aload_n (i := 0) dX11_type_32 rfl rfl ?_
      refine r_getI f_X11_113 dX11_type_33 rfl rfl ?_
      refine r_iload_n (i := 1) dX11_type_36 rfl rfl ?_
      obtain ⟨hb, h⟩ := ck_some h
      refine r_iast rfl (inb_vp hb) dX11_type_37 ?_
      replace h := lt_some h
      refine r_aload_n (i := 0) dX11_type_38 rfl rfl ?_
      refine r_dup dX11_type_39 rfl ?_
      refine r_getI f_X11_113 dX11_type_40 rfl rfl ?_
      refine r_iconst (v := 1) dX11_type_43 (by decide) ?_
      refine r_iadd dX11_type_44 ?_
      refine r_putI f_X11_113 rfl rfl dX11_type_45 rfl rfl ?_
      replace h := lt_some h
      refine r_aload_n (i := 0) dX11_type_48 rfl rfl ?_
      refine r_getI f_X11_113 dX11_type_49 rfl rfl ?_
      refine r_iret (by first | rfl | decide) dX11_type_52 ?_
      obtain rfl := Option.some.inj h
      exact ⟨rfl, rfl, rfl⟩
    · rw [if_pos c] at h
      refine r_bipush (v := (-3)) dX11_type_25 (by decide) ?_
      refine r_iret (by first | rfl | decide) dX11_type_27 ?_
      obtain rfl := Option.some.inj h
      exact ⟨rfl, rfl, rfl⟩
  · rw [if_pos c] at h
    refine r_iconst (v := (-1)) dX11_type_14 (by decide) ?_
    refine r_iret (by first | rfl | decide) dX11_type_15 ?_
    obtain rfl := Option.some.inj h
    exact ⟨rfl, rfl, rfl⟩
def f_X11_next_67_b38 (I : mI) (L : mL) : rI := if (I 67 4) ≤ (I 67 8) then (some (0, I, L)) else (ck (inb (I 67 8) 120) (some (I 70 (I 67 8).toNatClampNeg, I, L)))
theorem ok_X11_next_67_b38 {d : Nat} (hd : 0 ≤ d){I : mI} {L : mL} {o : Int32 × mI × mL} (h : f_X11_next_67_b38 I L = some o) : RR mX11_next d 38 [some (.ref 67)] [] I L (retQ (some (.int o.1)) o.2.1 o.2.2) := by
  unfold f_X11_next_67_b38 at h
  refine r_aload_n (i := 0) dX11_next_38 rfl rfl ?_
  refine r_getI f_X11_117 dX11_next_39 rfl rfl ?_
  refine r_aload_n (i := 0) dX11_next_42 rfl rfl ?_
  refine r_getI f_X11_113 dX11_next_43 rfl rfl ?_
  refine r_icmp_ge (tgt := 61) dX11_next_46 (by decide) (fun c => ?_) (fun c => ?_)
  · rw [if_pos c] at h
    refine r_iconst (v := 0) dX11_next_61 (by decide) ?_
    refine r_iret (by first | rfl | decide) dX11_next_62 ?_
    obtain rfl := Option.some.inj h
    exact ⟨rfl, rfl, rfl⟩
  · rw [if_neg c] at h
    refine r_aload_n (i := 0) dX11_next_49 rfl rfl ?_
    refine r_getR f_X11_16 dX11_next_50 rfl rfl ?_
    refine r_aload_n (i := 0) dX11_next_53 rfl rfl ?_
    refine r_getI f_X11_117 dX11_next_54 rfl rfl ?_
    obtain ⟨hb, h⟩ := ck_some h
    refine r_iald rfl (inb_vp hb) dX11_next_57 ?_
    refine r_goto (tgt := 62) dX11_next_58 (by decide) ?_
    refine r_iret (by first | rfl | decide) dX11_next_62 ?_
    obtain rfl := Option.some.inj h
    exact ⟨rfl, rfl, rfl⟩
def f_X11_next_67_l0 : Nat → mI → mL → rI
  | 0, _, _ => none
  | n + 1, I, L => if (I 67 4) ≤ (I 67 8) then (f_X11_next_67_b38 I L) else (ck (inb (I 67 8) 120) (if (I 70 (I 67 8).toNatClampNeg) = 32 then (lt (uI I 67 8 ((I 67 8) + 1)) (fun M1 => f_X11_next_67_l0 n M1 L)) else (f_X11_next_67_b38 I L)))
theorem ok_X11_next_67_l0 {d : Nat} (hd : 0 ≤ d) : ∀ (n : Nat) (I : mI) (L : mL) (o : Int32 × mI × mL), f_X11_next_67_l0 n I L = some o → RR mX11_next d 0 [some (.ref 67)] [] I L (retQ (some (.int o.1)) o.2.1 o.2.2) := by
  intro n
  induction n with
  | zero => intro I L o h; rw [f_X11_next_67_l0] at h; cases h
  | succ n ih =>
    intro I L o h
    rw [f_X11_next_67_l0] at h
    refine r_aload_n (i := 0) dX11_next_0 rfl rfl ?_
    refine r_getI f_X11_117 dX11_next_1 rfl rfl ?_
    refine r_aload_n (i := 0) dX11_next_4 rfl rfl ?_
    refine r_getI f_X11_113 dX11_next_5 rfl rfl ?_
    refine r_icmp_ge (tgt := 38) dX11_next_8 (by decide) (fun c => ?_) (fun c => ?_)
    · rw [if_pos c] at h
      exact RR.wk (ok_X11_next_67_b38 hd h) (And.intro rfl (trivial))
    · rw [if_neg c] at h
      refine r_aload_n (i := 0) dX11_next_11 rfl rfl ?_
      refine r_getR f_X11_16 dX11_next_12 rfl rfl ?_
      refine r_aload_n (i := 0) dX11_next_15 rfl rfl ?_
      refine r_getI f_X11_117 dX11_next_16 rfl rfl ?_
      obtain ⟨hb, h⟩ := ck_some h
      refine r_iald rfl (inb_vp hb) dX11_next_19 ?_
      refine r_bipush (v := 32) dX11_next_20 (by decide) ?_
      refine r_icmp_ne (tgt := 38) dX11_next_22 (by decide) (fun c => ?_) (fun c => ?_)
      · rw [if_neg c] at h
        exact RR.wk (ok_X11_next_67_b38 hd h) (And.intro rfl (trivial))
      · rw [if_pos c] at h
        refine r_aload_n (i := 0) dX11_next_25 rfl rfl ?_
        refine r_dup dX11_next_26 rfl ?_
        refine r_getI f_X11_117 dX11_next_27 rfl rfl ?_
        refine r_iconst (v := 1) dX11_next_30 (by decide) ?_
        refine r_iadd dX11_next_31 ?_
        refine r_putI f_X11_117 rfl rfl dX11_next_32 rfl rfl ?_
        replace h := lt_some h
        refine r_goto (tgt := 0) dX11_next_35 (by decide) ?_
        exact RR.wk (ih _ _ _ h) (And.intro rfl (trivial))
def f_X11_next_67 (I : mI) (L : mL) : rI := f_X11_next_67_l0 fuel I L
theorem ok_X11_next_67 {d : Nat} (hd : 0 ≤ d) {I : mI} {L : mL} {o : Int32 × mI × mL} (h : f_X11_next_67 I L = some o) : RR mX11_next d 0 [some (.ref 67)] [] I L (retQ (some (.int o.1)) o.2.1 o.2.2) := by
  unfold f_X11_next_67 at h
  exact RR.wk (ok_X11_next_67_l0 hd _ _ _ _ h) (And.intro rfl (trivial))
def f_X11_isDigit_67 (I : mI) (L : mL) (a1 : Int32) (a2 : Int32) : rI := bndI (f_X11_next_67 I L) (fun r1 Ir1 Lr1 => (f_X11_in Ir1 Lr1 (r1.toInt64) ((48 + a1).toInt64) ((48 + a2).toInt64)).bind (fun r3 => ck (isb r3) (some (r3, Ir1, Lr1))))
theorem ok_X11_isDigit_67 {d : Nat} (hd : 1 ≤ d) {I : mI} {L : mL} {a1 : Int32} {a2 : Int32} {o : Int32 × mI × mL} (h : f_X11_isDigit_67 I L a1 a2 = some o) : RR mX11_isDigit d 0 [some (.ref 67), some (.int a1), some (.int a2)] [] I L (retQ (some (.int o.1)) o.2.1 o.2.2) := by
  unfold f_X11_isDigit_67 at h
  refine r_aload_n (i := 0) dX11_isDigit_0 rfl rfl ?_
  obtain ⟨⟨r1, Ir1, Lr1⟩, hr, h⟩ := bind_some h
  refine r_V (d' := 0) k_X11_120 dX11_isDigit_1 (by omega) rfl rfl rfl (Nat.le_of_ble_eq_true rfl) (Nat.le_of_ble_eq_true rfl) (ok_X11_next_67 (Nat.le_refl _) hr) (fun v I' L' hq => ?_)
  obtain ⟨rfl, rfl, rfl⟩ := hq
  simp only [Option.toList_some, Option.toList_none, List.drop_succ_cons, List.drop_zero, List.drop_nil, List.cons_append, List.nil_append]
  dsimp only at h
  refine r_i2l dX11_isDigit_4 ?_
  refine r_bipush (v := 48) dX11_isDigit_5 (by decide) ?_
  refine r_iload_n (i := 1) dX11_isDigit_7 rfl rfl ?_
  refine r_iadd dX11_isDigit_8 ?_
  refine r_i2l dX11_isDigit_9 ?_
  refine r_bipush (v := 48) dX11_isDigit_10 (by decide) ?_
  refine r_iload_n (i := 2) dX11_isDigit_12 rfl rfl ?_
  refine r_iadd dX11_isDigit_13 ?_
  refine r_i2l dX11_isDigit_14 ?_
  obtain ⟨r3, hr, h⟩ := bind_some h
  refine r_S (d' := 0) k_X11_50 dX11_isDigit_15 (by omega) rfl (Nat.le_of_ble_eq_true rfl) (Nat.le_of_ble_eq_true rfl) (ok_X11_in (Nat.le_refl _) hr) (fun v I' L' hq => ?_)
  obtain ⟨rfl, rfl, rfl⟩ := hq
  simp only [Option.toList_some, Option.toList_none, List.drop_succ_cons, List.drop_zero, List.drop_nil, List.cons_append, List.nil_append]
  obtain ⟨hb, h⟩ := ck_some h
  refine r_iret (isb_nar hb) dX11_isDigit_18 ?_
  obtain rfl := Option.some.inj h
  exact ⟨rfl, rfl, rfl⟩
def f_X11_digit_67 (I : mI) (L : mL) : rI := bndI (f_X11_next_67 I L) (fun r1 Ir1 Lr1 => lt (r1 - 48) (fun v3 => lt (uI Ir1 67 8 ((Ir1 67 8) + 1)) (fun M4 => some (v3, M4, Lr1))))
theorem ok_X11_digit_67 {d : Nat} (hd : 1 ≤ d) {I : mI} {L : mL} {o : Int32 × mI × mL} (h : f_X11_digit_67 I L = some o) : RR mX11_digit d 0 [some (.ref 67), none] [] I L (retQ (some (.int o.1)) o.2.1 o.2.2) := by
  unfold f_X11_digit_67 at h
  refine r_aload_n (i := 0) dX11_digit_0 rfl rfl ?_
  obtain ⟨⟨r1, Ir1, Lr1⟩, hr, h⟩ := bind_some h
  refine r_V (d' := 0) k_X11_120 dX11_digit_1 (by omega) rfl rfl rfl (Nat.le_of_ble_eq_true rfl) (Nat.le_of_ble_eq_true rfl) (ok_X11_next_67 (Nat.le_refl _) hr) (fun v I' L' hq => ?_)
  obtain ⟨rfl, rfl, rfl⟩ := hq
  simp only [Option.toList_some, Option.toList_none, List.drop_succ_cons, List.drop_zero, List.drop_nil, List.cons_append, List.nil_append]
  dsimp only at h
  refine r_bipush (v := 48) dX11_digit_4 (by decide) ?_
  refine r_isub dX11_digit_6 ?_
  refine r_istore_n (i := 1) dX11_digit_7 rfl (by decide) rfl ?_
  simp only [List.set_cons_zero, List.set_cons_succ]
  replace h := lt_some h
  refine r_aload_n (i := 0) dX11_digit_8 rfl rfl ?_
  refine r_dup dX11_digit_9 rfl ?_
  refine r_getI f_X11_117 dX11_digit_10 rfl rfl ?_
  refine r_iconst (v := 1) dX11_digit_13 (by decide) ?_
  refine r_iadd dX11_digit_14 ?_
  refine r_putI f_X11_117 rfl rfl dX11_digit_15 rfl rfl ?_
  replace h := lt_some h
  refine r_iload_n (i := 1) dX11_digit_18 rfl rfl ?_
  refine r_iret (by first | rfl | decide) dX11_digit_19 ?_
  obtain rfl := Option.some.inj h
  exact ⟨rfl, rfl, rfl⟩
def f_X11_kindOf (I : mI) (L : mL) (a0 : Int32) : Option Int32 := if a0 = 108 then (some 0) else (if a0 = 104 then (some 1) else (if a0 = 115 then (some 2) else (if a0 = 97 then (some 3) else (some (-1)))))
theorem ok_X11_kindOf {d : Nat} (hd : 0 ≤ d) {I : mI} {L : mL} {a0 : Int32} {o : Int32} (h : f_X11_kindOf I L a0 = some o) : RR mX11_kindOf d 0 [some (.int a0)] [] I L (retQ (some (.int o)) I L) := by
  unfold f_X11_kindOf at h
  refine r_iload_n (i := 0) dX11_kindOf_0 rfl rfl ?_
  refine r_bipush (v := 108) dX11_kindOf_1 (by decide) ?_
  refine r_icmp_ne (tgt := 10) dX11_kindOf_3 (by decide) (fun c => ?_) (fun c => ?_)
  · rw [if_neg c] at h
    refine r_iload_n (i := 0) dX11_kindOf_10 rfl rfl ?_
    refine r_bipush (v := 104) dX11_kindOf_11 (by decide) ?_
    refine r_icmp_ne (tgt := 20) dX11_kindOf_13 (by decide) (fun c => ?_) (fun c => ?_)
    · rw [if_neg c] at h
      refine r_iload_n (i := 0) dX11_kindOf_20 rfl rfl ?_
      refine r_bipush (v := 115) dX11_kindOf_21 (by decide) ?_
      refine r_icmp_ne (tgt := 30) dX11_kindOf_23 (by decide) (fun c => ?_) (fun c => ?_)
      · rw [if_neg c] at h
        refine r_iload_n (i := 0) dX11_kindOf_30 rfl rfl ?_
        refine r_bipush (v := 97) dX11_kindOf_31 (by decide) ?_
        refine r_icmp_ne (tgt := 40) dX11_kindOf_33 (by decide) (fun c => ?_) (fun c => ?_)
        · rw [if_neg c] at h
          refine r_iconst (v := (-1)) dX11_kindOf_40 (by decide) ?_
          refine r_iret (by first | rfl | decide) dX11_kindOf_41 ?_
          obtain rfl := Option.some.inj h
          exact ⟨rfl, rfl, rfl⟩
        · rw [if_pos c] at h
          refine r_iconst (v := 3) dX11_kindOf_36 (by decide) ?_
          refine r_goto (tgt := 41) dX11_kindOf_37 (by decide) ?_
          refine r_iret (by first | rfl | decide) dX11_kindOf_41 ?_
          obtain rfl := Option.some.inj h
          exact ⟨rfl, rfl, rfl⟩
      · rw [if_pos c] at h
        refine r_iconst (v := 2) dX11_kindOf_26 (by decide) ?_
        refine r_goto (tgt := 41) dX11_kindOf_27 (by decide) ?_
        refine r_iret (by first | rfl | decide) dX11_kindOf_41 ?_
        obtain rfl := Option.some.inj h
        exact ⟨rfl, rfl, rfl⟩
    · rw [if_pos c] at h
      refine r_iconst (v := 1) dX11_kindOf_16 (by decide) ?_
      refine r_goto (tgt := 41) dX11_kindOf_17 (by decide) ?_
      refine r_iret (by first | rfl | decide) dX11_kindOf_41 ?_
      obtain rfl := Option.some.inj h
      exact ⟨rfl, rfl, rfl⟩
  · rw [if_pos c] at h
    refine r_iconst (v := 0) dX11_kindOf_6 (by decide) ?_
    refine r_goto (tgt := 41) dX11_kindOf_7 (by decide) ?_
    refine r_iret (by first | rfl | decide) dX11_kindOf_41 ?_
    obtain rfl := Option.some.inj h
    exact ⟨rfl, rfl, rfl⟩
def f_X11_readsParish_67_l44 : Nat → Int32 → Int32 → mI → mL → rI
  | 0, _, _, _, _ => none
  | n + 1, x2, x3, I, L => if 4 ≤ x3 then (some (1, I, L)) else (bndI (f_X11_isDigit_67 I L 1 9) (fun r9 Ir9 Lr9 => if r9 = 0 then (some (0, Ir9, Lr9)) else (bndI (f_X11_digit_67 Ir9 Lr9) (fun r11 Ir11 Lr11 => ck (inb ((14 + (4 * x2)) + x3) 135) (lt (uI Ir11 68 ((14 + (4 * x2)) + x3).toNatClampNeg r11) (fun M13 => lt (x3 + Int32.ofInt 1) (fun v14 => f_X11_readsParish_67_l44 n x2 v14 M13 Lr11)))))))
theorem ok_X11_readsParish_67_l44 {d : Nat} (hd : 2 ≤ d) : ∀ (n : Nat) (x2 : Int32) (x3 : Int32) (I : mI) (L : mL) (o : Int32 × mI × mL), f_X11_readsParish_67_l44 n x2 x3 I L = some o → RR mX11_readsParish d 44 [some (.ref 67), none, some (.int x2), some (.int x3)] [] I L (retQ (some (.int o.1)) o.2.1 o.2.2) := by
  intro n
  induction n with
  | zero => intro x2 x3 I L o h; rw [f_X11_readsParish_67_l44] at h; cases h
  | succ n ih =>
    intro x2 x3 I L o h
    rw [f_X11_readsParish_67_l44] at h
    refine r_iload_n (i := 3) dX11_readsParish_44 rfl rfl ?_
    refine r_iconst (v := 4) dX11_readsParish_45 (by decide) ?_
    refine r_icmp_ge (tgt := 84) dX11_readsParish_46 (by decide) (fun c => ?_) (fun c => ?_)
    · rw [if_pos c] at h
      refine r_iconst (v := 1) dX11_readsParish_84 (by decide) ?_
      refine r_iret (by first | rfl | decide) dX11_readsParish_85 ?_
      obtain rfl := Option.some.inj h
      exact ⟨rfl, rfl, rfl⟩
    · rw [if_neg c] at h
      refine r_aload_n (i := 0) dX11_readsParish_49 rfl rfl ?_
      refine r_iconst (v := 1) dX11_readsParish_50 (by decide) ?_
      refine r_bipush (v := 9) dX11_readsParish_51 (by decide) ?_
      obtain ⟨⟨r9, Ir9, Lr9⟩, hr, h⟩ := bind_some h
      refine r_V (d' := 1) k_X11_126 dX11_readsParish_53 (by omega) rfl rfl rfl (Nat.le_of_ble_eq_true rfl) (Nat.le_of_ble_eq_true rfl) (ok_X11_isDigit_67 (Nat.le_refl _) hr) (fun v I' L' hq => ?_)
      obtain ⟨rfl, rfl, rfl⟩ := hq
      simp only [Option.toList_some, Option.toList_none, List.drop_succ_cons, List.drop_zero, List.drop_nil, List.cons_append, List.nil_append]
      dsimp only at h
      refine r_if_ne (tgt := 61) dX11_readsParish_56 (by decide) (fun c => ?_) (fun c => ?_)
      · rw [if_neg c] at h
        refine r_aload_n (i := 0) dX11_readsParish_61 rfl rfl ?_
        refine r_getR f_X11_7 dX11_readsParish_62 rfl rfl ?_
        refine r_bipush (v := 14) dX11_readsParish_65 (by decide) ?_
        refine r_iconst (v := 4) dX11_readsParish_67 (by decide) ?_
        refine r_iload_n (i := 2) dX11_readsParish_68 rfl rfl ?_
        refine r_imul dX11_readsParish_69 ?_
        refine r_iadd dX11_readsParish_70 ?_
        refine r_iload_n (i := 3) dX11_readsParish_71 rfl rfl ?_
        refine r_iadd dX11_readsParish_72 ?_
        refine r_aload_n (i := 0) dX11_readsParish_73 rfl rfl ?_
        obtain ⟨⟨r11, Ir11, Lr11⟩, hr, h⟩ := bind_some h
        refine r_V (d' := 1) k_X11_130 dX11_readsParish_74 (by omega) rfl rfl rfl (Nat.le_of_ble_eq_true rfl) (Nat.le_of_ble_eq_true rfl) (ok_X11_digit_67 (Nat.le_refl _) hr) (fun v I' L' hq => ?_)
        obtain ⟨rfl, rfl, rfl⟩ := hq
        simp only [Option.toList_some, Option.toList_none, List.drop_succ_cons, List.drop_zero, List.drop_nil, List.cons_append, List.nil_append]
        dsimp only at h
        obtain ⟨hb, h⟩ := ck_some h
        refine r_iast rfl (inb_vp hb) dX11_readsParish_77 ?_
        replace h := lt_some h
        refine r_iinc (v := _) dX11_readsParish_78 rfl rfl (by decide) rfl ?_
        simp only [List.set_cons_zero, List.set_cons_succ]
        replace h := lt_some h
        refine r_goto (tgt := 44) dX11_readsParish_81 (by decide) ?_
        exact RR.wk (ih _ _ _ _ _ h) (And.intro rfl (And.intro rfl (And.intro rfl (trivial))))
      · rw [if_pos c] at h
        refine r_iconst (v := 0) dX11_readsParish_59 (by decide) ?_
        refine r_iret (by first | rfl | decide) dX11_readsParish_60 ?_
        obtain rfl := Option.some.inj h
        exact ⟨rfl, rfl, rfl⟩
def f_X11_readsParish_67 (I : mI) (L : mL) : rI := bndI (f_X11_next_67 I L) (fun r1 Ir1 Lr1 => (f_X11_kindOf Ir1 Lr1 r1).bind (fun r3 => if 0 ≤ r3 then (lt (uI Ir1 67 8 ((Ir1 67 8) + 1)) (fun M4 => bndI (f_X11_joins_67 M4 Lr1 r3) (fun r5 Ir5 Lr5 => bndI (f_X11_isDigit_67 Ir5 Lr5 1 9) (fun r7 Ir7 Lr7 => if r7 = 0 then (some (1, Ir7, Lr7)) else (f_X11_readsParish_67_l44 fuel r5 0 Ir7 Lr7))))) else (some (0, Ir1, Lr1))))
theorem ok_X11_readsParish_67 {d : Nat} (hd : 2 ≤ d) {I : mI} {L : mL} {o : Int32 × mI × mL} (h : f_X11_readsParish_67 I L = some o) : RR mX11_readsParish d 0 [some (.ref 67), none, none, none] [] I L (retQ (some (.int o.1)) o.2.1 o.2.2) := by
  unfold f_X11_readsParish_67 at h
  refine r_aload_n (i := 0) dX11_readsParish_0 rfl rfl ?_
  obtain ⟨⟨r1, Ir1, Lr1⟩, hr, h⟩ := bind_some h
  refine r_V (d' := 0) k_X11_120 dX11_readsParish_1 (by omega) rfl rfl rfl (Nat.le_of_ble_eq_true rfl) (Nat.le_of_ble_eq_true rfl) (ok_X11_next_67 (Nat.le_refl _) hr) (fun v I' L' hq => ?_)
  obtain ⟨rfl, rfl, rfl⟩ := hq
  simp only [Option.toList_some, Option.toList_none, List.drop_succ_cons, List.drop_zero, List.drop_nil, List.cons_append, List.nil_append]
  dsimp only at h
  obtain ⟨r3, hr, h⟩ := bind_some h
  refine r_S (d' := 0) k_X11_123 dX11_readsParish_4 (by omega) rfl (Nat.le_of_ble_eq_true rfl) (Nat.le_of_ble_eq_true rfl) (ok_X11_kindOf (Nat.le_refl _) hr) (fun v I' L' hq => ?_)
  obtain ⟨rfl, rfl, rfl⟩ := hq
  simp only [Option.toList_some, Option.toList_none, List.drop_succ_cons, List.drop_zero, List.drop_nil, List.cons_append, List.nil_append]
  refine r_istore_n (i := 1) dX11_readsParish_7 rfl (by decide) rfl ?_
  simp only [List.set_cons_zero, List.set_cons_succ]
  refine r_iload_n (i := 1) dX11_readsParish_8 rfl rfl ?_
  refine r_if_ge (tgt := 14) dX11_readsParish_9 (by decide) (fun c => ?_) (fun c => ?_)
  · rw [if_pos c] at h
    refine r_aload_n (i := 0) dX11_readsParish_14 rfl rfl ?_
    refine r_dup dX11_readsParish_15 rfl ?_
    refine r_getI f_X11_117 dX11_readsParish_16 rfl rfl ?_
    refine r_iconst (v := 1) dX11_readsParish_19 (by decide) ?_
    refine r_iadd dX11_readsParish_20 ?_
    refine r_putI f_X11_117 rfl rfl dX11_readsParish_21 rfl rfl ?_
    replace h := lt_some h
    refine r_aload_n (i := 0) dX11_readsParish_24 rfl rfl ?_
    refine r_iload_n (i := 1) dX11_readsParish_25 rfl rfl ?_
    obtain ⟨⟨r5, Ir5, Lr5⟩, hr, h⟩ := bind_some h
    refine r_V (d' := 0) k_X11_64 dX11_readsParish_26 (by omega) rfl rfl rfl (Nat.le_of_ble_eq_true rfl) (Nat.le_of_ble_eq_true rfl) (ok_X11_joins_67 (Nat.le_refl _) hr) (fun v I' L' hq => ?_)
    obtain ⟨rfl, rfl, rfl⟩ := hq
    simp only [Option.toList_some, Option.toList_none, List.drop_succ_cons, List.drop_zero, List.drop_nil, List.cons_append, List.nil_append]
    dsimp only at h
    refine r_istore_n (i := 2) dX11_readsParish_29 rfl (by decide) rfl ?_
    simp only [List.set_cons_zero, List.set_cons_succ]
    refine r_aload_n (i := 0) dX11_readsParish_30 rfl rfl ?_
    refine r_iconst (v := 1) dX11_readsParish_31 (by decide) ?_
    refine r_bipush (v := 9) dX11_readsParish_32 (by decide) ?_
    obtain ⟨⟨r7, Ir7, Lr7⟩, hr, h⟩ := bind_some h
    refine r_V (d' := 1) k_X11_126 dX11_readsParish_34 (by omega) rfl rfl rfl (Nat.le_of_ble_eq_true rfl) (Nat.le_of_ble_eq_true rfl) (ok_X11_isDigit_67 (Nat.le_refl _) hr) (fun v I' L' hq => ?_)
    obtain ⟨rfl, rfl, rfl⟩ := hq
    simp only [Option.toList_some, Option.toList_none, List.drop_succ_cons, List.drop_zero, List.drop_nil, List.cons_append, List.nil_append]
    dsimp only at h
    refine r_if_ne (tgt := 42) dX11_readsParish_37 (by decide) (fun c => ?_) (fun c => ?_)
    · rw [if_neg c] at h
      refine r_iconst (v := 0) dX11_readsParish_42 (by decide) ?_
      refine r_istore_n (i := 3) dX11_readsParish_43 rfl (by decide) rfl ?_
      simp only [List.set_cons_zero, List.set_cons_succ]
      exact RR.wk (ok_X11_readsParish_67_l44 hd _ _ _ _ _ _ h) (And.intro rfl (And.intro rfl (And.intro rfl (trivial))))
    · rw [if_pos c] at h
      refine r_iconst (v := 1) dX11_readsParish_40 (by decide) ?_
      refine r_iret (by first | rfl | decide) dX11_readsParish_41 ?_
      obtain rfl := Option.some.inj h
      exact ⟨rfl, rfl, rfl⟩
  · rw [if_neg c] at h
    refine r_iconst (v := 0) dX11_readsParish_12 (by decide) ?_
    refine r_iret (by first | rfl | decide) dX11_readsParish_13 ?_
    obtain rfl := Option.some.inj h
    exact ⟨rfl, rfl, rfl⟩
def f_X11_readsRoad_67_b107 (I : mI) (L : mL) (x2 : Int32) (x3 : Int32) (x4 : Int32) : rI := bndI (f_X11_road_67 I L x2 x3 x4) (fun r17 Ir17 Lr17 => if r17 < 0 then (some (0, Ir17, Lr17)) else (some (1, Ir17, Lr17)))
theorem ok_X11_readsRoad_67_b107 {d : Nat} (hd : 3 ≤ d){I : mI} {L : mL} (x2 : Int32) (x3 : Int32) (x4 : Int32) {o : Int32 × mI × mL} (h : f_X11_readsRoad_67_b107 I L x2 x3 x4 = some o) : RR mX11_readsRoad d 107 [some (.ref 67), none, some (.int x2), some (.int x3), some (.int x4)] [] I L (retQ (some (.int o.1)) o.2.1 o.2.2) := by
  unfold f_X11_readsRoad_67_b107 at h
  refine r_aload_n (i := 0) dX11_readsRoad_107 rfl rfl ?_
  refine r_iload_n (i := 2) dX11_readsRoad_108 rfl rfl ?_
  refine r_iload_n (i := 3) dX11_readsRoad_109 rfl rfl ?_
  refine r_iload dX11_readsRoad_110 rfl ?_
  obtain ⟨⟨r17, Ir17, Lr17⟩, hr, h⟩ := bind_some h
  refine r_V (d' := 2) k_X11_133 dX11_readsRoad_112 (by omega) rfl rfl rfl (Nat.le_of_ble_eq_true rfl) (Nat.le_of_ble_eq_true rfl) (ok_X11_road_67 (Nat.le_refl _) hr) (fun v I' L' hq => ?_)
  obtain ⟨rfl, rfl, rfl⟩ := hq
  simp only [Option.toList_some, Option.toList_none, List.drop_succ_cons, List.drop_zero, List.drop_nil, List.cons_append, List.nil_append]
  dsimp only at h
  refine r_if_lt (tgt := 122) dX11_readsRoad_115 (by decide) (fun c => ?_) (fun c => ?_)
  · rw [if_pos c] at h
    refine r_iconst (v := 0) dX11_readsRoad_122 (by decide) ?_
    refine r_iret (by first | rfl | decide) dX11_readsRoad_123 ?_
    obtain rfl := Option.some.inj h
    exact ⟨rfl, rfl, rfl⟩
  · rw [if_neg c] at h
    refine r_iconst (v := 1) dX11_readsRoad_118 (by decide) ?_
    refine r_goto (tgt := 123) dX11_readsRoad_119 (by decide) ?_
    refine r_iret (by first | rfl | decide) dX11_readsRoad_123 ?_
    obtain rfl := Option.some.inj h
    exact ⟨rfl, rfl, rfl⟩
def f_X11_readsRoad_67 (I : mI) (L : mL) : rI := lt ((I 68 (0 : Int32).toNatClampNeg) - 1) (fun v1 => bndI (f_X11_isDigit_67 I L 0 v1) (fun r2 Ir2 Lr2 => if r2 = 0 then (some (0, Ir2, Lr2)) else (bndI (f_X11_digit_67 Ir2 Lr2) (fun r4 Ir4 Lr4 => bndI (f_X11_isDigit_67 Ir4 Lr4 0 v1) (fun r6 Ir6 Lr6 => if r6 = 0 then (some (0, Ir6, Lr6)) else (bndI (f_X11_next_67 Ir6 Lr6) (fun r8 Ir8 Lr8 => if (r8 - 48) = r4 then (some (0, Ir8, Lr8)) else (bndI (f_X11_next_67 Ir8 Lr8) (fun r10 Ir10 Lr10 => (f_X11_roadOf_67 Ir10 Lr10 r4 (r10 - 48)).bind (fun r12 => if r12 < 0 then (bndI (f_X11_digit_67 Ir10 Lr10) (fun r13 Ir13 Lr13 => bndI (f_X11_next_67 Ir13 Lr13) (fun r15 Ir15 Lr15 => if r15 = 116 then (lt (uI Ir15 67 8 ((Ir15 67 8) + 1)) (fun M19 => bndI (f_X11_isDigit_67 M19 Lr15 0 9) (fun r20 Ir20 Lr20 => if r20 = 0 then (some (0, Ir20, Lr20)) else (bndI (f_X11_digit_67 Ir20 Lr20) (fun r22 Ir22 Lr22 => f_X11_readsRoad_67_b107 Ir22 Lr22 r4 r13 r22))))) else (f_X11_readsRoad_67_b107 Ir15 Lr15 r4 r13 0)))) else (some (0, Ir10, Lr10))))))))))))
theorem ok_X11_readsRoad_67 {d : Nat} (hd : 3 ≤ d) {I : mI} {L : mL} {o : Int32 × mI × mL} (h : f_X11_readsRoad_67 I L = some o) : RR mX11_readsRoad d 0 [some (.ref 67), none, none, none, none] [] I L (retQ (some (.int o.1)) o.2.1 o.2.2) := by
  unfold f_X11_readsRoad_67 at h
  refine r_aload_n (i := 0) dX11_readsRoad_0 rfl rfl ?_
  refine r_getR f_X11_7 dX11_readsRoad_1 rfl rfl ?_
  refine r_iconst (v := 0) dX11_readsRoad_4 (by decide) ?_
  refine r_iald rfl (vp_lit (by decide)) dX11_readsRoad_5 ?_
  refine r_iconst (v := 1) dX11_readsRoad_6 (by decide) ?_
  refine r_isub dX11_readsRoad_7 ?_
  refine r_istore_n (i := 1) dX11_readsRoad_8 rfl (by decide) rfl ?_
  simp only [List.set_cons_zero, List.set_cons_succ]
  replace h := lt_some h
  refine r_aload_n (i := 0) dX11_readsRoad_9 rfl rfl ?_
  refine r_iconst (v := 0) dX11_readsRoad_10 (by decide) ?_
  refine r_iload_n (i := 1) dX11_readsRoad_11 rfl rfl ?_
  obtain ⟨⟨r2, Ir2, Lr2⟩, hr, h⟩ := bind_some h
  refine r_V (d' := 1) k_X11_126 dX11_readsRoad_12 (by omega) rfl rfl rfl (Nat.le_of_ble_eq_true rfl) (Nat.le_of_ble_eq_true rfl) (ok_X11_isDigit_67 (Nat.le_refl _) hr) (fun v I' L' hq => ?_)
  obtain ⟨rfl, rfl, rfl⟩ := hq
  simp only [Option.toList_some, Option.toList_none, List.drop_succ_cons, List.drop_zero, List.drop_nil, List.cons_append, List.nil_append]
  dsimp only at h
  refine r_if_ne (tgt := 20) dX11_readsRoad_15 (by decide) (fun c => ?_) (fun c => ?_)
  · rw [if_neg c] at h
    refine r_aload_n (i := 0) dX11_readsRoad_20 rfl rfl ?_
    obtain ⟨⟨r4, Ir4, Lr4⟩, hr, h⟩ := bind_some h
    refine r_V (d' := 1) k_X11_130 dX11_readsRoad_21 (by omega) rfl rfl rfl (Nat.le_of_ble_eq_true rfl) (Nat.le_of_ble_eq_true rfl) (ok_X11_digit_67 (Nat.le_refl _) hr) (fun v I' L' hq => ?_)
    obtain ⟨rfl, rfl, rfl⟩ := hq
    simp only [Option.toList_some, Option.toList_none, List.drop_succ_cons, List.drop_zero, List.drop_nil, List.cons_append, List.nil_append]
    dsimp only at h
    refine r_istore_n (i := 2) dX11_readsRoad_24 rfl (by decide) rfl ?_
    simp only [List.set_cons_zero, List.set_cons_succ]
    refine r_aload_n (i := 0) dX11_readsRoad_25 rfl rfl ?_
    refine r_iconst (v := 0) dX11_readsRoad_26 (by decide) ?_
    refine r_iload_n (i := 1) dX11_readsRoad_27 rfl rfl ?_
    obtain ⟨⟨r6, Ir6, Lr6⟩, hr, h⟩ := bind_some h
    refine r_V (d' := 1) k_X11_126 dX11_readsRoad_28 (by omega) rfl rfl rfl (Nat.le_of_ble_eq_true rfl) (Nat.le_of_ble_eq_true rfl) (ok_X11_isDigit_67 (Nat.le_refl _) hr) (fun v I' L' hq => ?_)
    obtain ⟨rfl, rfl, rfl⟩ := hq
    simp only [Option.toList_some, Option.toList_none, List.drop_succ_cons, List.drop_zero, List.drop_nil, List.cons_append, List.nil_append]
    dsimp only at h
    refine r_if_eq (tgt := 60) dX11_readsRoad_31 (by decide) (fun c => ?_) (fun c => ?_)
    · rw [if_pos c] at h
      refine r_iconst (v := 0) dX11_readsRoad_60 (by decide) ?_
      refine r_iret (by first | rfl | decide) dX11_readsRoad_61 ?_
      obtain rfl := Option.some.inj h
      exact ⟨rfl, rfl, rfl⟩
    · rw [if_neg c] at h
      refine r_aload_n (i := 0) dX11_readsRoad_34 rfl rfl ?_
      obtain ⟨⟨r8, Ir8, Lr8⟩, hr, h⟩ := bind_some h
      refine r_V (d' := 0) k_X11_120 dX11_readsRoad_35 (by omega) rfl rfl rfl (Nat.le_of_ble_eq_true rfl) (Nat.le_of_ble_eq_true rfl) (ok_X11_next_67 (Nat.le_refl _) hr) (fun v I' L' hq => ?_)
      obtain ⟨rfl, rfl, rfl⟩ := hq
      simp only [Option.toList_some, Option.toList_none, List.drop_succ_cons, List.drop_zero, List.drop_nil, List.cons_append, List.nil_append]
      dsimp only at h
      refine r_bipush (v := 48) dX11_readsRoad_38 (by decide) ?_
      refine r_isub dX11_readsRoad_40 ?_
      refine r_iload_n (i := 2) dX11_readsRoad_41 rfl rfl ?_
      refine r_icmp_eq (tgt := 60) dX11_readsRoad_42 (by decide) (fun c => ?_) (fun c => ?_)
      · rw [if_pos c] at h
        refine r_iconst (v := 0) dX11_readsRoad_60 (by decide) ?_
        refine r_iret (by first | rfl | decide) dX11_readsRoad_61 ?_
        obtain rfl := Option.some.inj h
        exact ⟨rfl, rfl, rfl⟩
      · rw [if_neg c] at h
        refine r_aload_n (i := 0) dX11_readsRoad_45 rfl rfl ?_
        refine r_iload_n (i := 2) dX11_readsRoad_46 rfl rfl ?_
        refine r_aload_n (i := 0) dX11_readsRoad_47 rfl rfl ?_
        obtain ⟨⟨r10, Ir10, Lr10⟩, hr, h⟩ := bind_some h
        refine r_V (d' := 0) k_X11_120 dX11_readsRoad_48 (by omega) rfl rfl rfl (Nat.le_of_ble_eq_true rfl) (Nat.le_of_ble_eq_true rfl) (ok_X11_next_67 (Nat.le_refl _) hr) (fun v I' L' hq => ?_)
        obtain ⟨rfl, rfl, rfl⟩ := hq
        simp only [Option.toList_some, Option.toList_none, List.drop_succ_cons, List.drop_zero, List.drop_nil, List.cons_append, List.nil_append]
        dsimp only at h
        refine r_bipush (v := 48) dX11_readsRoad_51 (by decide) ?_
        refine r_isub dX11_readsRoad_53 ?_
        obtain ⟨r12, hr, h⟩ := bind_some h
        refine r_V (d' := 0) k_X11_74 dX11_readsRoad_54 (by omega) rfl rfl rfl (Nat.le_of_ble_eq_true rfl) (Nat.le_of_ble_eq_true rfl) (ok_X11_roadOf_67 (Nat.le_refl _) hr) (fun v I' L' hq => ?_)
        obtain ⟨rfl, rfl, rfl⟩ := hq
        simp only [Option.toList_some, Option.toList_none, List.drop_succ_cons, List.drop_zero, List.drop_nil, List.cons_append, List.nil_append]
        refine r_if_lt (tgt := 62) dX11_readsRoad_57 (by decide) (fun c => ?_) (fun c => ?_)
        · rw [if_pos c] at h
          refine r_aload_n (i := 0) dX11_readsRoad_62 rfl rfl ?_
          obtain ⟨⟨r13, Ir13, Lr13⟩, hr, h⟩ := bind_some h
          refine r_V (d' := 1) k_X11_130 dX11_readsRoad_63 (by omega) rfl rfl rfl (Nat.le_of_ble_eq_true rfl) (Nat.le_of_ble_eq_true rfl) (ok_X11_digit_67 (Nat.le_refl _) hr) (fun v I' L' hq => ?_)
          obtain ⟨rfl, rfl, rfl⟩ := hq
          simp only [Option.toList_some, Option.toList_none, List.drop_succ_cons, List.drop_zero, List.drop_nil, List.cons_append, List.nil_append]
          dsimp only at h
          refine r_istore_n (i := 3) dX11_readsRoad_66 rfl (by decide) rfl ?_
          simp only [List.set_cons_zero, List.set_cons_succ]
          refine r_iconst (v := 0) dX11_readsRoad_67 (by decide) ?_
          refine r_istore dX11_readsRoad_68 (by decide) rfl ?_
          simp only [List.set_cons_zero, List.set_cons_succ]
          refine r_aload_n (i := 0) dX11_readsRoad_70 rfl rfl ?_
          obtain ⟨⟨r15, Ir15, Lr15⟩, hr, h⟩ := bind_some h
          refine r_V (d' := 0) k_X11_120 dX11_readsRoad_71 (by omega) rfl rfl rfl (Nat.le_of_ble_eq_true rfl) (Nat.le_of_ble_eq_true rfl) (ok_X11_next_67 (Nat.le_refl _) hr) (fun v I' L' hq => ?_)
          obtain ⟨rfl, rfl, rfl⟩ := hq
          simp only [Option.toList_some, Option.toList_none, List.drop_succ_cons, List.drop_zero, List.drop_nil, List.cons_append, List.nil_append]
          dsimp only at h
          refine r_bipush (v := 116) dX11_readsRoad_74 (by decide) ?_
          refine r_icmp_ne (tgt := 107) dX11_readsRoad_76 (by decide) (fun c => ?_) (fun c => ?_)
          · rw [if_neg c] at h
            exact RR.wk (ok_X11_readsRoad_67_b107 hd _ _ _ h) (And.intro rfl (And.intro rfl (And.intro rfl (And.intro rfl (trivial)))))
          · rw [if_pos c] at h
            refine r_aload_n (i := 0) dX11_readsRoad_79 rfl rfl ?_
            refine r_dup dX11_readsRoad_80 rfl ?_
            refine r_getI f_X11_117 dX11_readsRoad_81 rfl rfl ?_
            refine r_iconst (v := 1) dX11_readsRoad_84 (by decide) ?_
            refine r_iadd dX11_readsRoad_85 ?_
            refine r_putI f_X11_117 rfl rfl dX11_readsRoad_86 rfl rfl ?_
            replace h := lt_some h
            refine r_aload_n (i := 0) dX11_readsRoad_89 rfl rfl ?_
            refine r_iconst (v := 0) dX11_readsRoad_90 (by decide) ?_
            refine r_bipush (v := 9) dX11_readsRoad_91 (by decide) ?_
            obtain ⟨⟨r20, Ir20, Lr20⟩, hr, h⟩ := bind_some h
            refine r_V (d' := 1) k_X11_126 dX11_readsRoad_93 (by omega) rfl rfl rfl (Nat.le_of_ble_eq_true rfl) (Nat.le_of_ble_eq_true rfl) (ok_X11_isDigit_67 (Nat.le_refl _) hr) (fun v I' L' hq => ?_)
            obtain ⟨rfl, rfl, rfl⟩ := hq
            simp only [Option.toList_some, Option.toList_none, List.drop_succ_cons, List.drop_zero, List.drop_nil, List.cons_append, List.nil_append]
            dsimp only at h
            refine r_if_ne (tgt := 101) dX11_readsRoad_96 (by decide) (fun c => ?_) (fun c => ?_)
            · rw [if_neg c] at h
              refine r_aload_n (i := 0) dX11_readsRoad_101 rfl rfl ?_
              obtain ⟨⟨r22, Ir22, Lr22⟩, hr, h⟩ := bind_some h
              refine r_V (d' := 1) k_X11_130 dX11_readsRoad_102 (by omega) rfl rfl rfl (Nat.le_of_ble_eq_true rfl) (Nat.le_of_ble_eq_true rfl) (ok_X11_digit_67 (Nat.le_refl _) hr) (fun v I' L' hq => ?_)
              obtain ⟨rfl, rfl, rfl⟩ := hq
              simp only [Option.toList_some, Option.toList_none, List.drop_succ_cons, List.drop_zero, List.drop_nil, List.cons_append, List.nil_append]
              dsimp only at h
              refine r_istore dX11_readsRoad_105 (by decide) rfl ?_
              simp only [List.set_cons_zero, List.set_cons_succ]
              exact RR.wk (ok_X11_readsRoad_67_b107 hd _ _ _ h) (And.intro rfl (And.intro rfl (And.intro rfl (And.intro rfl (trivial)))))
            · rw [if_pos c] at h
              refine r_iconst (v := 0) dX11_readsRoad_99 (by decide) ?_
              refine r_iret (by first | rfl | decide) dX11_readsRoad_100 ?_
              obtain rfl := Option.some.inj h
              exact ⟨rfl, rfl, rfl⟩
        · rw [if_neg c] at h
          refine r_iconst (v := 0) dX11_readsRoad_60 (by decide) ?_
          refine r_iret (by first | rfl | decide) dX11_readsRoad_61 ?_
          obtain rfl := Option.some.inj h
          exact ⟨rfl, rfl, rfl⟩
  · rw [if_pos c] at h
    refine r_iconst (v := 0) dX11_readsRoad_18 (by decide) ?_
    refine r_iret (by first | rfl | decide) dX11_readsRoad_19 ?_
    obtain rfl := Option.some.inj h
    exact ⟨rfl, rfl, rfl⟩
def f_X11_reads_67_b133 (I : mI) (L : mL) (k95 : Int32 → mI → mL → rI) (s0 : Int32) : rI := if s0 = 0 then (lt (uI I 67 8 ((I 67 8) + 0)) (fun M10 => k95 s0 M10 L)) else (lt (uI I 67 8 ((I 67 8) + 1)) (fun M11 => k95 s0 M11 L))
theorem ok_X11_reads_67_b133 {d : Nat} (hd : 4 ≤ d){I : mI} {L : mL} {k95 : Int32 → mI → mL → rI} (hk95 : ∀ (x1 : Int32) (I : mI) (L : mL) (o : Int32 × mI × mL), k95 x1 I L = some o → RR mX11_reads d 95 [some (.ref 67), some (.int x1)] [] I L (retQ (some (.int o.1)) o.2.1 o.2.2)) (s0 : Int32) {o : Int32 × mI × mL} (h : f_X11_reads_67_b133 I L k95 s0 = some o) : RR mX11_reads d 133 [some (.ref 67), none] [.int s0] I L (retQ (some (.int o.1)) o.2.1 o.2.2) := by
  unfold f_X11_reads_67_b133 at h
  refine r_istore_n (i := 1) dX11_reads_133 rfl (by decide) rfl ?_
  simp only [List.set_cons_zero, List.set_cons_succ]
  refine r_aload_n (i := 0) dX11_reads_134 rfl rfl ?_
  refine r_dup dX11_reads_135 rfl ?_
  refine r_getI f_X11_117 dX11_reads_136 rfl rfl ?_
  refine r_iload_n (i := 1) dX11_reads_139 rfl rfl ?_
  refine r_if_eq (tgt := 147) dX11_reads_140 (by decide) (fun c => ?_) (fun c => ?_)
  · rw [if_pos c] at h
    refine r_iconst (v := 0) dX11_reads_147 (by decide) ?_
    refine r_iadd dX11_reads_148 ?_
    refine r_putI f_X11_117 rfl rfl dX11_reads_149 rfl rfl ?_
    replace h := lt_some h
    refine r_goto (tgt := 95) dX11_reads_152 (by decide) ?_
    exact RR.wk (hk95 _ _ _ _ h) (And.intro rfl (And.intro rfl (trivial)))
  · rw [if_neg c] at h
    refine r_iconst (v := 1) dX11_reads_143 (by decide) ?_
    refine r_goto (tgt := 148) dX11_reads_144 (by decide) ?_
    refine r_iadd dX11_reads_148 ?_
    refine r_putI f_X11_117 rfl rfl dX11_reads_149 rfl rfl ?_
    replace h := lt_some h
    refine r_goto (tgt := 95) dX11_reads_152 (by decide) ?_
    exact RR.wk (hk95 _ _ _ _ h) (And.intro rfl (And.intro rfl (trivial)))
def f_X11_reads_67_b132 (I : mI) (L : mL) (k95 : Int32 → mI → mL → rI) : rI := f_X11_reads_67_b133 I L k95 0
theorem ok_X11_reads_67_b132 {d : Nat} (hd : 4 ≤ d){I : mI} {L : mL} {k95 : Int32 → mI → mL → rI} (hk95 : ∀ (x1 : Int32) (I : mI) (L : mL) (o : Int32 × mI × mL), k95 x1 I L = some o → RR mX11_reads d 95 [some (.ref 67), some (.int x1)] [] I L (retQ (some (.int o.1)) o.2.1 o.2.2)) {o : Int32 × mI × mL} (h : f_X11_reads_67_b132 I L k95 = some o) : RR mX11_reads d 132 [some (.ref 67), none] [] I L (retQ (some (.int o.1)) o.2.1 o.2.2) := by
  unfold f_X11_reads_67_b132 at h
  refine r_iconst (v := 0) dX11_reads_132 (by decide) ?_
  exact RR.wk (ok_X11_reads_67_b133 hd hk95 _ h) (And.intro rfl (trivial))
def f_X11_reads_67_l95 : Nat → Int32 → mI → mL → rI
  | 0, _, _, _ => none
  | n + 1, x1, I, L => if x1 = 0 then (bndI (f_X11_next_67 I L) (fun r4 Ir4 Lr4 => if r4 = 0 then (some (1, Ir4, Lr4)) else (some (0, Ir4, Lr4)))) else (bndI (f_X11_readsRoad_67 I L) (fun r6 Ir6 Lr6 => if r6 = 0 then (some (0, Ir6, Lr6)) else (bndI (f_X11_next_67 Ir6 Lr6) (fun r8 Ir8 Lr8 => if r8 = 44 then (if 15 ≤ (Ir8 68 (1 : Int32).toNatClampNeg) then (f_X11_reads_67_b132 Ir8 Lr8 (f_X11_reads_67_l95 n)) else (f_X11_reads_67_b133 Ir8 Lr8 (f_X11_reads_67_l95 n) 1)) else (f_X11_reads_67_b132 Ir8 Lr8 (f_X11_reads_67_l95 n))))))
theorem ok_X11_reads_67_l95 {d : Nat} (hd : 4 ≤ d) : ∀ (n : Nat) (x1 : Int32) (I : mI) (L : mL) (o : Int32 × mI × mL), f_X11_reads_67_l95 n x1 I L = some o → RR mX11_reads d 95 [some (.ref 67), some (.int x1)] [] I L (retQ (some (.int o.1)) o.2.1 o.2.2) := by
  intro n
  induction n with
  | zero => intro x1 I L o h; rw [f_X11_reads_67_l95] at h; cases h
  | succ n ih =>
    intro x1 I L o h
    rw [f_X11_reads_67_l95] at h
    refine r_iload_n (i := 1) dX11_reads_95 rfl rfl ?_
    refine r_if_eq (tgt := 155) dX11_reads_96 (by decide) (fun c => ?_) (fun c => ?_)
    · rw [if_pos c] at h
      refine r_aload_n (i := 0) dX11_reads_155 rfl rfl ?_
      obtain ⟨⟨r4, Ir4, Lr4⟩, hr, h⟩ := bind_some h
      refine r_V (d' := 0) k_X11_120 dX11_reads_156 (by omega) rfl rfl rfl (Nat.le_of_ble_eq_true rfl) (Nat.le_of_ble_eq_true rfl) (ok_X11_next_67 (Nat.le_refl _) hr) (fun v I' L' hq => ?_)
      obtain ⟨rfl, rfl, rfl⟩ := hq
      simp only [Option.toList_some, Option.toList_none, List.drop_succ_cons, List.drop_zero, List.drop_nil, List.cons_append, List.nil_append]
      dsimp only at h
      refine r_if_ne (tgt := 166) dX11_reads_159 (by decide) (fun c => ?_) (fun c => ?_)
      · rw [if_neg c] at h
        refine r_iconst (v := 0) dX11_reads_166 (by decide) ?_
        refine r_iret (by first | rfl | decide) dX11_reads_167 ?_
        obtain rfl := Option.some.inj h
        exact ⟨rfl, rfl, rfl⟩
      · rw [if_pos c] at h
        refine r_iconst (v := 1) dX11_reads_162 (by decide) ?_
        refine r_goto (tgt := 167) dX11_reads_163 (by decide) ?_
        refine r_iret (by first | rfl | decide) dX11_reads_167 ?_
        obtain rfl := Option.some.inj h
        exact ⟨rfl, rfl, rfl⟩
    · rw [if_neg c] at h
      refine r_aload_n (i := 0) dX11_reads_99 rfl rfl ?_
      obtain ⟨⟨r6, Ir6, Lr6⟩, hr, h⟩ := bind_some h
      refine r_V (d' := 3) k_X11_140 dX11_reads_100 (by omega) rfl rfl rfl (Nat.le_of_ble_eq_true rfl) (Nat.le_of_ble_eq_true rfl) (ok_X11_readsRoad_67 (Nat.le_refl _) hr) (fun v I' L' hq => ?_)
      obtain ⟨rfl, rfl, rfl⟩ := hq
      simp only [Option.toList_some, Option.toList_none, List.drop_succ_cons, List.drop_zero, List.drop_nil, List.cons_append, List.nil_append]
      dsimp only at h
      refine r_if_ne (tgt := 108) dX11_reads_103 (by decide) (fun c => ?_) (fun c => ?_)
      · rw [if_neg c] at h
        refine r_aload_n (i := 0) dX11_reads_108 rfl rfl ?_
        obtain ⟨⟨r8, Ir8, Lr8⟩, hr, h⟩ := bind_some h
        refine r_V (d' := 0) k_X11_120 dX11_reads_109 (by omega) rfl rfl rfl (Nat.le_of_ble_eq_true rfl) (Nat.le_of_ble_eq_true rfl) (ok_X11_next_67 (Nat.le_refl _) hr) (fun v I' L' hq => ?_)
        obtain ⟨rfl, rfl, rfl⟩ := hq
        simp only [Option.toList_some, Option.toList_none, List.drop_succ_cons, List.drop_zero, List.drop_nil, List.cons_append, List.nil_append]
        dsimp only at h
        refine r_bipush (v := 44) dX11_reads_112 (by decide) ?_
        refine r_icmp_ne (tgt := 132) dX11_reads_114 (by decide) (fun c => ?_) (fun c => ?_)
        · rw [if_neg c] at h
          exact RR.wk (ok_X11_reads_67_b132 hd ih h) (And.intro rfl (trivial))
        · rw [if_pos c] at h
          refine r_aload_n (i := 0) dX11_reads_117 rfl rfl ?_
          refine r_getR f_X11_7 dX11_reads_118 rfl rfl ?_
          refine r_iconst (v := 1) dX11_reads_121 (by decide) ?_
          refine r_iald rfl (vp_lit (by decide)) dX11_reads_122 ?_
          refine r_bipush (v := 15) dX11_reads_123 (by decide) ?_
          refine r_icmp_ge (tgt := 132) dX11_reads_125 (by decide) (fun c => ?_) (fun c => ?_)
          · rw [if_pos c] at h
            exact RR.wk (ok_X11_reads_67_b132 hd ih h) (And.intro rfl (trivial))
          · rw [if_neg c] at h
            refine r_iconst (v := 1) dX11_reads_128 (by decide) ?_
            refine r_goto (tgt := 133) dX11_reads_129 (by decide) ?_
            exact RR.wk (ok_X11_reads_67_b133 hd ih _ h) (And.intro rfl (trivial))
      · rw [if_pos c] at h
        refine r_iconst (v := 0) dX11_reads_106 (by decide) ?_
        refine r_iret (by first | rfl | decide) dX11_reads_107 ?_
        obtain rfl := Option.some.inj h
        exact ⟨rfl, rfl, rfl⟩
def f_X11_reads_67_b76 (I : mI) (L : mL) (s0 : Int32) : rI := if s0 = 0 then (lt (uI I 67 8 ((I 67 8) + 0)) (fun M3 => f_X11_reads_67_l95 fuel s0 M3 L)) else (lt (uI I 67 8 ((I 67 8) + 1)) (fun M12 => f_X11_reads_67_l95 fuel s0 M12 L))
theorem ok_X11_reads_67_b76 {d : Nat} (hd : 4 ≤ d){I : mI} {L : mL} (s0 : Int32) {o : Int32 × mI × mL} (h : f_X11_reads_67_b76 I L s0 = some o) : RR mX11_reads d 76 [some (.ref 67), none] [.int s0] I L (retQ (some (.int o.1)) o.2.1 o.2.2) := by
  unfold f_X11_reads_67_b76 at h
  refine r_istore_n (i := 1) dX11_reads_76 rfl (by decide) rfl ?_
  simp only [List.set_cons_zero, List.set_cons_succ]
  refine r_aload_n (i := 0) dX11_reads_77 rfl rfl ?_
  refine r_dup dX11_reads_78 rfl ?_
  refine r_getI f_X11_117 dX11_reads_79 rfl rfl ?_
  refine r_iload_n (i := 1) dX11_reads_82 rfl rfl ?_
  refine r_if_eq (tgt := 90) dX11_reads_83 (by decide) (fun c => ?_) (fun c => ?_)
  · rw [if_pos c] at h
    refine r_iconst (v := 0) dX11_reads_90 (by decide) ?_
    refine r_iadd dX11_reads_91 ?_
    refine r_putI f_X11_117 rfl rfl dX11_reads_92 rfl rfl ?_
    replace h := lt_some h
    exact RR.wk (ok_X11_reads_67_l95 hd _ _ _ _ _ h) (And.intro rfl (And.intro rfl (trivial)))
  · rw [if_neg c] at h
    refine r_iconst (v := 1) dX11_reads_86 (by decide) ?_
    refine r_goto (tgt := 91) dX11_reads_87 (by decide) ?_
    refine r_iadd dX11_reads_91 ?_
    refine r_putI f_X11_117 rfl rfl dX11_reads_92 rfl rfl ?_
    replace h := lt_some h
    exact RR.wk (ok_X11_reads_67_l95 hd _ _ _ _ _ h) (And.intro rfl (And.intro rfl (trivial)))
def f_X11_reads_67_b40 (I : mI) (L : mL) (k2 : Int32 → mI → mL → rI) (s0 : Int32) : rI := if s0 = 0 then (lt (uI I 67 8 ((I 67 8) + 0)) (fun M17 => k2 s0 M17 L)) else (lt (uI I 67 8 ((I 67 8) + 1)) (fun M18 => k2 s0 M18 L))
theorem ok_X11_reads_67_b40 {d : Nat} (hd : 4 ≤ d){I : mI} {L : mL} {k2 : Int32 → mI → mL → rI} (hk2 : ∀ (x1 : Int32) (I : mI) (L : mL) (o : Int32 × mI × mL), k2 x1 I L = some o → RR mX11_reads d 2 [some (.ref 67), some (.int x1)] [] I L (retQ (some (.int o.1)) o.2.1 o.2.2)) (s0 : Int32) {o : Int32 × mI × mL} (h : f_X11_reads_67_b40 I L k2 s0 = some o) : RR mX11_reads d 40 [some (.ref 67), none] [.int s0] I L (retQ (some (.int o.1)) o.2.1 o.2.2) := by
  unfold f_X11_reads_67_b40 at h
  refine r_istore_n (i := 1) dX11_reads_40 rfl (by decide) rfl ?_
  simp only [List.set_cons_zero, List.set_cons_succ]
  refine r_aload_n (i := 0) dX11_reads_41 rfl rfl ?_
  refine r_dup dX11_reads_42 rfl ?_
  refine r_getI f_X11_117 dX11_reads_43 rfl rfl ?_
  refine r_iload_n (i := 1) dX11_reads_46 rfl rfl ?_
  refine r_if_eq (tgt := 54) dX11_reads_47 (by decide) (fun c => ?_) (fun c => ?_)
  · rw [if_pos c] at h
    refine r_iconst (v := 0) dX11_reads_54 (by decide) ?_
    refine r_iadd dX11_reads_55 ?_
    refine r_putI f_X11_117 rfl rfl dX11_reads_56 rfl rfl ?_
    replace h := lt_some h
    refine r_goto (tgt := 2) dX11_reads_59 (by decide) ?_
    exact RR.wk (hk2 _ _ _ _ h) (And.intro rfl (And.intro rfl (trivial)))
  · rw [if_neg c] at h
    refine r_iconst (v := 1) dX11_reads_50 (by decide) ?_
    refine r_goto (tgt := 55) dX11_reads_51 (by decide) ?_
    refine r_iadd dX11_reads_55 ?_
    refine r_putI f_X11_117 rfl rfl dX11_reads_56 rfl rfl ?_
    replace h := lt_some h
    refine r_goto (tgt := 2) dX11_reads_59 (by decide) ?_
    exact RR.wk (hk2 _ _ _ _ h) (And.intro rfl (And.intro rfl (trivial)))
def f_X11_reads_67_b39 (I : mI) (L : mL) (k2 : Int32 → mI → mL → rI) : rI := f_X11_reads_67_b40 I L k2 0
theorem ok_X11_reads_67_b39 {d : Nat} (hd : 4 ≤ d){I : mI} {L : mL} {k2 : Int32 → mI → mL → rI} (hk2 : ∀ (x1 : Int32) (I : mI) (L : mL) (o : Int32 × mI × mL), k2 x1 I L = some o → RR mX11_reads d 2 [some (.ref 67), some (.int x1)] [] I L (retQ (some (.int o.1)) o.2.1 o.2.2)) {o : Int32 × mI × mL} (h : f_X11_reads_67_b39 I L k2 = some o) : RR mX11_reads d 39 [some (.ref 67), none] [] I L (retQ (some (.int o.1)) o.2.1 o.2.2) := by
  unfold f_X11_reads_67_b39 at h
  refine r_iconst (v := 0) dX11_reads_39 (by decide) ?_
  exact RR.wk (ok_X11_reads_67_b40 hd hk2 _ h) (And.intro rfl (trivial))
def f_X11_reads_67_l2 : Nat → Int32 → mI → mL → rI
  | 0, _, _, _ => none
  | n + 1, x1, I, L => if x1 = 0 then (bndI (f_X11_next_67 I L) (fun r1 Ir1 Lr1 => if r1 = 59 then (f_X11_reads_67_b76 Ir1 Lr1 1) else (f_X11_reads_67_b76 Ir1 Lr1 0))) else (bndI (f_X11_readsParish_67 I L) (fun r13 Ir13 Lr13 => if r13 = 0 then (some (0, Ir13, Lr13)) else (bndI (f_X11_next_67 Ir13 Lr13) (fun r15 Ir15 Lr15 => if r15 = 44 then (if 8 ≤ (Ir15 68 (0 : Int32).toNatClampNeg) then (f_X11_reads_67_b39 Ir15 Lr15 (f_X11_reads_67_l2 n)) else (f_X11_reads_67_b40 Ir15 Lr15 (f_X11_reads_67_l2 n) 1)) else (f_X11_reads_67_b39 Ir15 Lr15 (f_X11_reads_67_l2 n))))))
theorem ok_X11_reads_67_l2 {d : Nat} (hd : 4 ≤ d) : ∀ (n : Nat) (x1 : Int32) (I : mI) (L : mL) (o : Int32 × mI × mL), f_X11_reads_67_l2 n x1 I L = some o → RR mX11_reads d 2 [some (.ref 67), some (.int x1)] [] I L (retQ (some (.int o.1)) o.2.1 o.2.2) := by
  intro n
  induction n with
  | zero => intro x1 I L o h; rw [f_X11_reads_67_l2] at h; cases h
  | succ n ih =>
    intro x1 I L o h
    rw [f_X11_reads_67_l2] at h
    refine r_iload_n (i := 1) dX11_reads_2 rfl rfl ?_
    refine r_if_eq (tgt := 62) dX11_reads_3 (by decide) (fun c => ?_) (fun c => ?_)
    · rw [if_pos c] at h
      refine r_aload_n (i := 0) dX11_reads_62 rfl rfl ?_
      obtain ⟨⟨r1, Ir1, Lr1⟩, hr, h⟩ := bind_some h
      refine r_V (d' := 0) k_X11_120 dX11_reads_63 (by omega) rfl rfl rfl (Nat.le_of_ble_eq_true rfl) (Nat.le_of_ble_eq_true rfl) (ok_X11_next_67 (Nat.le_refl _) hr) (fun v I' L' hq => ?_)
      obtain ⟨rfl, rfl, rfl⟩ := hq
      simp only [Option.toList_some, Option.toList_none, List.drop_succ_cons, List.drop_zero, List.drop_nil, List.cons_append, List.nil_append]
      dsimp only at h
      refine r_bipush (v := 59) dX11_reads_66 (by decide) ?_
      refine r_icmp_ne (tgt := 75) dX11_reads_68 (by decide) (fun c => ?_) (fun c => ?_)
      · rw [if_neg c] at h
        refine r_iconst (v := 0) dX11_reads_75 (by decide) ?_
        exact RR.wk (ok_X11_reads_67_b76 hd _ h) (And.intro rfl (trivial))
      · rw [if_pos c] at h
        refine r_iconst (v := 1) dX11_reads_71 (by decide) ?_
        refine r_goto (tgt := 76) dX11_reads_72 (by decide) ?_
        exact RR.wk (ok_X11_reads_67_b76 hd _ h) (And.intro rfl (trivial))
    · rw [if_neg c] at h
      refine r_aload_n (i := 0) dX11_reads_6 rfl rfl ?_
      obtain ⟨⟨r13, Ir13, Lr13⟩, hr, h⟩ := bind_some h
      refine r_V (d' := 2) k_X11_136 dX11_reads_7 (by omega) rfl rfl rfl (Nat.le_of_ble_eq_true rfl) (Nat.le_of_ble_eq_true rfl) (ok_X11_readsParish_67 (Nat.le_refl _) hr) (fun v I' L' hq => ?_)
      obtain ⟨rfl, rfl, rfl⟩ := hq
      simp only [Option.toList_some, Option.toList_none, List.drop_succ_cons, List.drop_zero, List.drop_nil, List.cons_append, List.nil_append]
      dsimp only at h
      refine r_if_ne (tgt := 15) dX11_reads_10 (by decide) (fun c => ?_) (fun c => ?_)
      · rw [if_neg c] at h
        refine r_aload_n (i := 0) dX11_reads_15 rfl rfl ?_
        obtain ⟨⟨r15, Ir15, Lr15⟩, hr, h⟩ := bind_some h
        refine r_V (d' := 0) k_X11_120 dX11_reads_16 (by omega) rfl rfl rfl (Nat.le_of_ble_eq_true rfl) (Nat.le_of_ble_eq_true rfl) (ok_X11_next_67 (Nat.le_refl _) hr) (fun v I' L' hq => ?_)
        obtain ⟨rfl, rfl, rfl⟩ := hq
        simp only [Option.toList_some, Option.toList_none, List.drop_succ_cons, List.drop_zero, List.drop_nil, List.cons_append, List.nil_append]
        dsimp only at h
        refine r_bipush (v := 44) dX11_reads_19 (by decide) ?_
        refine r_icmp_ne (tgt := 39) dX11_reads_21 (by decide) (fun c => ?_) (fun c => ?_)
        · rw [if_neg c] at h
          exact RR.wk (ok_X11_reads_67_b39 hd ih h) (And.intro rfl (trivial))
        · rw [if_pos c] at h
          refine r_aload_n (i := 0) dX11_reads_24 rfl rfl ?_
          refine r_getR f_X11_7 dX11_reads_25 rfl rfl ?_
          refine r_iconst (v := 0) dX11_reads_28 (by decide) ?_
          refine r_iald rfl (vp_lit (by decide)) dX11_reads_29 ?_
          refine r_bipush (v := 8) dX11_reads_30 (by decide) ?_
          refine r_icmp_ge (tgt := 39) dX11_reads_32 (by decide) (fun c => ?_) (fun c => ?_)
          · rw [if_pos c] at h
            exact RR.wk (ok_X11_reads_67_b39 hd ih h) (And.intro rfl (trivial))
          · rw [if_neg c] at h
            refine r_iconst (v := 1) dX11_reads_35 (by decide) ?_
            refine r_goto (tgt := 40) dX11_reads_36 (by decide) ?_
            exact RR.wk (ok_X11_reads_67_b40 hd ih _ h) (And.intro rfl (trivial))
      · rw [if_pos c] at h
        refine r_iconst (v := 0) dX11_reads_13 (by decide) ?_
        refine r_iret (by first | rfl | decide) dX11_reads_14 ?_
        obtain rfl := Option.some.inj h
        exact ⟨rfl, rfl, rfl⟩
def f_X11_reads_67 (I : mI) (L : mL) : rI := f_X11_reads_67_l2 fuel 1 I L
theorem ok_X11_reads_67 {d : Nat} (hd : 4 ≤ d) {I : mI} {L : mL} {o : Int32 × mI × mL} (h : f_X11_reads_67 I L = some o) : RR mX11_reads d 0 [some (.ref 67), none] [] I L (retQ (some (.int o.1)) o.2.1 o.2.2) := by
  unfold f_X11_reads_67 at h
  refine r_iconst (v := 1) dX11_reads_0 (by decide) ?_
  refine r_istore_n (i := 1) dX11_reads_1 rfl (by decide) rfl ?_
  simp only [List.set_cons_zero, List.set_cons_succ]
  exact RR.wk (ok_X11_reads_67_l2 hd _ _ _ _ _ h) (And.intro rfl (And.intro rfl (trivial)))
def f_X11_land_67_l83 : Nat → Int32 → mI → mL → rI
  | 0, _, _, _ => none
  | n + 1, x2, I, L => if 135 ≤ x2 then (some ((-20) - (I 67 8), I, L)) else (ck (inb x2 135) (ck (inb x2 135) (lt (uI I 68 x2.toNatClampNeg (I 74 x2.toNatClampNeg)) (fun M9 => lt (x2 + Int32.ofInt 1) (fun v10 => f_X11_land_67_l83 n v10 M9 L)))))
theorem ok_X11_land_67_l83 {d : Nat} (hd : 5 ≤ d) : ∀ (n : Nat) (x2 : Int32) (I : mI) (L : mL) (o : Int32 × mI × mL), f_X11_land_67_l83 n x2 I L = some o → RR mX11_land d 83 [some (.ref 67), none, some (.int x2)] [] I L (retQ (some (.int o.1)) o.2.1 o.2.2) := by
  intro n
  induction n with
  | zero => intro x2 I L o h; rw [f_X11_land_67_l83] at h; cases h
  | succ n ih =>
    intro x2 I L o h
    rw [f_X11_land_67_l83] at h
    refine r_iload_n (i := 2) dX11_land_83 rfl rfl ?_
    refine r_sipush (v := 135) dX11_land_84 (by decide) ?_
    refine r_icmp_ge (tgt := 108) dX11_land_87 (by decide) (fun c => ?_) (fun c => ?_)
    · rw [if_pos c] at h
      refine r_bipush (v := (-20)) dX11_land_108 (by decide) ?_
      refine r_aload_n (i := 0) dX11_land_110 rfl rfl ?_
      refine r_getI f_X11_117 dX11_land_111 rfl rfl ?_
      refine r_isub dX11_land_114 ?_
      refine r_iret (by first | rfl | decide) dX11_land_115 ?_
      obtain rfl := Option.some.inj h
      exact ⟨rfl, rfl, rfl⟩
    · rw [if_neg c] at h
      refine r_aload_n (i := 0) dX11_land_90 rfl rfl ?_
      refine r_getR f_X11_7 dX11_land_91 rfl rfl ?_
      refine r_iload_n (i := 2) dX11_land_94 rfl rfl ?_
      refine r_aload_n (i := 0) dX11_land_95 rfl rfl ?_
      refine r_getR f_X11_29 dX11_land_96 rfl rfl ?_
      refine r_iload_n (i := 2) dX11_land_99 rfl rfl ?_
      obtain ⟨hb, h⟩ := ck_some h
      refine r_iald rfl (inb_vp hb) dX11_land_100 ?_
      obtain ⟨hb, h⟩ := ck_some h
      refine r_iast rfl (inb_vp hb) dX11_land_101 ?_
      replace h := lt_some h
      refine r_iinc (v := _) dX11_land_102 rfl rfl (by decide) rfl ?_
      simp only [List.set_cons_zero, List.set_cons_succ]
      replace h := lt_some h
      refine r_goto (tgt := 83) dX11_land_105 (by decide) ?_
      exact RR.wk (ih _ _ _ _ h) (And.intro rfl (And.intro rfl (trivial)))
def f_X11_land_67_l2 : Nat → Int32 → mI → mL → rI
  | 0, _, _, _ => none
  | n + 1, x1, I, L => if 135 ≤ x1 then (lt (uI I 68 (0 : Int32).toNatClampNeg 0) (fun M1 => lt (uI M1 68 (1 : Int32).toNatClampNeg 0) (fun M2 => lt (uI M2 68 (3 : Int32).toNatClampNeg 0) (fun M3 => lt (uI M3 68 (4 : Int32).toNatClampNeg 0) (fun M4 => lt (uI M4 67 8 0) (fun M5 => bndI (f_X11_reads_67 M5 L) (fun r6 Ir6 Lr6 => lt (uI Ir6 67 4 0) (fun M8 => if r6 = 0 then (f_X11_land_67_l83 fuel 0 M8 Lr6) else (some (M8 68 (0 : Int32).toNatClampNeg, M8, Lr6)))))))))) else (ck (inb x1 135) (ck (inb x1 135) (lt (uI I 74 x1.toNatClampNeg (I 68 x1.toNatClampNeg)) (fun M11 => lt (x1 + Int32.ofInt 1) (fun v12 => f_X11_land_67_l2 n v12 M11 L)))))
theorem ok_X11_land_67_l2 {d : Nat} (hd : 5 ≤ d) : ∀ (n : Nat) (x1 : Int32) (I : mI) (L : mL) (o : Int32 × mI × mL), f_X11_land_67_l2 n x1 I L = some o → RR mX11_land d 2 [some (.ref 67), some (.int x1), none] [] I L (retQ (some (.int o.1)) o.2.1 o.2.2) := by
  intro n
  induction n with
  | zero => intro x1 I L o h; rw [f_X11_land_67_l2] at h; cases h
  | succ n ih =>
    intro x1 I L o h
    rw [f_X11_land_67_l2] at h
    refine r_iload_n (i := 1) dX11_land_2 rfl rfl ?_
    refine r_sipush (v := 135) dX11_land_3 (by decide) ?_
    refine r_icmp_ge (tgt := 27) dX11_land_6 (by decide) (fun c => ?_) (fun c => ?_)
    · rw [if_pos c] at h
      refine r_aload_n (i := 0) dX11_land_27 rfl rfl ?_
      refine r_getR f_X11_7 dX11_land_28 rfl rfl ?_
      refine r_iconst (v := 0) dX11_land_31 (by decide) ?_
      refine r_iconst (v := 0) dX11_land_32 (by decide) ?_
      refine r_iast rfl (vp_lit (by decide)) dX11_land_33 ?_
      replace h := lt_some h
      refine r_aload_n (i := 0) dX11_land_34 rfl rfl ?_
      refine r_getR f_X11_7 dX11_land_35 rfl rfl ?_
      refine r_iconst (v := 1) dX11_land_38 (by decide) ?_
      refine r_iconst (v := 0) dX11_land_39 (by decide) ?_
      refine r_iast rfl (vp_lit (by decide)) dX11_land_40 ?_
      replace h := lt_some h
      refine r_aload_n (i := 0) dX11_land_41 rfl rfl ?_
      refine r_getR f_X11_7 dX11_land_42 rfl rfl ?_
      refine r_iconst (v := 3) dX11_land_45 (by decide) ?_
      refine r_iconst (v := 0) dX11_land_46 (by decide) ?_
      refine r_iast rfl (vp_lit (by decide)) dX11_land_47 ?_
      replace h := lt_some h
      refine r_aload_n (i := 0) dX11_land_48 rfl rfl ?_
      refine r_getR f_X11_7 dX11_land_49 rfl rfl ?_
      refine r_iconst (v := 4) dX11_land_52 (by decide) ?_
      refine r_iconst (v := 0) dX11_land_53 (by decide) ?_
      refine r_iast rfl (vp_lit (by decide)) dX11_land_54 ?_
      replace h := lt_some h
      refine r_aload_n (i := 0) dX11_land_55 rfl rfl ?_
      refine r_iconst (v := 0) dX11_land_56 (by decide) ?_
      refine r_putI f_X11_117 rfl rfl dX11_land_57 rfl rfl ?_
      replace h := lt_some h
      refine r_aload_n (i := 0) dX11_land_60 rfl rfl ?_
      obtain ⟨⟨r6, Ir6, Lr6⟩, hr, h⟩ := bind_some h
      refine r_V (d' := 4) k_X11_143 dX11_land_61 (by omega) rfl rfl rfl (Nat.le_of_ble_eq_true rfl) (Nat.le_of_ble_eq_true rfl) (ok_X11_reads_67 (Nat.le_refl _) hr) (fun v I' L' hq => ?_)
      obtain ⟨rfl, rfl, rfl⟩ := hq
      simp only [Option.toList_some, Option.toList_none, List.drop_succ_cons, List.drop_zero, List.drop_nil, List.cons_append, List.nil_append]
      dsimp only at h
      refine r_istore_n (i := 1) dX11_land_64 rfl (by decide) rfl ?_
      simp only [List.set_cons_zero, List.set_cons_succ]
      refine r_aload_n (i := 0) dX11_land_65 rfl rfl ?_
      refine r_iconst (v := 0) dX11_land_66 (by decide) ?_
      refine r_putI f_X11_113 rfl rfl dX11_land_67 rfl rfl ?_
      replace h := lt_some h
      refine r_iload_n (i := 1) dX11_land_70 rfl rfl ?_
      refine r_if_eq (tgt := 81) dX11_land_71 (by decide) (fun c => ?_) (fun c => ?_)
      · rw [if_pos c] at h
        refine r_iconst (v := 0) dX11_land_81 (by decide) ?_
        refine r_istore_n (i := 2) dX11_land_82 rfl (by decide) rfl ?_
        simp only [List.set_cons_zero, List.set_cons_succ]
        exact RR.wk (ok_X11_land_67_l83 hd _ _ _ _ _ h) (And.intro rfl (And.intro rfl (trivial)))
      · rw [if_neg c] at h
        refine r_aload_n (i := 0) dX11_land_74 rfl rfl ?_
        refine r_getR f_X11_7 dX11_land_75 rfl rfl ?_
        refine r_iconst (v := 0) dX11_land_78 (by decide) ?_
        refine r_iald rfl (vp_lit (by decide)) dX11_land_79 ?_
        refine r_iret (by first | rfl | decide) dX11_land_80 ?_
        obtain rfl := Option.some.inj h
        exact ⟨rfl, rfl, rfl⟩
    · rw [if_neg c] at h
      refine r_aload_n (i := 0) dX11_land_9 rfl rfl ?_
      refine r_getR f_X11_29 dX11_land_10 rfl rfl ?_
      refine r_iload_n (i := 1) dX11_land_13 rfl rfl ?_
      refine r_aload_n (i := 0) dX11_land_14 rfl rfl ?_
      refine r_getR f_X11_7 dX11_land_15 rfl rfl ?_
      refine r_iload_n (i := 1) dX11_land_18 rfl rfl ?_
      obtain ⟨hb, h⟩ := ck_some h
      refine r_iald rfl (inb_vp hb) dX11_land_19 ?_
      obtain ⟨hb, h⟩ := ck_some h
      refine r_iast rfl (inb_vp hb) dX11_land_20 ?_
      replace h := lt_some h
      refine r_iinc (v := _) dX11_land_21 rfl rfl (by decide) rfl ?_
      simp only [List.set_cons_zero, List.set_cons_succ]
      replace h := lt_some h
      refine r_goto (tgt := 2) dX11_land_24 (by decide) ?_
      exact RR.wk (ih _ _ _ _ h) (And.intro rfl (And.intro rfl (trivial)))
def f_X11_land_67 (I : mI) (L : mL) : rI := f_X11_land_67_l2 fuel 0 I L
theorem ok_X11_land_67 {d : Nat} (hd : 5 ≤ d) {I : mI} {L : mL} {o : Int32 × mI × mL} (h : f_X11_land_67 I L = some o) : RR mX11_land d 0 [some (.ref 67), none, none] [] I L (retQ (some (.int o.1)) o.2.1 o.2.2) := by
  unfold f_X11_land_67 at h
  refine r_iconst (v := 0) dX11_land_0 (by decide) ?_
  refine r_istore_n (i := 1) dX11_land_1 rfl (by decide) rfl ?_
  simp only [List.set_cons_zero, List.set_cons_succ]
  exact RR.wk (ok_X11_land_67_l2 hd _ _ _ _ _ h) (And.intro rfl (And.intro rfl (trivial)))
def f_X11_count_67_l4 (I : mI) (L : mL) : Nat → Int32 → Int32 → Int32 → Option Int32
  | 0, _, _, _ => none
  | n + 1, x1, x2, x3 => if (I 68 (3 : Int32).toNatClampNeg) ≤ x3 then ((f_X11_in I L (x1.toInt64) 0 7).bind (fun r1 => if r1 = 0 then (some (-1)) else (if 6 ≤ x1 then (if x1 = 6 then ((f_X11_season_67 I L).bind (fun r2 => some r2)) else (some x2)) else (ck (inb x1 135) (some (I 68 x1.toNatClampNeg)))))) else (ck (inb (117 + x3) 135) (if (I 68 (117 + x3).toNatClampNeg) ≤ 0 then (lt (x2 + 0) (fun v3 => lt (x3 + Int32.ofInt 1) (fun v4 => f_X11_count_67_l4 I L n x1 v3 v4))) else (lt (x2 + 1) (fun v5 => lt (x3 + Int32.ofInt 1) (fun v6 => f_X11_count_67_l4 I L n x1 v5 v6)))))
theorem ok_X11_count_67_l4 {d : Nat} (hd : 1 ≤ d){I : mI} {L : mL} : ∀ (n : Nat) (x1 : Int32) (x2 : Int32) (x3 : Int32) (o : Int32), f_X11_count_67_l4 I L n x1 x2 x3 = some o → RR mX11_count d 4 [some (.ref 67), some (.int x1), some (.int x2), some (.int x3)] [] I L (retQ (some (.int o)) I L) := by
  intro n
  induction n with
  | zero => intro x1 x2 x3 o h; rw [f_X11_count_67_l4] at h; cases h
  | succ n ih =>
    intro x1 x2 x3 o h
    rw [f_X11_count_67_l4] at h
    refine r_iload_n (i := 3) dX11_count_4 rfl rfl ?_
    refine r_aload_n (i := 0) dX11_count_5 rfl rfl ?_
    refine r_getR f_X11_7 dX11_count_6 rfl rfl ?_
    refine r_iconst (v := 3) dX11_count_9 (by decide) ?_
    refine r_iald rfl (vp_lit (by decide)) dX11_count_10 ?_
    refine r_icmp_ge (tgt := 40) dX11_count_11 (by decide) (fun c => ?_) (fun c => ?_)
    · rw [if_pos c] at h
      refine r_iload_n (i := 1) dX11_count_40 rfl rfl ?_
      refine r_i2l dX11_count_41 ?_
      refine r_lconst (v := 0) dX11_count_42 (by decide) ?_
      refine r_ldc2 n_X11_91 dX11_count_43 ?_
      obtain ⟨r1, hr, h⟩ := bind_some h
      refine r_S (d' := 0) k_X11_50 dX11_count_46 (by omega) rfl (Nat.le_of_ble_eq_true rfl) (Nat.le_of_ble_eq_true rfl) (ok_X11_in (Nat.le_refl _) hr) (fun v I' L' hq => ?_)
      obtain ⟨rfl, rfl, rfl⟩ := hq
      simp only [Option.toList_some, Option.toList_none, List.drop_succ_cons, List.drop_zero, List.drop_nil, List.cons_append, List.nil_append]
      refine r_if_ne (tgt := 56) dX11_count_49 (by decide) (fun c => ?_) (fun c => ?_)
      · rw [if_neg c] at h
        refine r_iload_n (i := 1) dX11_count_56 rfl rfl ?_
        refine r_bipush (v := 6) dX11_count_57 (by decide) ?_
        refine r_icmp_ge (tgt := 71) dX11_count_59 (by decide) (fun c => ?_) (fun c => ?_)
        · rw [if_pos c] at h
          refine r_iload_n (i := 1) dX11_count_71 rfl rfl ?_
          refine r_bipush (v := 6) dX11_count_72 (by decide) ?_
          refine r_icmp_ne (tgt := 84) dX11_count_74 (by decide) (fun c => ?_) (fun c => ?_)
          · rw [if_neg c] at h
            refine r_iload_n (i := 2) dX11_count_84 rfl rfl ?_
            refine r_iret (by first | rfl | decide) dX11_count_85 ?_
            obtain rfl := Option.some.inj h
            exact ⟨rfl, rfl, rfl⟩
          · rw [if_pos c] at h
            refine r_aload_n (i := 0) dX11_count_77 rfl rfl ?_
            obtain ⟨r2, hr, h⟩ := bind_some h
            refine r_V (d' := 0) k_X11_54 dX11_count_78 (by omega) rfl rfl rfl (Nat.le_of_ble_eq_true rfl) (Nat.le_of_ble_eq_true rfl) (ok_X11_season_67 (Nat.le_refl _) hr) (fun v I' L' hq => ?_)
            obtain ⟨rfl, rfl, rfl⟩ := hq
            simp only [Option.toList_some, Option.toList_none, List.drop_succ_cons, List.drop_zero, List.drop_nil, List.cons_append, List.nil_append]
            refine r_goto (tgt := 85) dX11_count_81 (by decide) ?_
            refine r_iret (by first | rfl | decide) dX11_count_85 ?_
            obtain rfl := Option.some.inj h
            exact ⟨rfl, rfl, rfl⟩
        · rw [if_neg c] at h
          refine r_aload_n (i := 0) dX11_count_62 rfl rfl ?_
          refine r_getR f_X11_7 dX11_count_63 rfl rfl ?_
          refine r_iload_n (i := 1) dX11_count_66 rfl rfl ?_
          obtain ⟨hb, h⟩ := ck_some h
          refine r_iald rfl (inb_vp hb) dX11_count_67 ?_
          refine r_goto (tgt := 85) dX11_count_68 (by decide) ?_
          refine r_iret (by first | rfl | decide) dX11_count_85 ?_
          obtain rfl := Option.some.inj h
          exact ⟨rfl, rfl, rfl⟩
      · rw [if_pos c] at h
        refine r_iconst (v := (-1)) dX11_count_52 (by decide) ?_
        refine r_goto (tgt := 85) dX11_count_53 (by decide) ?_
        refine r_iret (by first | rfl | decide) dX11_count_85 ?_
        obtain rfl := Option.some.inj h
        exact ⟨rfl, rfl, rfl⟩
    · rw [if_neg c] at h
      refine r_iload_n (i := 2) dX11_count_14 rfl rfl ?_
      refine r_aload_n (i := 0) dX11_count_15 rfl rfl ?_
      refine r_getR f_X11_7 dX11_count_16 rfl rfl ?_
      refine r_bipush (v := 117) dX11_count_19 (by decide) ?_
      refine r_iload_n (i := 3) dX11_count_21 rfl rfl ?_
      refine r_iadd dX11_count_22 ?_
      obtain ⟨hb, h⟩ := ck_some h
      refine r_iald rfl (inb_vp hb) dX11_count_23 ?_
      refine r_if_le (tgt := 31) dX11_count_24 (by decide) (fun c => ?_) (fun c => ?_)
      · rw [if_pos c] at h
        refine r_iconst (v := 0) dX11_count_31 (by decide) ?_
        refine r_iadd dX11_count_32 ?_
        refine r_istore_n (i := 2) dX11_count_33 rfl (by decide) rfl ?_
        simp only [List.set_cons_zero, List.set_cons_succ]
        replace h := lt_some h
        refine r_iinc (v := _) dX11_count_34 rfl rfl (by decide) rfl ?_
        simp only [List.set_cons_zero, List.set_cons_succ]
        replace h := lt_some h
        refine r_goto (tgt := 4) dX11_count_37 (by decide) ?_
        exact RR.wk (ih _ _ _ _ h) (And.intro rfl (And.intro rfl (And.intro rfl (And.intro rfl (trivial)))))
      · rw [if_neg c] at h
        refine r_iconst (v := 1) dX11_count_27 (by decide) ?_
        refine r_goto (tgt := 32) dX11_count_28 (by decide) ?_
        refine r_iadd dX11_count_32 ?_
        refine r_istore_n (i := 2) dX11_count_33 rfl (by decide) rfl ?_
        simp only [List.set_cons_zero, List.set_cons_succ]
        replace h := lt_some h
        refine r_iinc (v := _) dX11_count_34 rfl rfl (by decide) rfl ?_
        simp only [List.set_cons_zero, List.set_cons_succ]
        replace h := lt_some h
        refine r_goto (tgt := 4) dX11_count_37 (by decide) ?_
        exact RR.wk (ih _ _ _ _ h) (And.intro rfl (And.intro rfl (And.intro rfl (And.intro rfl (trivial)))))
def f_X11_count_67 (I : mI) (L : mL) (a1 : Int32) : Option Int32 := f_X11_count_67_l4 I L fuel a1 0 0
theorem ok_X11_count_67 {d : Nat} (hd : 1 ≤ d) {I : mI} {L : mL} {a1 : Int32} {o : Int32} (h : f_X11_count_67 I L a1 = some o) : RR mX11_count d 0 [some (.ref 67), some (.int a1), none, none] [] I L (retQ (some (.int o)) I L) := by
  unfold f_X11_count_67 at h
  refine r_iconst (v := 0) dX11_count_0 (by decide) ?_
  refine r_istore_n (i := 2) dX11_count_1 rfl (by decide) rfl ?_
  simp only [List.set_cons_zero, List.set_cons_succ]
  refine r_iconst (v := 0) dX11_count_2 (by decide) ?_
  refine r_istore_n (i := 3) dX11_count_3 rfl (by decide) rfl ?_
  simp only [List.set_cons_zero, List.set_cons_succ]
  exact RR.wk (ok_X11_count_67_l4 hd _ _ _ _ _ h) (And.intro rfl (And.intro rfl (And.intro rfl (And.intro rfl (trivial)))))
