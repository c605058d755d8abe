def f_X11_scales_67_b75 (I : mI) (L : mL) (k39 : Int32 → Int32 → Int32 → mI → mL → rI) (x1 : Int32) (x3 : Int32) (x4 : Int32) (s0 : Int32) : rI := if s0 = 0 then (lt (x4 + Int32.ofInt 1) (fun v5 => k39 x1 x3 v5 I L)) else ((f_X11_isEnded_67 I L x1 x4).bind (fun r6 => if r6 = 0 then (lt (x4 + Int32.ofInt 1) (fun v7 => k39 x1 x3 v7 I L)) else (lt (x4 + Int32.ofInt 1) (fun v8 => k39 x1 x4 v8 I L))))
theorem ok_X11_scales_67_b75 {d : Nat} (hd : 4 ≤ d){I : mI} {L : mL} {k39 : Int32 → Int32 → Int32 → mI → mL → rI} (hk39 : ∀ (x1 : Int32) (x3 : Int32) (x4 : Int32) (I : mI) (L : mL) (o : Int32 × mI × mL), k39 x1 x3 x4 I L = some o → RR mX11_scales d 39 [some (.ref 67), some (.int x1), none, some (.int x3), some (.int x4), none] [] I L (retQ (some (.int o.1)) o.2.1 o.2.2)) (x1 : Int32) (x3 : Int32) (x4 : Int32) (s0 : Int32) {o : Int32 × mI × mL} (h : f_X11_scales_67_b75 I L k39 x1 x3 x4 s0 = some o) : RR mX11_scales d 75 [some (.ref 67), some (.int x1), none, some (.int x3), some (.int x4), none] [.int s0] I L (retQ (some (.int o.1)) o.2.1 o.2.2) := by
  unfold f_X11_scales_67_b75 at h
  refine r_istore dX11_scales_75 (by decide) rfl ?_
  simp only [List.set_cons_zero, List.set_cons_succ]
  refine r_iload dX11_scales_77 rfl ?_
  refine r_if_eq (tgt := 97) dX11_scales_79 (by decide) (fun c => ?_) (fun c => ?_)
  · rw [if_pos c] at h
    refine r_iload_n (i := 3) dX11_scales_97 rfl rfl ?_
    refine r_istore_n (i := 3) dX11_scales_98 rfl (by decide) rfl ?_
    simp only [List.set_cons_zero, List.set_cons_succ]
    refine r_iinc (v := _) dX11_scales_99 rfl rfl (by decide) rfl ?_
    simp only [List.set_cons_zero, List.set_cons_succ]
    replace h := lt_some h
    refine r_goto (tgt := 39) dX11_scales_102 (by decide) ?_
    exact RR.wk (hk39 _ _ _ _ _ _ h) (And.intro rfl (And.intro rfl (And.intro rfl (And.intro rfl (trivial)))))
  · rw [if_neg c] at h
    refine r_aload_n (i := 0) dX11_scales_82 rfl rfl ?_
    refine r_iload_n (i := 1) dX11_scales_83 rfl rfl ?_
    refine r_iload dX11_scales_84 rfl ?_
    obtain ⟨r6, hr, h⟩ := bind_some h
    refine r_V (d' := 3) k_X11_188 dX11_scales_86 (by omega) rfl rfl rfl (Nat.le_of_ble_eq_true rfl) (Nat.le_of_ble_eq_true rfl) (ok_X11_isEnded_67 (Nat.le_refl _) hr) (fun v I' L' hq => ?_)
    obtain ⟨rfl, rfl, rfl⟩ := hq
    simp only [Option.toList_some, Option.toList_none, List.drop_succ_cons, List.drop_zero, List.drop_nil, List.cons_append, List.nil_append]
    refine r_if_eq (tgt := 97) dX11_scales_89 (by decide) (fun c => ?_) (fun c => ?_)
    · rw [if_pos c] at h
      refine r_iload_n (i := 3) dX11_scales_97 rfl rfl ?_
      refine r_istore_n (i := 3) dX11_scales_98 rfl (by decide) rfl ?_
      simp only [List.set_cons_zero, List.set_cons_succ]
      refine r_iinc (v := _) dX11_scales_99 rfl rfl (by decide) rfl ?_
      simp only [List.set_cons_zero, List.set_cons_succ]
      replace h := lt_some h
      refine r_goto (tgt := 39) dX11_scales_102 (by decide) ?_
      exact RR.wk (hk39 _ _ _ _ _ _ h) (And.intro rfl (And.intro rfl (And.intro rfl (And.intro rfl (trivial)))))
    · rw [if_neg c] at h
      refine r_iload dX11_scales_92 rfl ?_
      refine r_goto (tgt := 98) dX11_scales_94 (by decide) ?_
      refine r_istore_n (i := 3) dX11_scales_98 rfl (by decide) rfl ?_
      simp only [List.set_cons_zero, List.set_cons_succ]
      refine r_iinc (v := _) dX11_scales_99 rfl rfl (by decide) rfl ?_
      simp only [List.set_cons_zero, List.set_cons_succ]
      replace h := lt_some h
      refine r_goto (tgt := 39) dX11_scales_102 (by decide) ?_
      exact RR.wk (hk39 _ _ _ _ _ _ h) (And.intro rfl (And.intro rfl (And.intro rfl (And.intro rfl (trivial)))))
def f_X11_scales_67_b70 (I : mI) (L : mL) (k39 : Int32 → Int32 → Int32 → mI → mL → rI) (x1 : Int32) (x3 : Int32) (x4 : Int32) : rI := f_X11_scales_67_b75 I L k39 x1 x3 x4 1
theorem ok_X11_scales_67_b70 {d : Nat} (hd : 4 ≤ d){I : mI} {L : mL} {k39 : Int32 → Int32 → Int32 → mI → mL → rI} (hk39 : ∀ (x1 : Int32) (x3 : Int32) (x4 : Int32) (I : mI) (L : mL) (o : Int32 × mI × mL), k39 x1 x3 x4 I L = some o → RR mX11_scales d 39 [some (.ref 67), some (.int x1), none, some (.int x3), some (.int x4), none] [] I L (retQ (some (.int o.1)) o.2.1 o.2.2)) (x1 : Int32) (x3 : Int32) (x4 : Int32) {o : Int32 × mI × mL} (h : f_X11_scales_67_b70 I L k39 x1 x3 x4 = some o) : RR mX11_scales d 70 [some (.ref 67), some (.int x1), none, some (.int x3), some (.int x4), none] [] I L (retQ (some (.int o.1)) o.2.1 o.2.2) := by
  unfold f_X11_scales_67_b70 at h
  refine r_iconst (v := 1) dX11_scales_70 (by decide) ?_
  refine r_goto (tgt := 75) dX11_scales_71 (by decide) ?_
  exact RR.wk (ok_X11_scales_67_b75 hd hk39 _ _ _ _ h) (And.intro rfl (And.intro rfl (And.intro rfl (And.intro rfl (trivial)))))
def f_X11_scales_67_l39 : Nat → Int32 → Int32 → Int32 → mI → mL → rI
  | 0, _, _, _, _, _ => none
  | n + 1, x1, x3, x4, I, L => if ((1 : Int32) <<< ((I 68 (0 : Int32).toNatClampNeg) &&& 31)) ≤ x4 then (some (x3, I, L)) else (if x3 = (-4) then (f_X11_scales_67_b70 I L (f_X11_scales_67_l39 n) x1 x3 x4) else ((f_X11_bits I L x4).bind (fun r9 => (f_X11_bits I L x3).bind (fun r10 => if r10 ≤ r9 then (f_X11_scales_67_b75 I L (f_X11_scales_67_l39 n) x1 x3 x4 0) else (f_X11_scales_67_b70 I L (f_X11_scales_67_l39 n) x1 x3 x4)))))
theorem ok_X11_scales_67_l39 {d : Nat} (hd : 4 ≤ d) : ∀ (n : Nat) (x1 : Int32) (x3 : Int32) (x4 : Int32) (I : mI) (L : mL) (o : Int32 × mI × mL), f_X11_scales_67_l39 n x1 x3 x4 I L = some o → RR mX11_scales d 39 [some (.ref 67), some (.int x1), none, some (.int x3), some (.int x4), none] [] I L (retQ (some (.int o.1)) o.2.1 o.2.2) := by
  intro n
  induction n with
  | zero => intro x1 x3 x4 I L o h; rw [f_X11_scales_67_l39] at h; cases h
  | succ n ih =>
    intro x1 x3 x4 I L o h
    rw [f_X11_scales_67_l39] at h
    refine r_iload dX11_scales_39 rfl ?_
    refine r_iconst (v := 1) dX11_scales_41 (by decide) ?_
    refine r_aload_n (i := 0) dX11_scales_42 rfl rfl ?_
    refine r_getR f_X11_7 dX11_scales_43 rfl rfl ?_
    refine r_iconst (v := 0) dX11_scales_46 (by decide) ?_
    refine r_iald rfl (vp_lit (by decide)) dX11_scales_47 ?_
    refine r_ishl dX11_scales_48 ?_
    refine r_icmp_ge (tgt := 105) dX11_scales_49 (by decide) (fun c => ?_) (fun c => ?_)
    · rw [if_pos c] at h
      refine r_iload_n (i := 3) dX11_scales_105 rfl rfl ?_
      refine r_iret (by first | rfl | decide) dX11_scales_106 ?_
      obtain rfl := Option.some.inj h
      exact ⟨rfl, rfl, rfl⟩
    · rw [if_neg c] at h
      refine r_iload_n (i := 3) dX11_scales_52 rfl rfl ?_
      refine r_bipush (v := (-4)) dX11_scales_53 (by decide) ?_
      refine r_icmp_eq (tgt := 70) dX11_scales_55 (by decide) (fun c => ?_) (fun c => ?_)
      · rw [if_pos c] at h
        exact RR.wk (ok_X11_scales_67_b70 hd ih _ _ _ h) (And.intro rfl (And.intro rfl (And.intro rfl (And.intro rfl (trivial)))))
      · rw [if_neg c] at h
        refine r_iload dX11_scales_58 rfl ?_
        obtain ⟨r9, hr, h⟩ := bind_some h
        refine r_S (d' := 0) k_X11_185 dX11_scales_60 (by omega) rfl (Nat.le_of_ble_eq_true rfl) (Nat.le_of_ble_eq_true rfl) (ok_X11_bits (Nat.le_refl _) hr) (fun v I' L' hq => ?_)
        obtain ⟨rfl, rfl, rfl⟩ := hq
        simp only [Option.toList_some, Option.toList_none, List.drop_succ_cons, List.drop_zero, List.drop_nil, List.cons_append, List.nil_append]
        refine r_iload_n (i := 3) dX11_scales_63 rfl rfl ?_
        obtain ⟨r10, hr, h⟩ := bind_some h
        refine r_S (d' := 0) k_X11_185 dX11_scales_64 (by omega) rfl (Nat.le_of_ble_eq_true rfl) (Nat.le_of_ble_eq_true rfl) (ok_X11_bits (Nat.le_refl _) hr) (fun v I' L' hq => ?_)
        obtain ⟨rfl, rfl, rfl⟩ := hq
        simp only [Option.toList_some, Option.toList_none, List.drop_succ_cons, List.drop_zero, List.drop_nil, List.cons_append, List.nil_append]
        refine r_icmp_ge (tgt := 74) dX11_scales_67 (by decide) (fun c => ?_) (fun c => ?_)
        · rw [if_pos c] at h
          refine r_iconst (v := 0) dX11_scales_74 (by decide) ?_
          exact RR.wk (ok_X11_scales_67_b75 hd ih _ _ _ _ h) (And.intro rfl (And.intro rfl (And.intro rfl (And.intro rfl (trivial)))))
        · rw [if_neg c] at h
          exact RR.wk (ok_X11_scales_67_b70 hd ih _ _ _ h) (And.intro rfl (And.intro rfl (And.intro rfl (And.intro rfl (trivial)))))
def f_X11_scales_67 (I : mI) (L : mL) (a1 : Int32) (a2 : Int32) : rI := (f_X11_isGood_67 I L a1).bind (fun r1 => if r1 = 0 then (some ((-1), I, L)) else ((f_X11_isCart_67 I L a2).bind (fun r2 => if r2 = 0 then (some ((-1), I, L)) else (ck (inb (99 + a1) 135) (bndV (f_X11_layWays_67 I L a2 (I 68 (99 + a1).toNatClampNeg) 0) (fun Ir3 Lr3 => f_X11_scales_67_l39 fuel a1 (-4) 0 Ir3 Lr3))))))
theorem ok_X11_scales_67 {d : Nat} (hd : 4 ≤ d) {I : mI} {L : mL} {a1 : Int32} {a2 : Int32} {o : Int32 × mI × mL} (h : f_X11_scales_67 I L a1 a2 = some o) : RR mX11_scales d 0 [some (.ref 67), some (.int a1), some (.int a2), none, none, none] [] I L (retQ (some (.int o.1)) o.2.1 o.2.2) := by
  unfold f_X11_scales_67 at h
  refine r_aload_n (i := 0) dX11_scales_0 rfl rfl ?_
  refine r_iload_n (i := 1) dX11_scales_1 rfl rfl ?_
  obtain ⟨r1, hr, h⟩ := bind_some h
  refine r_V (d' := 1) k_X11_85 dX11_scales_2 (by omega) rfl rfl rfl (Nat.le_of_ble_eq_true rfl) (Nat.le_of_ble_eq_true rfl) (ok_X11_isGood_67 (Nat.le_refl _) hr) (fun v I' L' hq => ?_)
  obtain ⟨rfl, rfl, rfl⟩ := hq
  simp only [Option.toList_some, Option.toList_none, List.drop_succ_cons, List.drop_zero, List.drop_nil, List.cons_append, List.nil_append]
  refine r_if_eq (tgt := 16) dX11_scales_5 (by decide) (fun c => ?_) (fun c => ?_)
  · rw [if_pos c] at h
    refine r_iconst (v := (-1)) dX11_scales_16 (by decide) ?_
    refine r_iret (by first | rfl | decide) dX11_scales_17 ?_
    obtain rfl := Option.some.inj h
    exact ⟨rfl, rfl, rfl⟩
  · rw [if_neg c] at h
    refine r_aload_n (i := 0) dX11_scales_8 rfl rfl ?_
    refine r_iload_n (i := 2) dX11_scales_9 rfl rfl ?_
    obtain ⟨r2, hr, h⟩ := bind_some h
    refine r_V (d' := 1) k_X11_97 dX11_scales_10 (by omega) rfl rfl rfl (Nat.le_of_ble_eq_true rfl) (Nat.le_of_ble_eq_true rfl) (ok_X11_isCart_67 (Nat.le_refl _) hr) (fun v I' L' hq => ?_)
    obtain ⟨rfl, rfl, rfl⟩ := hq
    simp only [Option.toList_some, Option.toList_none, List.drop_succ_cons, List.drop_zero, List.drop_nil, List.cons_append, List.nil_append]
    refine r_if_ne (tgt := 18) dX11_scales_13 (by decide) (fun c => ?_) (fun c => ?_)
    · rw [if_neg c] at h
      refine r_aload_n (i := 0) dX11_scales_18 rfl rfl ?_
      refine r_iload_n (i := 2) dX11_scales_19 rfl rfl ?_
      refine r_aload_n (i := 0) dX11_scales_20 rfl rfl ?_
      refine r_getR f_X11_7 dX11_scales_21 rfl rfl ?_
      refine r_bipush (v := 99) dX11_scales_24 (by decide) ?_
      refine r_iload_n (i := 1) dX11_scales_26 rfl rfl ?_
      refine r_iadd dX11_scales_27 ?_
      obtain ⟨hb, h⟩ := ck_some h
      refine r_iald rfl (inb_vp hb) dX11_scales_28 ?_
      refine r_iconst (v := 0) dX11_scales_29 (by decide) ?_
      obtain ⟨⟨Ir3, Lr3⟩, hr, h⟩ := bind_some h
      refine r_V (d' := 3) k_X11_162 dX11_scales_30 (by omega) rfl rfl rfl (Nat.le_of_ble_eq_true rfl) (Nat.le_of_ble_eq_true rfl) (ok_X11_layWays_67 (Nat.le_refl _) hr) (fun v I' L' hq => ?_)
      obtain ⟨rfl, rfl, rfl⟩ := hq
      simp only [Option.toList_some, Option.toList_none, List.drop_succ_cons, List.drop_zero, List.drop_nil, List.cons_append, List.nil_append]
      dsimp only at h
      refine r_bipush (v := (-4)) dX11_scales_33 (by decide) ?_
      refine r_istore_n (i := 3) dX11_scales_35 rfl (by decide) rfl ?_
      simp only [List.set_cons_zero, List.set_cons_succ]
      refine r_iconst (v := 0) dX11_scales_36 (by decide) ?_
      refine r_istore dX11_scales_37 (by decide) rfl ?_
      simp only [List.set_cons_zero, List.set_cons_succ]
      exact RR.wk (ok_X11_scales_67_l39 hd _ _ _ _ _ _ _ h) (And.intro rfl (And.intro rfl (And.intro rfl (And.intro rfl (trivial)))))
    · rw [if_pos c] at h
      refine r_iconst (v := (-1)) dX11_scales_16 (by decide) ?_
      refine r_iret (by first | rfl | decide) dX11_scales_17 ?_
      obtain rfl := Option.some.inj h
      exact ⟨rfl, rfl, rfl⟩
def f_X11_takeOf_67_l5 : Nat → Int32 → Int32 → Int32 → Int32 → mI → mL → rI
  | 0, _, _, _, _, _, _ => none
  | n + 1, x1, x2, x3, x4, I, L => if (I 68 (3 : Int32).toNatClampNeg) ≤ x4 then (some (x3, I, L)) else (bndI (f_X11_marketOf_67 I L x4 x2 0) (fun r1 Ir1 Lr1 => if r1 = x1 then (lt (x3 + 1) (fun v5 => lt (x4 + Int32.ofInt 1) (fun v6 => f_X11_takeOf_67_l5 n x1 x2 v5 v6 Ir1 Lr1))) else (lt (x3 + 0) (fun v3 => lt (x4 + Int32.ofInt 1) (fun v4 => f_X11_takeOf_67_l5 n x1 x2 v3 v4 Ir1 Lr1)))))
theorem ok_X11_takeOf_67_l5 {d : Nat} (hd : 5 ≤ d) : ∀ (n : Nat) (x1 : Int32) (x2 : Int32) (x3 : Int32) (x4 : Int32) (I : mI) (L : mL) (o : Int32 × mI × mL), f_X11_takeOf_67_l5 n x1 x2 x3 x4 I L = some o → RR mX11_takeOf d 5 [some (.ref 67), some (.int x1), some (.int x2), some (.int x3), some (.int x4)] [] I L (retQ (some (.int o.1)) o.2.1 o.2.2) := by
  intro n
  induction n with
  | zero => intro x1 x2 x3 x4 I L o h; rw [f_X11_takeOf_67_l5] at h; cases h
  | succ n ih =>
    intro x1 x2 x3 x4 I L o h
    rw [f_X11_takeOf_67_l5] at h
    refine r_iload dX11_takeOf_5 rfl ?_
    refine r_aload_n (i := 0) dX11_takeOf_7 rfl rfl ?_
    refine r_getR f_X11_7 dX11_takeOf_8 rfl rfl ?_
    refine r_iconst (v := 3) dX11_takeOf_11 (by decide) ?_
    refine r_iald rfl (vp_lit (by decide)) dX11_takeOf_12 ?_
    refine r_icmp_ge (tgt := 42) dX11_takeOf_13 (by decide) (fun c => ?_) (fun c => ?_)
    · rw [if_pos c] at h
      refine r_iload_n (i := 3) dX11_takeOf_42 rfl rfl ?_
      refine r_iret (by first | rfl | decide) dX11_takeOf_43 ?_
      obtain rfl := Option.some.inj h
      exact ⟨rfl, rfl, rfl⟩
    · rw [if_neg c] at h
      refine r_iload_n (i := 3) dX11_takeOf_16 rfl rfl ?_
      refine r_aload_n (i := 0) dX11_takeOf_17 rfl rfl ?_
      refine r_iload dX11_takeOf_18 rfl ?_
      refine r_iload_n (i := 2) dX11_takeOf_20 rfl rfl ?_
      refine r_iconst (v := 0) dX11_takeOf_21 (by decide) ?_
      obtain ⟨⟨r1, Ir1, Lr1⟩, hr, h⟩ := bind_some h
      refine r_V (d' := 4) k_X11_176 dX11_takeOf_22 (by omega) rfl rfl rfl (Nat.le_of_ble_eq_true rfl) (Nat.le_of_ble_eq_true rfl) (ok_X11_marketOf_67 (Nat.le_refl _) hr) (fun v I' L' hq => ?_)
      obtain ⟨rfl, rfl, rfl⟩ := hq
      simp only [Option.toList_some, Option.toList_none, List.drop_succ_cons, List.drop_zero, List.drop_nil, List.cons_append, List.nil_append]
      dsimp only at h
      refine r_iload_n (i := 1) dX11_takeOf_25 rfl rfl ?_
      refine r_icmp_ne (tgt := 33) dX11_takeOf_26 (by decide) (fun c => ?_) (fun c => ?_)
      · rw [if_neg c] at h
        refine r_iconst (v := 0) dX11_takeOf_33 (by decide) ?_
        refine r_iadd dX11_takeOf_34 ?_
        refine r_istore_n (i := 3) dX11_takeOf_35 rfl (by decide) rfl ?_
        simp only [List.set_cons_zero, List.set_cons_succ]
        replace h := lt_some h
        refine r_iinc (v := _) dX11_takeOf_36 rfl rfl (by decide) rfl ?_
        simp only [List.set_cons_zero, List.set_cons_succ]
        replace h := lt_some h
        refine r_goto (tgt := 5) dX11_takeOf_39 (by decide) ?_
        exact RR.wk (ih _ _ _ _ _ _ _ h) (And.intro rfl (And.intro rfl (And.intro rfl (And.intro rfl (And.intro rfl (trivial))))))
      · rw [if_pos c] at h
        refine r_iconst (v := 1) dX11_takeOf_29 (by decide) ?_
        refine r_goto (tgt := 34) dX11_takeOf_30 (by decide) ?_
        refine r_iadd dX11_takeOf_34 ?_
        refine r_istore_n (i := 3) dX11_takeOf_35 rfl (by decide) rfl ?_
        simp only [List.set_cons_zero, List.set_cons_succ]
        replace h := lt_some h
        refine r_iinc (v := _) dX11_takeOf_36 rfl rfl (by decide) rfl ?_
        simp only [List.set_cons_zero, List.set_cons_succ]
        replace h := lt_some h
        refine r_goto (tgt := 5) dX11_takeOf_39 (by decide) ?_
        exact RR.wk (ih _ _ _ _ _ _ _ h) (And.intro rfl (And.intro rfl (And.intro rfl (And.intro rfl (And.intro rfl (trivial))))))
def f_X11_takeOf_67 (I : mI) (L : mL) (a1 : Int32) (a2 : Int32) : rI := f_X11_takeOf_67_l5 fuel a1 a2 0 0 I L
theorem ok_X11_takeOf_67 {d : Nat} (hd : 5 ≤ d) {I : mI} {L : mL} {a1 : Int32} {a2 : Int32} {o : Int32 × mI × mL} (h : f_X11_takeOf_67 I L a1 a2 = some o) : RR mX11_takeOf d 0 [some (.ref 67), some (.int a1), some (.int a2), none, none] [] I L (retQ (some (.int o.1)) o.2.1 o.2.2) := by
  unfold f_X11_takeOf_67 at h
  refine r_iconst (v := 0) dX11_takeOf_0 (by decide) ?_
  refine r_istore_n (i := 3) dX11_takeOf_1 rfl (by decide) rfl ?_
  simp only [List.set_cons_zero, List.set_cons_succ]
  refine r_iconst (v := 0) dX11_takeOf_2 (by decide) ?_
  refine r_istore dX11_takeOf_3 (by decide) rfl ?_
  simp only [List.set_cons_zero, List.set_cons_succ]
  exact RR.wk (ok_X11_takeOf_67_l5 hd _ _ _ _ _ _ _ _ h) (And.intro rfl (And.intro rfl (And.intro rfl (And.intro rfl (And.intro rfl (trivial))))))
def f_X11_take_67 (I : mI) (L : mL) (a1 : Int32) (a2 : Int32) : rI := (f_X11_isParish_67 I L a1).bind (fun r1 => if r1 = 0 then (some ((-1), I, L)) else ((f_X11_isCart_67 I L a2).bind (fun r2 => if r2 = 0 then (some ((-1), I, L)) else (bndI (f_X11_takeOf_67 I L a1 a2) (fun r3 Ir3 Lr3 => some (r3, Ir3, Lr3))))))
theorem ok_X11_take_67 {d : Nat} (hd : 6 ≤ d) {I : mI} {L : mL} {a1 : Int32} {a2 : Int32} {o : Int32 × mI × mL} (h : f_X11_take_67 I L a1 a2 = some o) : RR mX11_take d 0 [some (.ref 67), some (.int a1), some (.int a2)] [] I L (retQ (some (.int o.1)) o.2.1 o.2.2) := by
  unfold f_X11_take_67 at h
  refine r_aload_n (i := 0) dX11_take_0 rfl rfl ?_
  refine r_iload_n (i := 1) dX11_take_1 rfl rfl ?_
  obtain ⟨r1, hr, h⟩ := bind_some h
  refine r_V (d' := 1) k_X11_68 dX11_take_2 (by omega) rfl rfl rfl (Nat.le_of_ble_eq_true rfl) (Nat.le_of_ble_eq_true rfl) (ok_X11_isParish_67 (Nat.le_refl _) hr) (fun v I' L' hq => ?_)
  obtain ⟨rfl, rfl, rfl⟩ := hq
  simp only [Option.toList_some, Option.toList_none, List.drop_succ_cons, List.drop_zero, List.drop_nil, List.cons_append, List.nil_append]
  refine r_if_eq (tgt := 25) dX11_take_5 (by decide) (fun c => ?_) (fun c => ?_)
  · rw [if_pos c] at h
    refine r_iconst (v := (-1)) dX11_take_25 (by decide) ?_
    refine r_iret (by first | rfl | decide) dX11_take_26 ?_
    obtain rfl := Option.some.inj h
    exact ⟨rfl, rfl, rfl⟩
  · rw [if_neg c] at h
    refine r_aload_n (i := 0) dX11_take_8 rfl rfl ?_
    refine r_iload_n (i := 2) dX11_take_9 rfl rfl ?_
    obtain ⟨r2, hr, h⟩ := bind_some h
    refine r_V (d' := 1) k_X11_97 dX11_take_10 (by omega) rfl rfl rfl (Nat.le_of_ble_eq_true rfl) (Nat.le_of_ble_eq_true rfl) (ok_X11_isCart_67 (Nat.le_refl _) hr) (fun v I' L' hq => ?_)
    obtain ⟨rfl, rfl, rfl⟩ := hq
    simp only [Option.toList_some, Option.toList_none, List.drop_succ_cons, List.drop_zero, List.drop_nil, List.cons_append, List.nil_append]
    refine r_if_eq (tgt := 25) dX11_take_13 (by decide) (fun c => ?_) (fun c => ?_)
    · rw [if_pos c] at h
      refine r_iconst (v := (-1)) dX11_take_25 (by decide) ?_
      refine r_iret (by first | rfl | decide) dX11_take_26 ?_
      obtain rfl := Option.some.inj h
      exact ⟨rfl, rfl, rfl⟩
    · rw [if_neg c] at h
      refine r_aload_n (i := 0) dX11_take_16 rfl rfl ?_
      refine r_iload_n (i := 1) dX11_take_17 rfl rfl ?_
      refine r_iload_n (i := 2) dX11_take_18 rfl rfl ?_
      obtain ⟨⟨r3, Ir3, Lr3⟩, hr, h⟩ := bind_some h
      refine r_V (d' := 5) k_X11_191 dX11_take_19 (by omega) rfl rfl rfl (Nat.le_of_ble_eq_true rfl) (Nat.le_of_ble_eq_true rfl) (ok_X11_takeOf_67 (Nat.le_refl _) hr) (fun v I' L' hq => ?_)
      obtain ⟨rfl, rfl, rfl⟩ := hq
      simp only [Option.toList_some, Option.toList_none, List.drop_succ_cons, List.drop_zero, List.drop_nil, List.cons_append, List.nil_append]
      dsimp only at h
      refine r_goto (tgt := 26) dX11_take_22 (by decide) ?_
      refine r_iret (by first | rfl | decide) dX11_take_26 ?_
      obtain rfl := Option.some.inj h
      exact ⟨rfl, rfl, rfl⟩
def f_X11_councils_67_b306 (I : mI) (L : mL) (k187 : Int32 → Int32 → Int32 → Int32 → mI → mL → rI) (x4 : Int32) (x9 : Int32) (x11 : Int32) (x12 : Int32) (s0 : Int32) : rI := if x12 = 0 then (lt (x9 + 0) (fun v13 => lt (x11 + Int32.ofInt 1) (fun v14 => k187 x4 v13 s0 v14 I L))) else (lt (x9 + 1) (fun v15 => lt (x11 + Int32.ofInt 1) (fun v16 => k187 x4 v15 s0 v16 I L)))
theorem ok_X11_councils_67_b306 {d : Nat} (hd : 6 ≤ d){I : mI} {L : mL} {k187 : Int32 → Int32 → Int32 → Int32 → mI → mL → rI} (hk187 : ∀ (x4 : Int32) (x9 : Int32) (x10 : Int32) (x11 : Int32) (I : mI) (L : mL) (o : Int32 × mI × mL), k187 x4 x9 x10 x11 I L = some o → RR mX11_councils d 187 [some (.ref 67), none, none, none, some (.int x4), none, none, none, none, some (.int x9), some (.int x10), some (.int x11), none, none] [] I L (retQ (some (.int o.1)) o.2.1 o.2.2)) (x4 : Int32) (x9 : Int32) (x11 : Int32) (x12 : Int32) (s0 : Int32) {o : Int32 × mI × mL} (h : f_X11_councils_67_b306 I L k187 x4 x9 x11 x12 s0 = some o) : RR mX11_councils d 306 [some (.ref 67), none, none, none, some (.int x4), none, none, none, none, some (.int x9), none, some (.int x11), some (.int x12), none] [.int s0] I L (retQ (some (.int o.1)) o.2.1 o.2.2) := by
  unfold f_X11_councils_67_b306 at h
  refine r_istore dX11_councils_306 (by decide) rfl ?_
  simp only [List.set_cons_zero, List.set_cons_succ]
  refine r_iload dX11_councils_308 rfl ?_
  refine r_iload dX11_councils_310 rfl ?_
  refine r_if_eq (tgt := 319) dX11_councils_312 (by decide) (fun c => ?_) (fun c => ?_)
  · rw [if_pos c] at h
    refine r_iconst (v := 0) dX11_councils_319 (by decide) ?_
    refine r_iadd dX11_councils_320 ?_
    refine r_istore dX11_councils_321 (by decide) rfl ?_
    simp only [List.set_cons_zero, List.set_cons_succ]
    replace h := lt_some h
    refine r_iinc (v := _) dX11_councils_323 rfl rfl (by decide) rfl ?_
    simp only [List.set_cons_zero, List.set_cons_succ]
    replace h := lt_some h
    refine r_goto (tgt := 187) dX11_councils_326 (by decide) ?_
    exact RR.wk (hk187 _ _ _ _ _ _ _ h) (And.intro rfl (And.intro rfl (And.intro rfl (And.intro rfl (And.intro rfl (trivial))))))
  · rw [if_neg c] at h
    refine r_iconst (v := 1) dX11_councils_315 (by decide) ?_
    refine r_goto (tgt := 320) dX11_councils_316 (by decide) ?_
    refine r_iadd dX11_councils_320 ?_
    refine r_istore dX11_councils_321 (by decide) rfl ?_
    simp only [List.set_cons_zero, List.set_cons_succ]
    replace h := lt_some h
    refine r_iinc (v := _) dX11_councils_323 rfl rfl (by decide) rfl ?_
    simp only [List.set_cons_zero, List.set_cons_succ]
    replace h := lt_some h
    refine r_goto (tgt := 187) dX11_councils_326 (by decide) ?_
    exact RR.wk (hk187 _ _ _ _ _ _ _ h) (And.intro rfl (And.intro rfl (And.intro rfl (And.intro rfl (And.intro rfl (trivial))))))
def f_X11_councils_67_b304 (I : mI) (L : mL) (k187 : Int32 → Int32 → Int32 → Int32 → mI → mL → rI) (x4 : Int32) (x9 : Int32) (x10 : Int32) (x11 : Int32) (x12 : Int32) : rI := f_X11_councils_67_b306 I L k187 x4 x9 x11 x12 x10
theorem ok_X11_councils_67_b304 {d : Nat} (hd : 6 ≤ d){I : mI} {L : mL} {k187 : Int32 → Int32 → Int32 → Int32 → mI → mL → rI} (hk187 : ∀ (x4 : Int32) (x9 : Int32) (x10 : Int32) (x11 : Int32) (I : mI) (L : mL) (o : Int32 × mI × mL), k187 x4 x9 x10 x11 I L = some o → RR mX11_councils d 187 [some (.ref 67), none, none, none, some (.int x4), none, none, none, none, some (.int x9), some (.int x10), some (.int x11), none, none] [] I L (retQ (some (.int o.1)) o.2.1 o.2.2)) (x4 : Int32) (x9 : Int32) (x10 : Int32) (x11 : Int32) (x12 : Int32) {o : Int32 × mI × mL} (h : f_X11_councils_67_b304 I L k187 x4 x9 x10 x11 x12 = some o) : RR mX11_councils d 304 [some (.ref 67), none, none, none, some (.int x4), none, none, none, none, some (.int x9), some (.int x10), some (.int x11), some (.int x12), none] [] I L (retQ (some (.int o.1)) o.2.1 o.2.2) := by
  unfold f_X11_councils_67_b304 at h
  refine r_iload dX11_councils_304 rfl ?_
  exact RR.wk (ok_X11_councils_67_b306 hd hk187 _ _ _ _ _ h) (And.intro rfl (And.intro rfl (And.intro rfl (And.intro rfl (And.intro rfl (trivial))))))
def f_X11_councils_67_b289 (I : mI) (L : mL) (k187 : Int32 → Int32 → Int32 → Int32 → mI → mL → rI) (x4 : Int32) (x9 : Int32) (x10 : Int32) (x11 : Int32) (x12 : Int32) : rI := if x12 = 0 then (f_X11_councils_67_b304 I L k187 x4 x9 x10 x11 x12) else (if x9 = 0 then (f_X11_councils_67_b306 I L k187 x4 x9 x11 x12 x11) else (f_X11_councils_67_b304 I L k187 x4 x9 x10 x11 x12))
theorem ok_X11_councils_67_b289 {d : Nat} (hd : 6 ≤ d){I : mI} {L : mL} {k187 : Int32 → Int32 → Int32 → Int32 → mI → mL → rI} (hk187 : ∀ (x4 : Int32) (x9 : Int32) (x10 : Int32) (x11 : Int32) (I : mI) (L : mL) (o : Int32 × mI × mL), k187 x4 x9 x10 x11 I L = some o → RR mX11_councils d 187 [some (.ref 67), none, none, none, some (.int x4), none, none, none, none, some (.int x9), some (.int x10), some (.int x11), none, none] [] I L (retQ (some (.int o.1)) o.2.1 o.2.2)) (x4 : Int32) (x9 : Int32) (x10 : Int32) (x11 : Int32) (x12 : Int32) {o : Int32 × mI × mL} (h : f_X11_councils_67_b289 I L k187 x4 x9 x10 x11 x12 = some o) : RR mX11_councils d 289 [some (.ref 67), none, none, none, some (.int x4), none, none, none, none, some (.int x9), some (.int x10), some (.int x11), some (.int x12), none] [] I L (retQ (some (.int o.1)) o.2.1 o.2.2) := by
  unfold f_X11_councils_67_b289 at h
  refine r_iload dX11_councils_289 rfl ?_
  refine r_if_eq (tgt := 304) dX11_councils_291 (by decide) (fun c => ?_) (fun c => ?_)
  · rw [if_pos c] at h
    exact RR.wk (ok_X11_councils_67_b304 hd hk187 _ _ _ _ _ h) (And.intro rfl (And.intro rfl (And.intro rfl (And.intro rfl (And.intro rfl (And.intro rfl (trivial)))))))
  · rw [if_neg c] at h
    refine r_iload dX11_councils_294 rfl ?_
    refine r_if_ne (tgt := 304) dX11_councils_296 (by decide) (fun c => ?_) (fun c => ?_)
    · rw [if_neg c] at h
      exact RR.wk (ok_X11_councils_67_b304 hd hk187 _ _ _ _ _ h) (And.intro rfl (And.intro rfl (And.intro rfl (And.intro rfl (And.intro rfl (And.intro rfl (trivial)))))))
    · rw [if_pos c] at h
      refine r_iload dX11_councils_299 rfl ?_
      refine r_goto (tgt := 306) dX11_councils_301 (by decide) ?_
      exact RR.wk (ok_X11_councils_67_b306 hd hk187 _ _ _ _ _ h) (And.intro rfl (And.intro rfl (And.intro rfl (And.intro rfl (And.intro rfl (trivial))))))
def f_X11_councils_67_l212 (k187 : Int32 → Int32 → Int32 → Int32 → mI → mL → rI) : Nat → Int32 → Int32 → Int32 → Int32 → Int32 → Int32 → mI → mL → rI
  | 0, _, _, _, _, _, _, _, _ => none
  | n + 1, x4, x9, x10, x11, x12, x13, I, L => if 10 ≤ x13 then (f_X11_councils_67_b289 I L k187 x4 x9 x10 x11 x12) else (if x12 = 0 then (f_X11_councils_67_b289 I L k187 x4 x9 x10 x11 x12) else (ck (inb ((10 * x13) + (x11 - x11 / 10 * 10)) 100) (ck (inb x11 100) (if (I 78 x11.toNatClampNeg) < (I 78 ((10 * x13) + (x11 - x11 / 10 * 10)).toNatClampNeg) then (lt (x13 + Int32.ofInt 1) (fun v17 => f_X11_councils_67_l212 k187 n x4 x9 x10 x11 0 v17 I L)) else (ck (inb (((x11 / 10) * 10) + x13) 100) (ck (inb x11 100) (if (I 79 x11.toNatClampNeg) < (I 79 (((x11 / 10) * 10) + x13).toNatClampNeg) then (lt (x13 + Int32.ofInt 1) (fun v18 => f_X11_councils_67_l212 k187 n x4 x9 x10 x11 0 v18 I L)) else (lt (x13 + Int32.ofInt 1) (fun v19 => f_X11_councils_67_l212 k187 n x4 x9 x10 x11 1 v19 I L)))))))))
theorem ok_X11_councils_67_l212 {d : Nat} (hd : 6 ≤ d) {k187 : Int32 → Int32 → Int32 → Int32 → mI → mL → rI} (hk187 : ∀ (x4 : Int32) (x9 : Int32) (x10 : Int32) (x11 : Int32) (I : mI) (L : mL) (o : Int32 × mI × mL), k187 x4 x9 x10 x11 I L = some o → RR mX11_councils d 187 [some (.ref 67), none, none, none, some (.int x4), none, none, none, none, some (.int x9), some (.int x10), some (.int x11), none, none] [] I L (retQ (some (.int o.1)) o.2.1 o.2.2)) : ∀ (n : Nat) (x4 : Int32) (x9 : Int32) (x10 : Int32) (x11 : Int32) (x12 : Int32) (x13 : Int32) (I : mI) (L : mL) (o : Int32 × mI × mL), f_X11_councils_67_l212 k187 n x4 x9 x10 x11 x12 x13 I L = some o → RR mX11_councils d 212 [some (.ref 67), none, none, none, some (.int x4), none, none, none, none, some (.int x9), some (.int x10), some (.int x11), some (.int x12), some (.int x13)] [] I L (retQ (some (.int o.1)) o.2.1 o.2.2) := by
  intro n
  induction n with
  | zero => intro x4 x9 x10 x11 x12 x13 I L o h; rw [f_X11_councils_67_l212] at h; cases h
  | succ n ih =>
    intro x4 x9 x10 x11 x12 x13 I L o h
    rw [f_X11_councils_67_l212] at h
    refine r_iload dX11_councils_212 rfl ?_
    refine r_bipush (v := 10) dX11_councils_214 (by decide) ?_
    refine r_icmp_ge (tgt := 289) dX11_councils_216 (by decide) (fun c => ?_) (fun c => ?_)
    · rw [if_pos c] at h
      exact RR.wk (ok_X11_councils_67_b289 hd hk187 _ _ _ _ _ h) (And.intro rfl (And.intro rfl (And.intro rfl (And.intro rfl (And.intro rfl (And.intro rfl (trivial)))))))
    · rw [if_neg c] at h
      refine r_iload dX11_councils_219 rfl ?_
      refine r_if_eq (tgt := 289) dX11_councils_221 (by decide) (fun c => ?_) (fun c => ?_)
      · rw [if_pos c] at h
        exact RR.wk (ok_X11_councils_67_b289 hd hk187 _ _ _ _ _ h) (And.intro rfl (And.intro rfl (And.intro rfl (And.intro rfl (And.intro rfl (And.intro rfl (trivial)))))))
      · rw [if_neg c] at h
        refine r_aload_n (i := 0) dX11_councils_224 rfl rfl ?_
        refine r_getR f_X11_41 dX11_councils_225 rfl rfl ?_
        refine r_bipush (v := 10) dX11_councils_228 (by decide) ?_
        refine r_iload dX11_councils_230 rfl ?_
        refine r_imul dX11_councils_232 ?_
        refine r_iload dX11_councils_233 rfl ?_
        refine r_bipush (v := 10) dX11_councils_235 (by decide) ?_
        refine r_irem dX11_councils_237 (by decide) ?_
        refine r_iadd dX11_councils_238 ?_
        obtain ⟨hb, h⟩ := ck_some h
        refine r_iald rfl (inb_vp hb) dX11_councils_239 ?_
        refine r_aload_n (i := 0) dX11_councils_240 rfl rfl ?_
        refine r_getR f_X11_41 dX11_councils_241 rfl rfl ?_
        refine r_iload dX11_councils_244 rfl ?_
        obtain ⟨hb, h⟩ := ck_some h
        refine r_iald rfl (inb_vp hb) dX11_councils_246 ?_
        refine r_icmp_gt (tgt := 280) dX11_councils_247 (by decide) (fun c => ?_) (fun c => ?_)
        · rw [if_pos c] at h
          refine r_iconst (v := 0) dX11_councils_280 (by decide) ?_
          refine r_istore dX11_councils_281 (by decide) rfl ?_
          simp only [List.set_cons_zero, List.set_cons_succ]
          refine r_iinc (v := _) dX11_councils_283 rfl rfl (by decide) rfl ?_
          simp only [List.set_cons_zero, List.set_cons_succ]
          replace h := lt_some h
          refine r_goto (tgt := 212) dX11_councils_286 (by decide) ?_
          exact RR.wk (ih _ _ _ _ _ _ _ _ _ h) (And.intro rfl (And.intro rfl (And.intro rfl (And.intro rfl (And.intro rfl (And.intro rfl (And.intro rfl (trivial))))))))
        · rw [if_neg c] at h
          refine r_aload_n (i := 0) dX11_councils_250 rfl rfl ?_
          refine r_getR f_X11_44 dX11_councils_251 rfl rfl ?_
          refine r_iload dX11_councils_254 rfl ?_
          refine r_bipush (v := 10) dX11_councils_256 (by decide) ?_
          refine r_idiv dX11_councils_258 (by decide) ?_
          refine r_bipush (v := 10) dX11_councils_259 (by decide) ?_
          refine r_imul dX11_councils_261 ?_
          refine r_iload dX11_councils_262 rfl ?_
          refine r_iadd dX11_councils_264 ?_
          obtain ⟨hb, h⟩ := ck_some h
          refine r_iald rfl (inb_vp hb) dX11_councils_265 ?_
          refine r_aload_n (i := 0) dX11_councils_266 rfl rfl ?_
          refine r_getR f_X11_44 dX11_councils_267 rfl rfl ?_
          refine r_iload dX11_councils_270 rfl ?_
          obtain ⟨hb, h⟩ := ck_some h
          refine r_iald rfl (inb_vp hb) dX11_councils_272 ?_
          refine r_icmp_gt (tgt := 280) dX11_councils_273 (by decide) (fun c => ?_) (fun c => ?_)
          · rw [if_pos c] at h
            refine r_iconst (v := 0) dX11_councils_280 (by decide) ?_
            refine r_istore dX11_councils_281 (by decide) rfl ?_
            simp only [List.set_cons_zero, List.set_cons_succ]
            refine r_iinc (v := _) dX11_councils_283 rfl rfl (by decide) rfl ?_
            simp only [List.set_cons_zero, List.set_cons_succ]
            replace h := lt_some h
            refine r_goto (tgt := 212) dX11_councils_286 (by decide) ?_
            exact RR.wk (ih _ _ _ _ _ _ _ _ _ h) (And.intro rfl (And.intro rfl (And.intro rfl (And.intro rfl (And.intro rfl (And.intro rfl (And.intro rfl (trivial))))))))
          · rw [if_neg c] at h
            refine r_iconst (v := 1) dX11_councils_276 (by decide) ?_
            refine r_goto (tgt := 281) dX11_councils_277 (by decide) ?_
            refine r_istore dX11_councils_281 (by decide) rfl ?_
            simp only [List.set_cons_zero, List.set_cons_succ]
            refine r_iinc (v := _) dX11_councils_283 rfl rfl (by decide) rfl ?_
            simp only [List.set_cons_zero, List.set_cons_succ]
            replace h := lt_some h
            refine r_goto (tgt := 212) dX11_councils_286 (by decide) ?_
            exact RR.wk (ih _ _ _ _ _ _ _ _ _ h) (And.intro rfl (And.intro rfl (And.intro rfl (And.intro rfl (And.intro rfl (And.intro rfl (And.intro rfl (trivial))))))))
def f_X11_councils_67_l187 : Nat → Int32 → Int32 → Int32 → Int32 → mI → mL → rI
  | 0, _, _, _, _, _, _ => none
  | n + 1, x4, x9, x10, x11, I, L => if 100 ≤ x11 then (if x4 = 0 then (some (x9, I, L)) else (some (x10, I, L))) else (if (x11 - x11 / 10 * 10) ≤ 0 then (f_X11_councils_67_l212 (f_X11_councils_67_l187 n) fuel x4 x9 x10 x11 0 1 I L) else (f_X11_councils_67_l212 (f_X11_councils_67_l187 n) fuel x4 x9 x10 x11 1 1 I L))
theorem ok_X11_councils_67_l187 {d : Nat} (hd : 6 ≤ d) : ∀ (n : Nat) (x4 : Int32) (x9 : Int32) (x10 : Int32) (x11 : Int32) (I : mI) (L : mL) (o : Int32 × mI × mL), f_X11_councils_67_l187 n x4 x9 x10 x11 I L = some o → RR mX11_councils d 187 [some (.ref 67), none, none, none, some (.int x4), none, none, none, none, some (.int x9), some (.int x10), some (.int x11), none, none] [] I L (retQ (some (.int o.1)) o.2.1 o.2.2) := by
  intro n
  induction n with
  | zero => intro x4 x9 x10 x11 I L o h; rw [f_X11_councils_67_l187] at h; cases h
  | succ n ih =>
    intro x4 x9 x10 x11 I L o h
    rw [f_X11_councils_67_l187] at h
    refine r_iload dX11_councils_187 rfl ?_
    refine r_bipush (v := 100) dX11_councils_189 (by decide) ?_
    refine r_icmp_ge (tgt := 329) dX11_councils_191 (by decide) (fun c => ?_) (fun c => ?_)
    · rw [if_pos c] at h
      refine r_iload dX11_councils_329 rfl ?_
      refine r_if_ne (tgt := 339) dX11_councils_331 (by decide) (fun c => ?_) (fun c => ?_)
      · rw [if_neg c] at h
        refine r_iload dX11_councils_339 rfl ?_
        refine r_iret (by first | rfl | decide) dX11_councils_341 ?_
        obtain rfl := Option.some.inj h
        exact ⟨rfl, rfl, rfl⟩
      · rw [if_pos c] at h
        refine r_iload dX11_councils_334 rfl ?_
        refine r_goto (tgt := 341) dX11_councils_336 (by decide) ?_
        refine r_iret (by first | rfl | decide) dX11_councils_341 ?_
        obtain rfl := Option.some.inj h
        exact ⟨rfl, rfl, rfl⟩
    · rw [if_neg c] at h
      refine r_iload dX11_councils_194 rfl ?_
      refine r_bipush (v := 10) dX11_councils_196 (by decide) ?_
      refine r_irem dX11_councils_198 (by decide) ?_
      refine r_if_le (tgt := 206) dX11_councils_199 (by decide) (fun c => ?_) (fun c => ?_)
      · rw [if_pos c] at h
        refine r_iconst (v := 0) dX11_councils_206 (by decide) ?_
        refine r_istore dX11_councils_207 (by decide) rfl ?_
        simp only [List.set_cons_zero, List.set_cons_succ]
        refine r_iconst (v := 1) dX11_councils_209 (by decide) ?_
        refine r_istore dX11_councils_210 (by decide) rfl ?_
        simp only [List.set_cons_zero, List.set_cons_succ]
        exact RR.wk (ok_X11_councils_67_l212 hd ih _ _ _ _ _ _ _ _ _ _ h) (And.intro rfl (And.intro rfl (And.intro rfl (And.intro rfl (And.intro rfl (And.intro rfl (And.intro rfl (trivial))))))))
      · rw [if_neg c] at h
        refine r_iconst (v := 1) dX11_councils_202 (by decide) ?_
        refine r_goto (tgt := 207) dX11_councils_203 (by decide) ?_
        refine r_istore dX11_councils_207 (by decide) rfl ?_
        simp only [List.set_cons_zero, List.set_cons_succ]
        refine r_iconst (v := 1) dX11_councils_209 (by decide) ?_
        refine r_istore dX11_councils_210 (by decide) rfl ?_
        simp only [List.set_cons_zero, List.set_cons_succ]
        exact RR.wk (ok_X11_councils_67_l212 hd ih _ _ _ _ _ _ _ _ _ _ h) (And.intro rfl (And.intro rfl (And.intro rfl (And.intro rfl (And.intro rfl (And.intro rfl (And.intro rfl (trivial))))))))
def f_X11_councils_67_l87 : Nat → Int32 → Int32 → Int32 → Int32 → Int32 → Int32 → Int32 → Int32 → Int32 → mI → mL → rI
  | 0, _, _, _, _, _, _, _, _, _, _, _ => none
  | n + 1, x1, x2, x3, x4, x5, x6, x7, x8, x9, I, L => if 100 ≤ x9 then (ck (inb x5 135) (lt (uI I 68 x5.toNatClampNeg x7) (fun M11 => ck (inb x6 135) (lt (uI M11 68 x6.toNatClampNeg x8) (fun M12 => f_X11_councils_67_l187 fuel x4 0 (-4) 11 M12 L))))) else (if (x9 - x9 / 10 * 10) ≤ 0 then (lt (x9 + Int32.ofInt 1) (fun v20 => f_X11_councils_67_l87 n x1 x2 x3 x4 x5 x6 x7 x8 v20 I L)) else (ck (inb x5 135) (lt (uI I 68 x5.toNatClampNeg (x9 / 10)) (fun M21 => ck (inb x6 135) (lt (uI M21 68 x6.toNatClampNeg (x9 - x9 / 10 * 10)) (fun M22 => bndI (f_X11_takeOf_67 M22 L x1 x3) (fun r23 Ir23 Lr23 => ck (inb x9 100) (lt (uI Ir23 78 x9.toNatClampNeg r23) (fun M25 => bndI (f_X11_takeOf_67 M25 Lr23 x2 x3) (fun r26 Ir26 Lr26 => ck (inb x9 100) (lt (uI Ir26 79 x9.toNatClampNeg r26) (fun M28 => lt (x9 + Int32.ofInt 1) (fun v29 => f_X11_councils_67_l87 n x1 x2 x3 x4 x5 x6 x7 x8 v29 M28 Lr26)))))))))))))
theorem ok_X11_councils_67_l87 {d : Nat} (hd : 6 ≤ d) : ∀ (n : Nat) (x1 : Int32) (x2 : Int32) (x3 : Int32) (x4 : Int32) (x5 : Int32) (x6 : Int32) (x7 : Int32) (x8 : Int32) (x9 : Int32) (I : mI) (L : mL) (o : Int32 × mI × mL), f_X11_councils_67_l87 n x1 x2 x3 x4 x5 x6 x7 x8 x9 I L = some o → RR mX11_councils d 87 [some (.ref 67), some (.int x1), some (.int x2), some (.int x3), some (.int x4), some (.int x5), some (.int x6), some (.int x7), some (.int x8), some (.int x9), none, none, none, none] [] I L (retQ (some (.int o.1)) o.2.1 o.2.2) := by
  intro n
  induction n with
  | zero => intro x1 x2 x3 x4 x5 x6 x7 x8 x9 I L o h; rw [f_X11_councils_67_l87] at h; cases h
  | succ n ih =>
    intro x1 x2 x3 x4 x5 x6 x7 x8 x9 I L o h
    rw [f_X11_councils_67_l87] at h
    refine r_iload dX11_councils_87 rfl ?_
    refine r_bipush (v := 100) dX11_councils_89 (by decide) ?_
    refine r_icmp_ge (tgt := 158) dX11_councils_91 (by decide) (fun c => ?_) (fun c => ?_)
    · rw [if_pos c] at h
      refine r_aload_n (i := 0) dX11_councils_158 rfl rfl ?_
      refine r_getR f_X11_7 dX11_councils_159 rfl rfl ?_
      refine r_iload dX11_councils_162 rfl ?_
      refine r_iload dX11_councils_164 rfl ?_
      obtain ⟨hb, h⟩ := ck_some h
      refine r_iast rfl (inb_vp hb) dX11_councils_166 ?_
      replace h := lt_some h
      refine r_aload_n (i := 0) dX11_councils_167 rfl rfl ?_
      refine r_getR f_X11_7 dX11_councils_168 rfl rfl ?_
      refine r_iload dX11_councils_171 rfl ?_
      refine r_iload dX11_councils_173 rfl ?_
      obtain ⟨hb, h⟩ := ck_some h
      refine r_iast rfl (inb_vp hb) dX11_councils_175 ?_
      replace h := lt_some h
      refine r_iconst (v := 0) dX11_councils_176 (by decide) ?_
      refine r_istore dX11_councils_177 (by decide) rfl ?_
      simp only [List.set_cons_zero, List.set_cons_succ]
      refine r_bipush (v := (-4)) dX11_councils_179 (by decide) ?_
      refine r_istore dX11_councils_181 (by decide) rfl ?_
      simp only [List.set_cons_zero, List.set_cons_succ]
      refine r_bipush (v := 11) dX11_councils_183 (by decide) ?_
      refine r_istore dX11_councils_185 (by decide) rfl ?_
      simp only [List.set_cons_zero, List.set_cons_succ]
      exact RR.wk (ok_X11_councils_67_l187 hd _ _ _ _ _ _ _ _ h) (And.intro rfl (And.intro rfl (And.intro rfl (And.intro rfl (And.intro rfl (trivial))))))
    · rw [if_neg c] at h
      refine r_iload dX11_councils_94 rfl ?_
      refine r_bipush (v := 10) dX11_councils_96 (by decide) ?_
      refine r_irem dX11_councils_98 (by decide) ?_
      refine r_if_le (tgt := 152) dX11_councils_99 (by decide) (fun c => ?_) (fun c => ?_)
      · rw [if_pos c] at h
        refine r_iinc (v := _) dX11_councils_152 rfl rfl (by decide) rfl ?_
        simp only [List.set_cons_zero, List.set_cons_succ]
        replace h := lt_some h
        refine r_goto (tgt := 87) dX11_councils_155 (by decide) ?_
        exact RR.wk (ih _ _ _ _ _ _ _ _ _ _ _ _ h) (And.intro rfl (And.intro rfl (And.intro rfl (And.intro rfl (And.intro rfl (And.intro rfl (And.intro rfl (And.intro rfl (And.intro rfl (And.intro rfl (trivial)))))))))))
      · rw [if_neg c] at h
        refine r_aload_n (i := 0) dX11_councils_102 rfl rfl ?_
        refine r_getR f_X11_7 dX11_councils_103 rfl rfl ?_
        refine r_iload dX11_councils_106 rfl ?_
        refine r_iload dX11_councils_108 rfl ?_
        refine r_bipush (v := 10) dX11_councils_110 (by decide) ?_
        refine r_idiv dX11_councils_112 (by decide) ?_
        obtain ⟨hb, h⟩ := ck_some h
        refine r_iast rfl (inb_vp hb) dX11_councils_113 ?_
        replace h := lt_some h
        refine r_aload_n (i := 0) dX11_councils_114 rfl rfl ?_
        refine r_getR f_X11_7 dX11_councils_115 rfl rfl ?_
        refine r_iload dX11_councils_118 rfl ?_
        refine r_iload dX11_councils_120 rfl ?_
        refine r_bipush (v := 10) dX11_councils_122 (by decide) ?_
        refine r_irem dX11_councils_124 (by decide) ?_
        obtain ⟨hb, h⟩ := ck_some h
        refine r_iast rfl (inb_vp hb) dX11_councils_125 ?_
        replace h := lt_some h
        refine r_aload_n (i := 0) dX11_councils_126 rfl rfl ?_
        refine r_getR f_X11_41 dX11_councils_127 rfl rfl ?_
        refine r_iload dX11_councils_130 rfl ?_
        refine r_aload_n (i := 0) dX11_councils_132 rfl rfl ?_
        refine r_iload_n (i := 1) dX11_councils_133 rfl rfl ?_
        refine r_iload_n (i := 3) dX11_councils_134 rfl rfl ?_
        obtain ⟨⟨r23, Ir23, Lr23⟩, hr, h⟩ := bind_some h
        refine r_V (d' := 5) k_X11_191 dX11_councils_135 (by omega) rfl rfl rfl (Nat.le_of_ble_eq_true rfl) (Nat.le_of_ble_eq_true rfl) (ok_X11_takeOf_67 (Nat.le_refl _) hr) (fun v I' L' hq => ?_)
        obtain ⟨rfl, rfl, rfl⟩ := hq
        simp only [Option.toList_some, Option.toList_none, List.drop_succ_cons, List.drop_zero, List.drop_nil, List.cons_append, List.nil_append]
        dsimp only at h
        obtain ⟨hb, h⟩ := ck_some h
        refine r_iast rfl (inb_vp hb) dX11_councils_138 ?_
        replace h := lt_some h
        refine r_aload_n (i := 0) dX11_councils_139 rfl rfl ?_
        refine r_getR f_X11_44 dX11_councils_140 rfl rfl ?_
        refine r_iload dX11_councils_143 rfl ?_
        refine r_aload_n (i := 0) dX11_councils_145 rfl rfl ?_
        refine r_iload_n (i := 2) dX11_councils_146 rfl rfl ?_
        refine r_iload_n (i := 3) dX11_councils_147 rfl rfl ?_
        obtain ⟨⟨r26, Ir26, Lr26⟩, hr, h⟩ := bind_some h
        refine r_V (d' := 5) k_X11_191 dX11_councils_148 (by omega) rfl rfl rfl (Nat.le_of_ble_eq_true rfl) (Nat.le_of_ble_eq_true rfl) (ok_X11_takeOf_67 (Nat.le_refl _) hr) (fun v I' L' hq => ?_)
        obtain ⟨rfl, rfl, rfl⟩ := hq
        simp only [Option.toList_some, Option.toList_none, List.drop_succ_cons, List.drop_zero, List.drop_nil, List.cons_append, List.nil_append]
        dsimp only at h
        obtain ⟨hb, h⟩ := ck_some h
        refine r_iast rfl (inb_vp hb) dX11_councils_151 ?_
        replace h := lt_some h
        refine r_iinc (v := _) dX11_councils_152 rfl rfl (by decide) rfl ?_
        simp only [List.set_cons_zero, List.set_cons_succ]
        replace h := lt_some h
        refine r_goto (tgt := 87) dX11_councils_155 (by decide) ?_
        exact RR.wk (ih _ _ _ _ _ _ _ _ _ _ _ _ h) (And.intro rfl (And.intro rfl (And.intro rfl (And.intro rfl (And.intro rfl (And.intro rfl (And.intro rfl (And.intro rfl (And.intro rfl (And.intro rfl (trivial)))))))))))
def f_X11_councils_67 (I : mI) (L : mL) (a1 : Int32) (a2 : Int32) (a3 : Int32) (a4 : Int32) : rI := (f_X11_isParish_67 I L a1).bind (fun r1 => if r1 = 0 then (some ((-1), I, L)) else ((f_X11_isParish_67 I L a2).bind (fun r2 => if r2 = 0 then (some ((-1), I, L)) else (if a1 = a2 then (some ((-1), I, L)) else ((f_X11_isCart_67 I L a3).bind (fun r3 => if r3 = 0 then (some ((-1), I, L)) else ((f_X11_isTwo I L a4).bind (fun r4 => if r4 = 0 then (some ((-1), I, L)) else ((f_X11_season_67 I L).bind (fun r5 => lt ((14 + (4 * a1)) + r5) (fun v6 => (f_X11_season_67 I L).bind (fun r7 => lt ((14 + (4 * a2)) + r7) (fun v8 => ck (inb v6 135) (lt (I 68 v6.toNatClampNeg) (fun v9 => ck (inb v8 135) (lt (I 68 v8.toNatClampNeg) (fun v10 => f_X11_councils_67_l87 fuel a1 a2 a3 a4 v6 v8 v9 v10 11 I L)))))))))))))))))
theorem ok_X11_councils_67 {d : Nat} (hd : 6 ≤ d) {I : mI} {L : mL} {a1 : Int32} {a2 : Int32} {a3 : Int32} {a4 : Int32} {o : Int32 × mI × mL} (h : f_X11_councils_67 I L a1 a2 a3 a4 = some o) : RR mX11_councils d 0 [some (.ref 67), some (.int a1), some (.int a2), some (.int a3), some (.int a4), none, none, none, none, none, none, none, none, none] [] I L (retQ (some (.int o.1)) o.2.1 o.2.2) := by
  unfold f_X11_councils_67 at h
  refine r_aload_n (i := 0) dX11_councils_0 rfl rfl ?_
  refine r_iload_n (i := 1) dX11_councils_1 rfl rfl ?_
  obtain ⟨r1, hr, h⟩ := bind_some h
  refine r_V (d' := 1) k_X11_68 dX11_councils_2 (by omega) rfl rfl rfl (Nat.le_of_ble_eq_true rfl) (Nat.le_of_ble_eq_true rfl) (ok_X11_isParish_67 (Nat.le_refl _) hr) (fun v I' L' hq => ?_)
  obtain ⟨rfl, rfl, rfl⟩ := hq
  simp only [Option.toList_some, Option.toList_none, List.drop_succ_cons, List.drop_zero, List.drop_nil, List.cons_append, List.nil_append]
  refine r_if_eq (tgt := 37) dX11_councils_5 (by decide) (fun c => ?_) (fun c => ?_)
  · rw [if_pos c] at h
    refine r_iconst (v := (-1)) dX11_councils_37 (by decide) ?_
    refine r_iret (by first | rfl | decide) dX11_councils_38 ?_
    obtain rfl := Option.some.inj h
    exact ⟨rfl, rfl, rfl⟩
  · rw [if_neg c] at h
    refine r_aload_n (i := 0) dX11_councils_8 rfl rfl ?_
    refine r_iload_n (i := 2) dX11_councils_9 rfl rfl ?_
    obtain ⟨r2, hr, h⟩ := bind_some h
    refine r_V (d' := 1) k_X11_68 dX11_councils_10 (by omega) rfl rfl rfl (Nat.le_of_ble_eq_true rfl) (Nat.le_of_ble_eq_true rfl) (ok_X11_isParish_67 (Nat.le_refl _) hr) (fun v I' L' hq => ?_)
    obtain ⟨rfl, rfl, rfl⟩ := hq
    simp only [Option.toList_some, Option.toList_none, List.drop_succ_cons, List.drop_zero, List.drop_nil, List.cons_append, List.nil_append]
    refine r_if_eq (tgt := 37) dX11_councils_13 (by decide) (fun c => ?_) (fun c => ?_)
    · rw [if_pos c] at h
      refine r_iconst (v := (-1)) dX11_councils_37 (by decide) ?_
      refine r_iret (by first | rfl | decide) dX11_councils_38 ?_
      obtain rfl := Option.some.inj h
      exact ⟨rfl, rfl, rfl⟩
    · rw [if_neg c] at h
      refine r_iload_n (i := 1) dX11_councils_16 rfl rfl ?_
      refine r_iload_n (i := 2) dX11_councils_17 rfl rfl ?_
      refine r_icmp_eq (tgt := 37) dX11_councils_18 (by decide) (fun c => ?_) (fun c => ?_)
      · rw [if_pos c] at h
        refine r_iconst (v := (-1)) dX11_councils_37 (by decide) ?_
        refine r_iret (by first | rfl | decide) dX11_councils_38 ?_
        obtain rfl := Option.some.inj h
        exact ⟨rfl, rfl, rfl⟩
      · rw [if_neg c] at h
        refine r_aload_n (i := 0) dX11_councils_21 rfl rfl ?_
        refine r_iload_n (i := 3) dX11_councils_22 rfl rfl ?_
        obtain ⟨r3, hr, h⟩ := bind_some h
        refine r_V (d' := 1) k_X11_97 dX11_councils_23 (by omega) rfl rfl rfl (Nat.le_of_ble_eq_true rfl) (Nat.le_of_ble_eq_true rfl) (ok_X11_isCart_67 (Nat.le_refl _) hr) (fun v I' L' hq => ?_)
        obtain ⟨rfl, rfl, rfl⟩ := hq
        simp only [Option.toList_some, Option.toList_none, List.drop_succ_cons, List.drop_zero, List.drop_nil, List.cons_append, List.nil_append]
        refine r_if_eq (tgt := 37) dX11_councils_26 (by decide) (fun c => ?_) (fun c => ?_)
        · rw [if_pos c] at h
          refine r_iconst (v := (-1)) dX11_councils_37 (by decide) ?_
          refine r_iret (by first | rfl | decide) dX11_councils_38 ?_
          obtain rfl := Option.some.inj h
          exact ⟨rfl, rfl, rfl⟩
        · rw [if_neg c] at h
          refine r_iload dX11_councils_29 rfl ?_
          obtain ⟨r4, hr, h⟩ := bind_some h
          refine r_S (d' := 1) k_X11_179 dX11_councils_31 (by omega) rfl (Nat.le_of_ble_eq_true rfl) (Nat.le_of_ble_eq_true rfl) (ok_X11_isTwo (Nat.le_refl _) hr) (fun v I' L' hq => ?_)
          obtain ⟨rfl, rfl, rfl⟩ := hq
          simp only [Option.toList_some, Option.toList_none, List.drop_succ_cons, List.drop_zero, List.drop_nil, List.cons_append, List.nil_append]
          refine r_if_ne (tgt := 39) dX11_councils_34 (by decide) (fun c => ?_) (fun c => ?_)
          · rw [if_neg c] at h
            refine r_bipush (v := 14) dX11_councils_39 (by decide) ?_
            refine r_iconst (v := 4) dX11_councils_41 (by decide) ?_
            refine r_iload_n (i := 1) dX11_councils_42 rfl rfl ?_
            refine r_imul dX11_councils_43 ?_
            refine r_iadd dX11_councils_44 ?_
            refine r_aload_n (i := 0) dX11_councils_45 rfl rfl ?_
            obtain ⟨r5, hr, h⟩ := bind_some h
            refine r_V (d' := 0) k_X11_54 dX11_councils_46 (by omega) rfl rfl rfl (Nat.le_of_ble_eq_true rfl) (Nat.le_of_ble_eq_true rfl) (ok_X11_season_67 (Nat.le_refl _) hr) (fun v I' L' hq => ?_)
            obtain ⟨rfl, rfl, rfl⟩ := hq
            simp only [Option.toList_some, Option.toList_none, List.drop_succ_cons, List.drop_zero, List.drop_nil, List.cons_append, List.nil_append]
            refine r_iadd dX11_councils_49 ?_
            refine r_istore dX11_councils_50 (by decide) rfl ?_
            simp only [List.set_cons_zero, List.set_cons_succ]
            replace h := lt_some h
            refine r_bipush (v := 14) dX11_councils_52 (by decide) ?_
            refine r_iconst (v := 4) dX11_councils_54 (by decide) ?_
            refine r_iload_n (i := 2) dX11_councils_55 rfl rfl ?_
            refine r_imul dX11_councils_56 ?_
            refine r_iadd dX11_councils_57 ?_
            refine r_aload_n (i := 0) dX11_councils_58 rfl rfl ?_
            obtain ⟨r7, hr, h⟩ := bind_some h
            refine r_V (d' := 0) k_X11_54 dX11_councils_59 (by omega) rfl rfl rfl (Nat.le_of_ble_eq_true rfl) (Nat.le_of_ble_eq_true rfl) (ok_X11_season_67 (Nat.le_refl _) hr) (fun v I' L' hq => ?_)
            obtain ⟨rfl, rfl, rfl⟩ := hq
            simp only [Option.toList_some, Option.toList_none, List.drop_succ_cons, List.drop_zero, List.drop_nil, List.cons_append, List.nil_append]
            refine r_iadd dX11_councils_62 ?_
            refine r_istore dX11_councils_63 (by decide) rfl ?_
            simp only [List.set_cons_zero, List.set_cons_succ]
            replace h := lt_some h
            refine r_aload_n (i := 0) dX11_councils_65 rfl rfl ?_
            refine r_getR f_X11_7 dX11_councils_66 rfl rfl ?_
            refine r_iload dX11_councils_69 rfl ?_
            obtain ⟨hb, h⟩ := ck_some h
            refine r_iald rfl (inb_vp hb) dX11_councils_71 ?_
            refine r_istore dX11_councils_72 (by decide) rfl ?_
            simp only [List.set_cons_zero, List.set_cons_succ]
            replace h := lt_some h
            refine r_aload_n (i := 0) dX11_councils_74 rfl rfl ?_
            refine r_getR f_X11_7 dX11_councils_75 rfl rfl ?_
            refine r_iload dX11_councils_78 rfl ?_
            obtain ⟨hb, h⟩ := ck_some h
            refine r_iald rfl (inb_vp hb) dX11_councils_80 ?_
            refine r_istore dX11_councils_81 (by decide) rfl ?_
            simp only [List.set_cons_zero, List.set_cons_succ]
            replace h := lt_some h
            refine r_bipush (v := 11) dX11_councils_83 (by decide) ?_
            refine r_istore dX11_councils_85 (by decide) rfl ?_
            simp only [List.set_cons_zero, List.set_cons_succ]
            exact RR.wk (ok_X11_councils_67_l87 hd _ _ _ _ _ _ _ _ _ _ _ _ _ h) (And.intro rfl (And.intro rfl (And.intro rfl (And.intro rfl (And.intro rfl (And.intro rfl (And.intro rfl (And.intro rfl (And.intro rfl (And.intro rfl (trivial)))))))))))
          · rw [if_pos c] at h
            refine r_iconst (v := (-1)) dX11_councils_37 (by decide) ?_
            refine r_iret (by first | rfl | decide) dX11_councils_38 ?_
            obtain rfl := Option.some.inj h
            exact ⟨rfl, rfl, rfl⟩
def f_X11_worthOf_67_l5 : Nat → Int32 → Int32 → Int32 → Int32 → mI → mL → rI
  | 0, _, _, _, _, _, _ => none
  | n + 1, x1, x2, x3, x4, I, L => if (I 68 (3 : Int32).toNatClampNeg) ≤ x4 then (some (x3, I, L)) else (bndI (f_X11_marketOf_67 I L x4 x2 x1) (fun r1 Ir1 Lr1 => if r1 = (-4) then (lt (x3 + 0) (fun v6 => lt (x4 + Int32.ofInt 1) (fun v7 => f_X11_worthOf_67_l5 n x1 x2 v6 v7 Ir1 Lr1))) else ((f_X11_netOf_67 Ir1 Lr1 x4 r1).bind (fun r3 => lt (x3 + r3) (fun v4 => lt (x4 + Int32.ofInt 1) (fun v5 => f_X11_worthOf_67_l5 n x1 x2 v4 v5 Ir1 Lr1))))))
theorem ok_X11_worthOf_67_l5 {d : Nat} (hd : 5 ≤ d) : ∀ (n : Nat) (x1 : Int32) (x2 : Int32) (x3 : Int32) (x4 : Int32) (I : mI) (L : mL) (o : Int32 × mI × mL), f_X11_worthOf_67_l5 n x1 x2 x3 x4 I L = some o → RR mX11_worthOf d 5 [some (.ref 67), some (.int x1), some (.int x2), some (.int x3), some (.int x4), none] [] I L (retQ (some (.int o.1)) o.2.1 o.2.2) := by
  intro n
  induction n with
  | zero => intro x1 x2 x3 x4 I L o h; rw [f_X11_worthOf_67_l5] at h; cases h
  | succ n ih =>
    intro x1 x2 x3 x4 I L o h
    rw [f_X11_worthOf_67_l5] at h
    refine r_iload dX11_worthOf_5 rfl ?_
    refine r_aload_n (i := 0) dX11_worthOf_7 rfl rfl ?_
    refine r_getR f_X11_7 dX11_worthOf_8 rfl rfl ?_
    refine r_iconst (v := 3) dX11_worthOf_11 (by decide) ?_
    refine r_iald rfl (vp_lit (by decide)) dX11_worthOf_12 ?_
    refine r_icmp_ge (tgt := 54) dX11_worthOf_13 (by decide) (fun c => ?_) (fun c => ?_)
    · rw [if_pos c] at h
      refine r_iload_n (i := 3) dX11_worthOf_54 rfl rfl ?_
      refine r_iret (by first | rfl | decide) dX11_worthOf_55 ?_
      obtain rfl := Option.some.inj h
      exact ⟨rfl, rfl, rfl⟩
    · rw [if_neg c] at h
      refine r_aload_n (i := 0) dX11_worthOf_16 rfl rfl ?_
      refine r_iload dX11_worthOf_17 rfl ?_
      refine r_iload_n (i := 2) dX11_worthOf_19 rfl rfl ?_
      refine r_iload_n (i := 1) dX11_worthOf_20 rfl rfl ?_
      obtain ⟨⟨r1, Ir1, Lr1⟩, hr, h⟩ := bind_some h
      refine r_V (d' := 4) k_X11_176 dX11_worthOf_21 (by omega) rfl rfl rfl (Nat.le_of_ble_eq_true rfl) (Nat.le_of_ble_eq_true rfl) (ok_X11_marketOf_67 (Nat.le_refl _) hr) (fun v I' L' hq => ?_)
      obtain ⟨rfl, rfl, rfl⟩ := hq
      simp only [Option.toList_some, Option.toList_none, List.drop_succ_cons, List.drop_zero, List.drop_nil, List.cons_append, List.nil_append]
      dsimp only at h
      refine r_istore dX11_worthOf_24 (by decide) rfl ?_
      simp only [List.set_cons_zero, List.set_cons_succ]
      refine r_iload_n (i := 3) dX11_worthOf_26 rfl rfl ?_
      refine r_iload dX11_worthOf_27 rfl ?_
      refine r_bipush (v := (-4)) dX11_worthOf_29 (by decide) ?_
      refine r_icmp_ne (tgt := 38) dX11_worthOf_31 (by decide) (fun c => ?_) (fun c => ?_)
      · rw [if_neg c] at h
        refine r_aload_n (i := 0) dX11_worthOf_38 rfl rfl ?_
        refine r_iload dX11_worthOf_39 rfl ?_
        refine r_iload dX11_worthOf_41 rfl ?_
        obtain ⟨r3, hr, h⟩ := bind_some h
        refine r_V (d' := 2) k_X11_172 dX11_worthOf_43 (by omega) rfl rfl rfl (Nat.le_of_ble_eq_true rfl) (Nat.le_of_ble_eq_true rfl) (ok_X11_netOf_67 (Nat.le_refl _) hr) (fun v I' L' hq => ?_)
        obtain ⟨rfl, rfl, rfl⟩ := hq
        simp only [Option.toList_some, Option.toList_none, List.drop_succ_cons, List.drop_zero, List.drop_nil, List.cons_append, List.nil_append]
        refine r_iadd dX11_worthOf_46 ?_
        refine r_istore_n (i := 3) dX11_worthOf_47 rfl (by decide) rfl ?_
        simp only [List.set_cons_zero, List.set_cons_succ]
        replace h := lt_some h
        refine r_iinc (v := _) dX11_worthOf_48 rfl rfl (by decide) rfl ?_
        simp only [List.set_cons_zero, List.set_cons_succ]
        replace h := lt_some h
        refine r_goto (tgt := 5) dX11_worthOf_51 (by decide) ?_
        exact RR.wk (ih _ _ _ _ _ _ _ h) (And.intro rfl (And.intro rfl (And.intro rfl (And.intro rfl (And.intro rfl (trivial))))))
      · rw [if_pos c] at h
        refine r_iconst (v := 0) dX11_worthOf_34 (by decide) ?_
        refine r_goto (tgt := 46) dX11_worthOf_35 (by decide) ?_
        refine r_iadd dX11_worthOf_46 ?_
        refine r_istore_n (i := 3) dX11_worthOf_47 rfl (by decide) rfl ?_
        simp only [List.set_cons_zero, List.set_cons_succ]
        replace h := lt_some h
        refine r_iinc (v := _) dX11_worthOf_48 rfl rfl (by decide) rfl ?_
        simp only [List.set_cons_zero, List.set_cons_succ]
        replace h := lt_some h
        refine r_goto (tgt := 5) dX11_worthOf_51 (by decide) ?_
        exact RR.wk (ih _ _ _ _ _ _ _ h) (And.intro rfl (And.intro rfl (And.intro rfl (And.intro rfl (And.intro rfl (trivial))))))
def f_X11_worthOf_67 (I : mI) (L : mL) (a1 : Int32) (a2 : Int32) : rI := f_X11_worthOf_67_l5 fuel a1 a2 0 0 I L
theorem ok_X11_worthOf_67 {d : Nat} (hd : 5 ≤ d) {I : mI} {L : mL} {a1 : Int32} {a2 : Int32} {o : Int32 × mI × mL} (h : f_X11_worthOf_67 I L a1 a2 = some o) : RR mX11_worthOf d 0 [some (.ref 67), some (.int a1), some (.int a2), none, none, none] [] I L (retQ (some (.int o.1)) o.2.1 o.2.2) := by
  unfold f_X11_worthOf_67 at h
  refine r_iconst (v := 0) dX11_worthOf_0 (by decide) ?_
  refine r_istore_n (i := 3) dX11_worthOf_1 rfl (by decide) rfl ?_
  simp only [List.set_cons_zero, List.set_cons_succ]
  refine r_iconst (v := 0) dX11_worthOf_2 (by decide) ?_
  refine r_istore dX11_worthOf_3 (by decide) rfl ?_
  simp only [List.set_cons_zero, List.set_cons_succ]
  exact RR.wk (ok_X11_worthOf_67_l5 hd _ _ _ _ _ _ _ _ h) (And.intro rfl (And.intro rfl (And.intro rfl (And.intro rfl (And.intro rfl (trivial))))))
def f_X11_isSet_67 (I : mI) (L : mL) (a1 : Int32) : Option Int32 := (f_X11_in I L (a1.toInt64) 0 ((((1 : Int32) <<< ((I 68 (0 : Int32).toNatClampNeg) &&& 31)) - 1).toInt64)).bind (fun r1 => ck (isb r1) (some r1))
theorem ok_X11_isSet_67 {d : Nat} (hd : 1 ≤ d) {I : mI} {L : mL} {a1 : Int32} {o : Int32} (h : f_X11_isSet_67 I L a1 = some o) : RR mX11_isSet d 0 [some (.ref 67), some (.int a1)] [] I L (retQ (some (.int o)) I L) := by
  unfold f_X11_isSet_67 at h
  refine r_iload_n (i := 1) dX11_isSet_0 rfl rfl ?_
  refine r_i2l dX11_isSet_1 ?_
  refine r_lconst (v := 0) dX11_isSet_2 (by decide) ?_
  refine r_iconst (v := 1) dX11_isSet_3 (by decide) ?_
  refine r_aload_n (i := 0) dX11_isSet_4 rfl rfl ?_
  refine r_getR f_X11_7 dX11_isSet_5 rfl rfl ?_
  refine r_iconst (v := 0) dX11_isSet_8 (by decide) ?_
  refine r_iald rfl (vp_lit (by decide)) dX11_isSet_9 ?_
  refine r_ishl dX11_isSet_10 ?_
  refine r_iconst (v := 1) dX11_isSet_11 (by decide) ?_
  refine r_isub dX11_isSet_12 ?_
  refine r_i2l dX11_isSet_13 ?_
  obtain ⟨r1, hr, h⟩ := bind_some h
  refine r_S (d' := 0) k_X11_50 dX11_isSet_14 (by omega) rfl (Nat.le_of_ble_eq_true rfl) (Nat.le_of_ble_eq_true rfl) (ok_X11_in (Nat.le_refl _) hr) (fun v I' L' hq => ?_)
  obtain ⟨rfl, rfl, rfl⟩ := hq
  simp only [Option.toList_some, Option.toList_none, List.drop_succ_cons, List.drop_zero, List.drop_nil, List.cons_append, List.nil_append]
  obtain ⟨hb, h⟩ := ck_some h
  refine r_iret (isb_nar hb) dX11_isSet_17 ?_
  obtain rfl := Option.some.inj h
  exact ⟨rfl, rfl, rfl⟩
def f_X11_league_67 (I : mI) (L : mL) (a1 : Int32) (a2 : Int32) : rI := (f_X11_isSet_67 I L a1).bind (fun r1 => if r1 = 0 then (some ((-1000001), I, L)) else ((f_X11_isCart_67 I L a2).bind (fun r2 => if r2 = 0 then (some ((-1000001), I, L)) else (bndI (f_X11_worthOf_67 I L a1 a2) (fun r3 Ir3 Lr3 => bndI (f_X11_worthOf_67 Ir3 Lr3 0 a2) (fun r5 Ir5 Lr5 => some (r3 - r5, Ir5, Lr5)))))))
theorem ok_X11_league_67 {d : Nat} (hd : 6 ≤ d) {I : mI} {L : mL} {a1 : Int32} {a2 : Int32} {o : Int32 × mI × mL} (h : f_X11_league_67 I L a1 a2 = some o) : RR mX11_league d 0 [some (.ref 67), some (.int a1), some (.int a2)] [] I L (retQ (some (.int o.1)) o.2.1 o.2.2) := by
  unfold f_X11_league_67 at h
  refine r_aload_n (i := 0) dX11_league_0 rfl rfl ?_
  refine r_iload_n (i := 1) dX11_league_1 rfl rfl ?_
  obtain ⟨r1, hr, h⟩ := bind_some h
  refine r_V (d' := 1) k_X11_194 dX11_league_2 (by omega) rfl rfl rfl (Nat.le_of_ble_eq_true rfl) (Nat.le_of_ble_eq_true rfl) (ok_X11_isSet_67 (Nat.le_refl _) hr) (fun v I' L' hq => ?_)
  obtain ⟨rfl, rfl, rfl⟩ := hq
  simp only [Option.toList_some, Option.toList_none, List.drop_succ_cons, List.drop_zero, List.drop_nil, List.cons_append, List.nil_append]
  refine r_if_eq (tgt := 32) dX11_league_5 (by decide) (fun c => ?_) (fun c => ?_)
  · rw [if_pos c] at h
    refine r_ldc n_X11_171 dX11_league_32 ?_
    refine r_iret (by first | rfl | decide) dX11_league_34 ?_
    obtain rfl := Option.some.inj h
    exact ⟨rfl, rfl, rfl⟩
  · rw [if_neg c] at h
    refine r_aload_n (i := 0) dX11_league_8 rfl rfl ?_
    refine r_iload_n (i := 2) dX11_league_9 rfl rfl ?_
    obtain ⟨r2, hr, h⟩ := bind_some h
    refine r_V (d' := 1) k_X11_97 dX11_league_10 (by omega) rfl rfl rfl (Nat.le_of_ble_eq_true rfl) (Nat.le_of_ble_eq_true rfl) (ok_X11_isCart_67 (Nat.le_refl _) hr) (fun v I' L' hq => ?_)
    obtain ⟨rfl, rfl, rfl⟩ := hq
    simp only [Option.toList_some, Option.toList_none, List.drop_succ_cons, List.drop_zero, List.drop_nil, List.cons_append, List.nil_append]
    refine r_if_eq (tgt := 32) dX11_league_13 (by decide) (fun c => ?_) (fun c => ?_)
    · rw [if_pos c] at h
      refine r_ldc n_X11_171 dX11_league_32 ?_
      refine r_iret (by first | rfl | decide) dX11_league_34 ?_
      obtain rfl := Option.some.inj h
      exact ⟨rfl, rfl, rfl⟩
    · rw [if_neg c] at h
      refine r_aload_n (i := 0) dX11_league_16 rfl rfl ?_
      refine r_iload_n (i := 1) dX11_league_17 rfl rfl ?_
      refine r_iload_n (i := 2) dX11_league_18 rfl rfl ?_
      obtain ⟨⟨r3, Ir3, Lr3⟩, hr, h⟩ := bind_some h
      refine r_V (d' := 5) k_X11_197 dX11_league_19 (by omega) rfl rfl rfl (Nat.le_of_ble_eq_true rfl) (Nat.le_of_ble_eq_true rfl) (ok_X11_worthOf_67 (Nat.le_refl _) hr) (fun v I' L' hq => ?_)
      obtain ⟨rfl, rfl, rfl⟩ := hq
      simp only [Option.toList_some, Option.toList_none, List.drop_succ_cons, List.drop_zero, List.drop_nil, List.cons_append, List.nil_append]
      dsimp only at h
      refine r_aload_n (i := 0) dX11_league_22 rfl rfl ?_
      refine r_iconst (v := 0) dX11_league_23 (by decide) ?_
      refine r_iload_n (i := 2) dX11_league_24 rfl rfl ?_
      obtain ⟨⟨r5, Ir5, Lr5⟩, hr, h⟩ := bind_some h
      refine r_V (d' := 5) k_X11_197 dX11_league_25 (by omega) rfl rfl rfl (Nat.le_of_ble_eq_true rfl) (Nat.le_of_ble_eq_true rfl) (ok_X11_worthOf_67 (Nat.le_refl _) hr) (fun v I' L' hq => ?_)
      obtain ⟨rfl, rfl, rfl⟩ := hq
      simp only [Option.toList_some, Option.toList_none, List.drop_succ_cons, List.drop_zero, List.drop_nil, List.cons_append, List.nil_append]
      dsimp only at h
      refine r_isub dX11_league_28 ?_
      refine r_goto (tgt := 34) dX11_league_29 (by decide) ?_
      refine r_iret (by first | rfl | decide) dX11_league_34 ?_
      obtain rfl := Option.some.inj h
      exact ⟨rfl, rfl, rfl⟩
def f_X11_orders_l4 (I : mI) (L : mL) : Nat → Int32 → Int64 → Int32 → Option Int64
  | 0, _, _, _ => none
  | n + 1, x0, x1, x3 => if x0 < x3 then (some x1) else (lt (x1 * (x3.toInt64)) (fun v1 => lt (x3 + Int32.ofInt 1) (fun v2 => f_X11_orders_l4 I L n x0 v1 v2)))
theorem ok_X11_orders_l4 {d : Nat} (hd : 0 ≤ d){I : mI} {L : mL} : ∀ (n : Nat) (x0 : Int32) (x1 : Int64) (x3 : Int32) (o : Int64), f_X11_orders_l4 I L n x0 x1 x3 = some o → RR mX11_orders d 4 [some (.int x0), some (.long x1), none, some (.int x3)] [] I L (retQ (some (.long o)) I L) := by
  intro n
  induction n with
  | zero => intro x0 x1 x3 o h; rw [f_X11_orders_l4] at h; cases h
  | succ n ih =>
    intro x0 x1 x3 o h
    rw [f_X11_orders_l4] at h
    refine r_iload_n (i := 3) dX11_orders_4 rfl rfl ?_
    refine r_iload_n (i := 0) dX11_orders_5 rfl rfl ?_
    refine r_icmp_gt (tgt := 20) dX11_orders_6 (by decide) (fun c => ?_) (fun c => ?_)
    · rw [if_pos c] at h
      refine r_lload_n (i := 1) dX11_orders_20 rfl rfl ?_
      refine r_lret dX11_orders_21 ?_
      obtain rfl := Option.some.inj h
      exact ⟨rfl, rfl, rfl⟩
    · rw [if_neg c] at h
      refine r_lload_n (i := 1) dX11_orders_9 rfl rfl ?_
      refine r_iload_n (i := 3) dX11_orders_10 rfl rfl ?_
      refine r_i2l dX11_orders_11 ?_
      refine r_lmul dX11_orders_12 ?_
      refine r_lstore_n (i := 1) dX11_orders_13 rfl (by decide) rfl ?_
      simp only [List.set_cons_zero, List.set_cons_succ]
      replace h := lt_some h
      refine r_iinc (v := _) dX11_orders_14 rfl rfl (by decide) rfl ?_
      simp only [List.set_cons_zero, List.set_cons_succ]
      replace h := lt_some h
      refine r_goto (tgt := 4) dX11_orders_17 (by decide) ?_
      exact RR.wk (ih _ _ _ _ h) (And.intro rfl (And.intro rfl (And.intro rfl (trivial))))
def f_X11_orders (I : mI) (L : mL) (a0 : Int32) : Option Int64 := f_X11_orders_l4 I L fuel a0 1 2
theorem ok_X11_orders {d : Nat} (hd : 0 ≤ d) {I : mI} {L : mL} {a0 : Int32} {o : Int64} (h : f_X11_orders I L a0 = some o) : RR mX11_orders d 0 [some (.int a0), none, none, none] [] I L (retQ (some (.long o)) I L) := by
  unfold f_X11_orders at h
  refine r_lconst (v := 1) dX11_orders_0 (by decide) ?_
  refine r_lstore_n (i := 1) dX11_orders_1 rfl (by decide) rfl ?_
  simp only [List.set_cons_zero, List.set_cons_succ]
  refine r_iconst (v := 2) dX11_orders_2 (by decide) ?_
  refine r_istore_n (i := 3) dX11_orders_3 rfl (by decide) rfl ?_
  simp only [List.set_cons_zero, List.set_cons_succ]
  exact RR.wk (ok_X11_orders_l4 hd _ _ _ _ _ h) (And.intro rfl (And.intro rfl (And.intro rfl (trivial))))
def f_X11_layPart_67_l169 : Nat → Int64 → Int64 → mI → mL → rI
  | 0, _, _, _, _ => none
  | n + 1, x5, x7, I, L => if (lg_cmp x7 0) = 0 then (ck (nzL x5) (lt (uL L 67 15 ((L 67 15) / x5)) (fun M10 => ck (nzL x5) (lt (uL M10 67 16 ((M10 67 16) / x5)) (fun M11 => some (1, I, M11)))))) else (ck (nzL x7) (lt (x5 - x5 / x7 * x7) (fun v12 => f_X11_layPart_67_l169 n x7 v12 I L)))
theorem ok_X11_layPart_67_l169 {d : Nat} (hd : 6 ≤ d) : ∀ (n : Nat) (x5 : Int64) (x7 : Int64) (I : mI) (L : mL) (o : Int32 × mI × mL), f_X11_layPart_67_l169 n x5 x7 I L = some o → RR mX11_layPart d 169 [some (.ref 67), none, none, none, none, some (.long x5), none, some (.long x7), none, none, none] [] I L (retQ (some (.int o.1)) o.2.1 o.2.2) := by
  intro n
  induction n with
  | zero => intro x5 x7 I L o h; rw [f_X11_layPart_67_l169] at h; cases h
  | succ n ih =>
    intro x5 x7 I L o h
    rw [f_X11_layPart_67_l169] at h
    refine r_lload dX11_layPart_169 rfl ?_
    refine r_lconst (v := 0) dX11_layPart_171 (by decide) ?_
    refine r_lcmp dX11_layPart_172 ?_
    refine r_if_eq (tgt := 194) dX11_layPart_173 (by decide) (fun c => ?_) (fun c => ?_)
    · rw [if_pos c] at h
      refine r_aload_n (i := 0) dX11_layPart_194 rfl rfl ?_
      refine r_dup dX11_layPart_195 rfl ?_
      refine r_getL f_X11_200 dX11_layPart_196 rfl rfl ?_
      refine r_lload dX11_layPart_199 rfl ?_
      obtain ⟨hb, h⟩ := ck_some h
      refine r_ldiv dX11_layPart_201 (nzL_ne hb) ?_
      refine r_putL f_X11_200 rfl rfl dX11_layPart_202 rfl rfl ?_
      replace h := lt_some h
      refine r_aload_n (i := 0) dX11_layPart_205 rfl rfl ?_
      refine r_dup dX11_layPart_206 rfl ?_
      refine r_getL f_X11_208 dX11_layPart_207 rfl rfl ?_
      refine r_lload dX11_layPart_210 rfl ?_
      obtain ⟨hb, h⟩ := ck_some h
      refine r_ldiv dX11_layPart_212 (nzL_ne hb) ?_
      refine r_putL f_X11_208 rfl rfl dX11_layPart_213 rfl rfl ?_
      replace h := lt_some h
      refine r_iconst (v := 1) dX11_layPart_216 (by decide) ?_
      refine r_iret (by first | rfl | decide) dX11_layPart_217 ?_
      obtain rfl := Option.some.inj h
      exact ⟨rfl, rfl, rfl⟩
    · rw [if_neg c] at h
      refine r_lload dX11_layPart_176 rfl ?_
      refine r_lload dX11_layPart_178 rfl ?_
      obtain ⟨hb, h⟩ := ck_some h
      refine r_lrem dX11_layPart_180 (nzL_ne hb) ?_
      refine r_lstore dX11_layPart_181 (by decide) rfl ?_
      simp only [List.set_cons_zero, List.set_cons_succ]
      replace h := lt_some h
      refine r_lload dX11_layPart_183 rfl ?_
      refine r_lstore dX11_layPart_185 (by decide) rfl ?_
      simp only [List.set_cons_zero, List.set_cons_succ]
      refine r_lload dX11_layPart_187 rfl ?_
      refine r_lstore dX11_layPart_189 (by decide) rfl ?_
      simp only [List.set_cons_zero, List.set_cons_succ]
      refine r_goto (tgt := 169) dX11_layPart_191 (by decide) ?_
      exact RR.wk (ih _ _ _ _ _ h) (And.intro rfl (And.intro rfl (And.intro rfl (trivial))))
def f_X11_layPart_67_l57 : Nat → Int32 → Int32 → Int32 → Int32 → Int32 → mI → mL → rI
  | 0, _, _, _, _, _, _, _ => none
  | n + 1, x1, x2, x3, x4, x5, I, L => if x2 < x5 then (if 0 ≤ (lg_cmp (L 67 15) 0) then (lt (L 67 15) (fun v8 => lt (L 67 16) (fun v9 => f_X11_layPart_67_l169 fuel v8 v9 I L))) else (lt (-(L 67 15)) (fun v13 => lt (L 67 16) (fun v14 => f_X11_layPart_67_l169 fuel v13 v14 I L)))) else (if (x5 &&& (x2 ^^^ (-1))) = 0 then (if ((x5 >>> (x1 &&& 31)) &&& 1) = 0 then ((f_X11_bits I L x5).bind (fun r17 => (f_X11_orders I L r17).bind (fun r18 => (f_X11_orders I L ((x4 - 1) - r17)).bind (fun r19 => bndI (f_X11_worthOf_67 I L (x5 ||| ((1 : Int32) <<< (x1 &&& 31))) x3) (fun r20 Ir20 Lr20 => bndI (f_X11_worthOf_67 Ir20 Lr20 x5 x3) (fun r22 Ir22 Lr22 => lt (uL Lr22 67 15 ((L 67 15) + ((r18 * r19) * ((r20 - r22).toInt64)))) (fun M24 => lt (x5 + Int32.ofInt 1) (fun v25 => f_X11_layPart_67_l57 n x1 x2 x3 x4 v25 Ir22 M24)))))))) else (lt (x5 + Int32.ofInt 1) (fun v16 => f_X11_layPart_67_l57 n x1 x2 x3 x4 v16 I L))) else (lt (x5 + Int32.ofInt 1) (fun v15 => f_X11_layPart_67_l57 n x1 x2 x3 x4 v15 I L)))
theorem ok_X11_layPart_67_l57 {d : Nat} (hd : 6 ≤ d) : ∀ (n : Nat) (x1 : Int32) (x2 : Int32) (x3 : Int32) (x4 : Int32) (x5 : Int32) (I : mI) (L : mL) (o : Int32 × mI × mL), f_X11_layPart_67_l57 n x1 x2 x3 x4 x5 I L = some o → RR mX11_layPart d 57 [some (.ref 67), some (.int x1), some (.int x2), some (.int x3), some (.int x4), some (.int x5), none, none, none, none, none] [] I L (retQ (some (.int o.1)) o.2.1 o.2.2) := by
  intro n
  induction n with
  | zero => intro x1 x2 x3 x4 x5 I L o h; rw [f_X11_layPart_67_l57] at h; cases h
  | succ n ih =>
    intro x1 x2 x3 x4 x5 I L o h
    rw [f_X11_layPart_67_l57] at h
    refine r_iload dX11_layPart_57 rfl ?_
    refine r_iload_n (i := 2) dX11_layPart_59 rfl rfl ?_
    refine r_icmp_gt (tgt := 140) dX11_layPart_60 (by decide) (fun c => ?_) (fun c => ?_)
    · rw [if_pos c] at h
      refine r_aload_n (i := 0) dX11_layPart_140 rfl rfl ?_
      refine r_getL f_X11_200 dX11_layPart_141 rfl rfl ?_
      refine r_lconst (v := 0) dX11_layPart_144 (by decide) ?_
      refine r_lcmp dX11_layPart_145 ?_
      refine r_if_ge (tgt := 157) dX11_layPart_146 (by decide) (fun c => ?_) (fun c => ?_)
      · rw [if_pos c] at h
        refine r_aload_n (i := 0) dX11_layPart_157 rfl rfl ?_
        refine r_getL f_X11_200 dX11_layPart_158 rfl rfl ?_
        refine r_lstore dX11_layPart_161 (by decide) rfl ?_
        simp only [List.set_cons_zero, List.set_cons_succ]
        replace h := lt_some h
        refine r_aload_n (i := 0) dX11_layPart_163 rfl rfl ?_
        refine r_getL f_X11_208 dX11_layPart_164 rfl rfl ?_
        refine r_lstore dX11_layPart_167 (by decide) rfl ?_
        simp only [List.set_cons_zero, List.set_cons_succ]
        replace h := lt_some h
        exact RR.wk (ok_X11_layPart_67_l169 hd _ _ _ _ _ _ h) (And.intro rfl (And.intro rfl (And.intro rfl (trivial))))
      · rw [if_neg c] at h
        refine r_aload_n (i := 0) dX11_layPart_149 rfl rfl ?_
        refine r_getL f_X11_200 dX11_layPart_150 rfl rfl ?_
        refine r_lneg dX11_layPart_153 ?_
        refine r_goto (tgt := 161) dX11_layPart_154 (by decide) ?_
        refine r_lstore dX11_layPart_161 (by decide) rfl ?_
        simp only [List.set_cons_zero, List.set_cons_succ]
        replace h := lt_some h
        refine r_aload_n (i := 0) dX11_layPart_163 rfl rfl ?_
        refine r_getL f_X11_208 dX11_layPart_164 rfl rfl ?_
        refine r_lstore dX11_layPart_167 (by decide) rfl ?_
        simp only [List.set_cons_zero, List.set_cons_succ]
        replace h := lt_some h
        exact RR.wk (ok_X11_layPart_67_l169 hd _ _ _ _ _ _ h) (And.intro rfl (And.intro rfl (And.intro rfl (trivial))))
    · rw [if_neg c] at h
      refine r_iload dX11_layPart_63 rfl ?_
      refine r_iload_n (i := 2) dX11_layPart_65 rfl rfl ?_
      refine r_iconst (v := (-1)) dX11_layPart_66 (by decide) ?_
      refine r_ixor dX11_layPart_67 ?_
      refine r_iand dX11_layPart_68 ?_
      refine r_if_ne (tgt := 134) dX11_layPart_69 (by decide) (fun c => ?_) (fun c => ?_)
      · rw [if_neg c] at h
        refine r_iinc (v := _) dX11_layPart_134 rfl rfl (by decide) rfl ?_
        simp only [List.set_cons_zero, List.set_cons_succ]
        replace h := lt_some h
        refine r_goto (tgt := 57) dX11_layPart_137 (by decide) ?_
        exact RR.wk (ih _ _ _ _ _ _ _ _ h) (And.intro rfl (And.intro rfl (And.intro rfl (And.intro rfl (And.intro rfl (And.intro rfl (trivial)))))))
      · rw [if_pos c] at h
        refine r_iload dX11_layPart_72 rfl ?_
        refine r_iload_n (i := 1) dX11_layPart_74 rfl rfl ?_
        refine r_ishr dX11_layPart_75 ?_
        refine r_iconst (v := 1) dX11_layPart_76 (by decide) ?_
        refine r_iand dX11_layPart_77 ?_
        refine r_if_ne (tgt := 134) dX11_layPart_78 (by decide) (fun c => ?_) (fun c => ?_)
        · rw [if_neg c] at h
          refine r_iinc (v := _) dX11_layPart_134 rfl rfl (by decide) rfl ?_
          simp only [List.set_cons_zero, List.set_cons_succ]
          replace h := lt_some h
          refine r_goto (tgt := 57) dX11_layPart_137 (by decide) ?_
          exact RR.wk (ih _ _ _ _ _ _ _ _ h) (And.intro rfl (And.intro rfl (And.intro rfl (And.intro rfl (And.intro rfl (And.intro rfl (trivial)))))))
        · rw [if_pos c] at h
          refine r_iload dX11_layPart_81 rfl ?_
          obtain ⟨r17, hr, h⟩ := bind_some h
          refine r_S (d' := 0) k_X11_185 dX11_layPart_83 (by omega) rfl (Nat.le_of_ble_eq_true rfl) (Nat.le_of_ble_eq_true rfl) (ok_X11_bits (Nat.le_refl _) hr) (fun v I' L' hq => ?_)
          obtain ⟨rfl, rfl, rfl⟩ := hq
          simp only [Option.toList_some, Option.toList_none, List.drop_succ_cons, List.drop_zero, List.drop_nil, List.cons_append, List.nil_append]
          refine r_istore dX11_layPart_86 (by decide) rfl ?_
          simp only [List.set_cons_zero, List.set_cons_succ]
          refine r_aload_n (i := 0) dX11_layPart_88 rfl rfl ?_
          refine r_dup dX11_layPart_89 rfl ?_
          refine r_getL f_X11_200 dX11_layPart_90 rfl rfl ?_
          refine r_iload dX11_layPart_93 rfl ?_
          obtain ⟨r18, hr, h⟩ := bind_some h
          refine r_S (d' := 0) k_X11_204 dX11_layPart_95 (by omega) rfl (Nat.le_of_ble_eq_true rfl) (Nat.le_of_ble_eq_true rfl) (ok_X11_orders (Nat.le_refl _) hr) (fun v I' L' hq => ?_)
          obtain ⟨rfl, rfl, rfl⟩ := hq
          simp only [Option.toList_some, Option.toList_none, List.drop_succ_cons, List.drop_zero, List.drop_nil, List.cons_append, List.nil_append]
          refine r_iload dX11_layPart_98 rfl ?_
          refine r_iconst (v := 1) dX11_layPart_100 (by decide) ?_
          refine r_isub dX11_layPart_101 ?_
          refine r_iload dX11_layPart_102 rfl ?_
          refine r_isub dX11_layPart_104 ?_
          obtain ⟨r19, hr, h⟩ := bind_some h
          refine r_S (d' := 0) k_X11_204 dX11_layPart_105 (by omega) rfl (Nat.le_of_ble_eq_true rfl) (Nat.le_of_ble_eq_true rfl) (ok_X11_orders (Nat.le_refl _) hr) (fun v I' L' hq => ?_)
          obtain ⟨rfl, rfl, rfl⟩ := hq
          simp only [Option.toList_some, Option.toList_none, List.drop_succ_cons, List.drop_zero, List.drop_nil, List.cons_append, List.nil_append]
          refine r_lmul dX11_layPart_108 ?_
          refine r_aload_n (i := 0) dX11_layPart_109 rfl rfl ?_
          refine r_iload dX11_layPart_110 rfl ?_
          refine r_iconst (v := 1) dX11_layPart_112 (by decide) ?_
          refine r_iload_n (i := 1) dX11_layPart_113 rfl rfl ?_
          refine r_ishl dX11_layPart_114 ?_
          refine r_ior dX11_layPart_115 ?_
          refine r_iload_n (i := 3) dX11_layPart_116 rfl rfl ?_
          obtain ⟨⟨r20, Ir20, Lr20⟩, hr, h⟩ := bind_some h
          refine r_V (d' := 5) k_X11_197 dX11_layPart_117 (by omega) rfl rfl rfl (Nat.le_of_ble_eq_true rfl) (Nat.le_of_ble_eq_true rfl) (ok_X11_worthOf_67 (Nat.le_refl _) hr) (fun v I' L' hq => ?_)
          obtain ⟨rfl, rfl, rfl⟩ := hq
          simp only [Option.toList_some, Option.toList_none, List.drop_succ_cons, List.drop_zero, List.drop_nil, List.cons_append, List.nil_append]
          dsimp only at h
          refine r_aload_n (i := 0) dX11_layPart_120 rfl rfl ?_
          refine r_iload dX11_layPart_121 rfl ?_
          refine r_iload_n (i := 3) dX11_layPart_123 rfl rfl ?_
          obtain ⟨⟨r22, Ir22, Lr22⟩, hr, h⟩ := bind_some h
          refine r_V (d' := 5) k_X11_197 dX11_layPart_124 (by omega) rfl rfl rfl (Nat.le_of_ble_eq_true rfl) (Nat.le_of_ble_eq_true rfl) (ok_X11_worthOf_67 (Nat.le_refl _) hr) (fun v I' L' hq => ?_)
          obtain ⟨rfl, rfl, rfl⟩ := hq
          simp only [Option.toList_some, Option.toList_none, List.drop_succ_cons, List.drop_zero, List.drop_nil, List.cons_append, List.nil_append]
          dsimp only at h
          refine r_isub dX11_layPart_127 ?_
          refine r_i2l dX11_layPart_128 ?_
          refine r_lmul dX11_layPart_129 ?_
          refine r_ladd dX11_layPart_130 ?_
          refine r_putL f_X11_200 rfl rfl dX11_layPart_131 rfl rfl ?_
          replace h := lt_some h
          refine r_iinc (v := _) dX11_layPart_134 rfl rfl (by decide) rfl ?_
          simp only [List.set_cons_zero, List.set_cons_succ]
          replace h := lt_some h
          refine r_goto (tgt := 57) dX11_layPart_137 (by decide) ?_
          exact RR.wk (ih _ _ _ _ _ _ _ _ h) (And.intro rfl (And.intro rfl (And.intro rfl (And.intro rfl (And.intro rfl (And.intro rfl (trivial)))))))
def f_X11_layPart_67 (I : mI) (L : mL) (a1 : Int32) (a2 : Int32) (a3 : Int32) : rI := (f_X11_isParish_67 I L a1).bind (fun r1 => if r1 = 0 then (some (0, I, L)) else ((f_X11_isSet_67 I L a2).bind (fun r2 => if r2 = 0 then (some (0, I, L)) else (if ((a2 >>> (a1 &&& 31)) &&& 1) = 0 then (some (0, I, L)) else ((f_X11_isCart_67 I L a3).bind (fun r3 => if r3 = 0 then (some (0, I, L)) else ((f_X11_bits I L a2).bind (fun r4 => lt (uL L 67 15 0) (fun M5 => (f_X11_orders I M5 r4).bind (fun r6 => lt (uL M5 67 16 r6) (fun M7 => f_X11_layPart_67_l57 fuel a1 a2 a3 r4 0 I M7)))))))))))
theorem ok_X11_layPart_67 {d : Nat} (hd : 6 ≤ d) {I : mI} {L : mL} {a1 : Int32} {a2 : Int32} {a3 : Int32} {o : Int32 × mI × mL} (h : f_X11_layPart_67 I L a1 a2 a3 = some o) : RR mX11_layPart d 0 [some (.ref 67), some (.int a1), some (.int a2), some (.int a3), none, none, none, none, none, none, none] [] I L (retQ (some (.int o.1)) o.2.1 o.2.2) := by
  unfold f_X11_layPart_67 at h
  refine r_aload_n (i := 0) dX11_layPart_0 rfl rfl ?_
  refine r_iload_n (i := 1) dX11_layPart_1 rfl rfl ?_
  obtain ⟨r1, hr, h⟩ := bind_some h
  refine r_V (d' := 1) k_X11_68 dX11_layPart_2 (by omega) rfl rfl rfl (Nat.le_of_ble_eq_true rfl) (Nat.le_of_ble_eq_true rfl) (ok_X11_isParish_67 (Nat.le_refl _) hr) (fun v I' L' hq => ?_)
  obtain ⟨rfl, rfl, rfl⟩ := hq
  simp only [Option.toList_some, Option.toList_none, List.drop_succ_cons, List.drop_zero, List.drop_nil, List.cons_append, List.nil_append]
  refine r_if_eq (tgt := 32) dX11_layPart_5 (by decide) (fun c => ?_) (fun c => ?_)
  · rw [if_pos c] at h
    refine r_iconst (v := 0) dX11_layPart_32 (by decide) ?_
    refine r_iret (by first | rfl | decide) dX11_layPart_33 ?_
    obtain rfl := Option.some.inj h
    exact ⟨rfl, rfl, rfl⟩
  · rw [if_neg c] at h
    refine r_aload_n (i := 0) dX11_layPart_8 rfl rfl ?_
    refine r_iload_n (i := 2) dX11_layPart_9 rfl rfl ?_
    obtain ⟨r2, hr, h⟩ := bind_some h
    refine r_V (d' := 1) k_X11_194 dX11_layPart_10 (by omega) rfl rfl rfl (Nat.le_of_ble_eq_true rfl) (Nat.le_of_ble_eq_true rfl) (ok_X11_isSet_67 (Nat.le_refl _) hr) (fun v I' L' hq => ?_)
    obtain ⟨rfl, rfl, rfl⟩ := hq
    simp only [Option.toList_some, Option.toList_none, List.drop_succ_cons, List.drop_zero, List.drop_nil, List.cons_append, List.nil_append]
    refine r_if_eq (tgt := 32) dX11_layPart_13 (by decide) (fun c => ?_) (fun c => ?_)
    · rw [if_pos c] at h
      refine r_iconst (v := 0) dX11_layPart_32 (by decide) ?_
      refine r_iret (by first | rfl | decide) dX11_layPart_33 ?_
      obtain rfl := Option.some.inj h
      exact ⟨rfl, rfl, rfl⟩
    · rw [if_neg c] at h
      refine r_iload_n (i := 2) dX11_layPart_16 rfl rfl ?_
      refine r_iload_n (i := 1) dX11_layPart_17 rfl rfl ?_
      refine r_ishr dX11_layPart_18 ?_
      refine r_iconst (v := 1) dX11_layPart_19 (by decide) ?_
      refine r_iand dX11_layPart_20 ?_
      refine r_if_eq (tgt := 32) dX11_layPart_21 (by decide) (fun c => ?_) (fun c => ?_)
      · rw [if_pos c] at h
        refine r_iconst (v := 0) dX11_layPart_32 (by decide) ?_
        refine r_iret (by first | rfl | decide) dX11_layPart_33 ?_
        obtain rfl := Option.some.inj h
        exact ⟨rfl, rfl, rfl⟩
      · rw [if_neg c] at h
        refine r_aload_n (i := 0) dX11_layPart_24 rfl rfl ?_
        refine r_iload_n (i := 3) dX11_layPart_25 rfl rfl ?_
        obtain ⟨r3, hr, h⟩ := bind_some h
        refine r_V (d' := 1) k_X11_97 dX11_layPart_26 (by omega) rfl rfl rfl (Nat.le_of_ble_eq_true rfl) (Nat.le_of_ble_eq_true rfl) (ok_X11_isCart_67 (Nat.le_refl _) hr) (fun v I' L' hq => ?_)
        obtain ⟨rfl, rfl, rfl⟩ := hq
        simp only [Option.toList_some, Option.toList_none, List.drop_succ_cons, List.drop_zero, List.drop_nil, List.cons_append, List.nil_append]
        refine r_if_ne (tgt := 34) dX11_layPart_29 (by decide) (fun c => ?_) (fun c => ?_)
        · rw [if_neg c] at h
          refine r_iload_n (i := 2) dX11_layPart_34 rfl rfl ?_
          obtain ⟨r4, hr, h⟩ := bind_some h
          refine r_S (d' := 0) k_X11_185 dX11_layPart_35 (by omega) rfl (Nat.le_of_ble_eq_true rfl) (Nat.le_of_ble_eq_true rfl) (ok_X11_bits (Nat.le_refl _) hr) (fun v I' L' hq => ?_)
          obtain ⟨rfl, rfl, rfl⟩ := hq
          simp only [Option.toList_some, Option.toList_none, List.drop_succ_cons, List.drop_zero, List.drop_nil, List.cons_append, List.nil_append]
          refine r_istore dX11_layPart_38 (by decide) rfl ?_
          simp only [List.set_cons_zero, List.set_cons_succ]
          refine r_aload_n (i := 0) dX11_layPart_40 rfl rfl ?_
          refine r_lconst (v := 0) dX11_layPart_41 (by decide) ?_
          refine r_putL f_X11_200 rfl rfl dX11_layPart_42 rfl rfl ?_
          replace h := lt_some h
          refine r_aload_n (i := 0) dX11_layPart_45 rfl rfl ?_
          refine r_iload dX11_layPart_46 rfl ?_
          obtain ⟨r6, hr, h⟩ := bind_some h
          refine r_S (d' := 0) k_X11_204 dX11_layPart_48 (by omega) rfl (Nat.le_of_ble_eq_true rfl) (Nat.le_of_ble_eq_true rfl) (ok_X11_orders (Nat.le_refl _) hr) (fun v I' L' hq => ?_)
          obtain ⟨rfl, rfl, rfl⟩ := hq
          simp only [Option.toList_some, Option.toList_none, List.drop_succ_cons, List.drop_zero, List.drop_nil, List.cons_append, List.nil_append]
          refine r_putL f_X11_208 rfl rfl dX11_layPart_51 rfl rfl ?_
          replace h := lt_some h
          refine r_iconst (v := 0) dX11_layPart_54 (by decide) ?_
          refine r_istore dX11_layPart_55 (by decide) rfl ?_
          simp only [List.set_cons_zero, List.set_cons_succ]
          exact RR.wk (ok_X11_layPart_67_l57 hd _ _ _ _ _ _ _ _ _ h) (And.intro rfl (And.intro rfl (And.intro rfl (And.intro rfl (And.intro rfl (And.intro rfl (trivial)))))))
        · rw [if_pos c] at h
          refine r_iconst (v := 0) dX11_layPart_32 (by decide) ?_
          refine r_iret (by first | rfl | decide) dX11_layPart_33 ?_
          obtain rfl := Option.some.inj h
          exact ⟨rfl, rfl, rfl⟩
def f_X11_upper_67 (I : mI) (L : mL) (a1 : Int32) (a2 : Int32) (a3 : Int32) : rL := bndI (f_X11_layPart_67 I L a1 a2 a3) (fun r1 Ir1 Lr1 => if r1 = 0 then (some ((-1000001), Ir1, Lr1)) else (some (Lr1 67 15, Ir1, Lr1)))
theorem ok_X11_upper_67 {d : Nat} (hd : 7 ≤ d) {I : mI} {L : mL} {a1 : Int32} {a2 : Int32} {a3 : Int32} {o : Int64 × mI × mL} (h : f_X11_upper_67 I L a1 a2 a3 = some o) : RR mX11_upper d 0 [some (.ref 67), some (.int a1), some (.int a2), some (.int a3)] [] I L (retQ (some (.long o.1)) o.2.1 o.2.2) := by
  unfold f_X11_upper_67 at h
  refine r_aload_n (i := 0) dX11_upper_0 rfl rfl ?_
  refine r_iload_n (i := 1) dX11_upper_1 rfl rfl ?_
  refine r_iload_n (i := 2) dX11_upper_2 rfl rfl ?_
  refine r_iload_n (i := 3) dX11_upper_3 rfl rfl ?_
  obtain ⟨⟨r1, Ir1, Lr1⟩, hr, h⟩ := bind_some h
  refine r_V (d' := 6) k_X11_211 dX11_upper_4 (by omega) rfl rfl rfl (Nat.le_of_ble_eq_true rfl) (Nat.le_of_ble_eq_true rfl) (ok_X11_layPart_67 (Nat.le_refl _) hr) (fun v I' L' hq => ?_)
  obtain ⟨rfl, rfl, rfl⟩ := hq
  simp only [Option.toList_some, Option.toList_none, List.drop_succ_cons, List.drop_zero, List.drop_nil, List.cons_append, List.nil_append]
  dsimp only at h
  refine r_if_eq (tgt := 17) dX11_upper_7 (by decide) (fun c => ?_) (fun c => ?_)
  · rw [if_pos c] at h
    refine r_ldc2 n_X11_214 dX11_upper_17 ?_
    refine r_lret dX11_upper_20 ?_
    obtain rfl := Option.some.inj h
    exact ⟨rfl, rfl, rfl⟩
  · rw [if_neg c] at h
    refine r_aload_n (i := 0) dX11_upper_10 rfl rfl ?_
    refine r_getL f_X11_200 dX11_upper_11 rfl rfl ?_
    refine r_goto (tgt := 20) dX11_upper_14 (by decide) ?_
    refine r_lret dX11_upper_20 ?_
    obtain rfl := Option.some.inj h
    exact ⟨rfl, rfl, rfl⟩
def f_X11_lower_67 (I : mI) (L : mL) (a1 : Int32) (a2 : Int32) (a3 : Int32) : rL := bndI (f_X11_layPart_67 I L a1 a2 a3) (fun r1 Ir1 Lr1 => if r1 = 0 then (some ((-1), Ir1, Lr1)) else (some (Lr1 67 16, Ir1, Lr1)))
theorem ok_X11_lower_67 {d : Nat} (hd : 7 ≤ d) {I : mI} {L : mL} {a1 : Int32} {a2 : Int32} {a3 : Int32} {o : Int64 × mI × mL} (h : f_X11_lower_67 I L a1 a2 a3 = some o) : RR mX11_lower d 0 [some (.ref 67), some (.int a1), some (.int a2), some (.int a3)] [] I L (retQ (some (.long o.1)) o.2.1 o.2.2) := by
  unfold f_X11_lower_67 at h
  refine r_aload_n (i := 0) dX11_lower_0 rfl rfl ?_
  refine r_iload_n (i := 1) dX11_lower_1 rfl rfl ?_
  refine r_iload_n (i := 2) dX11_lower_2 rfl rfl ?_
  refine r_iload_n (i := 3) dX11_lower_3 rfl rfl ?_
  obtain ⟨⟨r1, Ir1, Lr1⟩, hr, h⟩ := bind_some h
  refine r_V (d' := 6) k_X11_211 dX11_lower_4 (by omega) rfl rfl rfl (Nat.le_of_ble_eq_true rfl) (Nat.le_of_ble_eq_true rfl) (ok_X11_layPart_67 (Nat.le_refl _) hr) (fun v I' L' hq => ?_)
  obtain ⟨rfl, rfl, rfl⟩ := hq
  simp only [Option.toList_some, Option.toList_none, List.drop_succ_cons, List.drop_zero, List.drop_nil, List.cons_append, List.nil_append]
  dsimp only at h
  refine r_if_eq (tgt := 17) dX11_lower_7 (by decide) (fun c => ?_) (fun c => ?_)
  · rw [if_pos c] at h
    refine r_ldc2 n_X11_160 dX11_lower_17 ?_
    refine r_lret dX11_lower_20 ?_
    obtain rfl := Option.some.inj h
    exact ⟨rfl, rfl, rfl⟩
  · rw [if_neg c] at h
    refine r_aload_n (i := 0) dX11_lower_10 rfl rfl ?_
    refine r_getL f_X11_208 dX11_lower_11 rfl rfl ?_
    refine r_goto (tgt := 20) dX11_lower_14 (by decide) ?_
    refine r_lret dX11_lower_20 ?_
    obtain rfl := Option.some.inj h
    exact ⟨rfl, rfl, rfl⟩
def f_X11_change_67_b206 (I : mI) (L : mL) (k151 : Int32 → Int32 → Int32 → Int32 → Int32 → Int32 → Option Int32) (x1 : Int32) (x2 : Int32) (x3 : Int32) (x4 : Int32) (x5 : Int32) (x6 : Int32) (s0 : Int32) : Option Int32 := ck (inb (129 + x6) 135) (if (I 68 (129 + x6).toNatClampNeg) = x1 then (if s0 = 0 then (lt (x5 ||| 0) (fun v9 => lt (x6 + Int32.ofInt 1) (fun v10 => k151 x1 x2 x3 x4 v9 v10))) else (lt (x5 ||| ((1 : Int32) <<< (x6 &&& 31))) (fun v11 => lt (x6 + Int32.ofInt 1) (fun v12 => k151 x1 x2 x3 x4 v11 v12)))) else (lt (x5 ||| 0) (fun v7 => lt (x6 + Int32.ofInt 1) (fun v8 => k151 x1 x2 x3 x4 v7 v8))))
theorem ok_X11_change_67_b206 {d : Nat} (hd : 2 ≤ d){I : mI} {L : mL} {k151 : Int32 → Int32 → Int32 → Int32 → Int32 → Int32 → Option Int32} (hk151 : ∀ (x1 : Int32) (x2 : Int32) (x3 : Int32) (x4 : Int32) (x5 : Int32) (x6 : Int32) (o : Int32), k151 x1 x2 x3 x4 x5 x6 = some o → RR mX11_change d 151 [some (.ref 67), some (.int x1), some (.int x2), some (.int x3), some (.int x4), some (.int x5), some (.int x6), none] [] I L (retQ (some (.int o)) I L)) (x1 : Int32) (x2 : Int32) (x3 : Int32) (x4 : Int32) (x5 : Int32) (x6 : Int32) (s0 : Int32) {o : Int32} (h : f_X11_change_67_b206 I L k151 x1 x2 x3 x4 x5 x6 s0 = some o) : RR mX11_change d 206 [some (.ref 67), some (.int x1), some (.int x2), some (.int x3), some (.int x4), some (.int x5), some (.int x6), none] [.int s0] I L (retQ (some (.int o)) I L) := by
  unfold f_X11_change_67_b206 at h
  refine r_istore dX11_change_206 (by decide) rfl ?_
  simp only [List.set_cons_zero, List.set_cons_succ]
  refine r_iload dX11_change_208 rfl ?_
  refine r_aload_n (i := 0) dX11_change_210 rfl rfl ?_
  refine r_getR f_X11_7 dX11_change_211 rfl rfl ?_
  refine r_sipush (v := 129) dX11_change_214 (by decide) ?_
  refine r_iload dX11_change_217 rfl ?_
  refine r_iadd dX11_change_219 ?_
  obtain ⟨hb, h⟩ := ck_some h
  refine r_iald rfl (inb_vp hb) dX11_change_220 ?_
  refine r_iload_n (i := 1) dX11_change_221 rfl rfl ?_
  refine r_icmp_ne (tgt := 237) dX11_change_222 (by decide) (fun c => ?_) (fun c => ?_)
  · rw [if_neg c] at h
    refine r_iconst (v := 0) dX11_change_237 (by decide) ?_
    refine r_ior dX11_change_238 ?_
    refine r_istore dX11_change_239 (by decide) rfl ?_
    simp only [List.set_cons_zero, List.set_cons_succ]
    replace h := lt_some h
    refine r_iinc (v := _) dX11_change_241 rfl rfl (by decide) rfl ?_
    simp only [List.set_cons_zero, List.set_cons_succ]
    replace h := lt_some h
    refine r_goto (tgt := 151) dX11_change_244 (by decide) ?_
    exact RR.wk (hk151 _ _ _ _ _ _ _ h) (And.intro rfl (And.intro rfl (And.intro rfl (And.intro rfl (And.intro rfl (And.intro rfl (And.intro rfl (trivial))))))))
  · rw [if_pos c] at h
    refine r_iload dX11_change_225 rfl ?_
    refine r_if_eq (tgt := 237) dX11_change_227 (by decide) (fun c => ?_) (fun c => ?_)
    · rw [if_pos c] at h
      refine r_iconst (v := 0) dX11_change_237 (by decide) ?_
      refine r_ior dX11_change_238 ?_
      refine r_istore dX11_change_239 (by decide) rfl ?_
      simp only [List.set_cons_zero, List.set_cons_succ]
      replace h := lt_some h
      refine r_iinc (v := _) dX11_change_241 rfl rfl (by decide) rfl ?_
      simp only [List.set_cons_zero, List.set_cons_succ]
      replace h := lt_some h
      refine r_goto (tgt := 151) dX11_change_244 (by decide) ?_
      exact RR.wk (hk151 _ _ _ _ _ _ _ h) (And.intro rfl (And.intro rfl (And.intro rfl (And.intro rfl (And.intro rfl (And.intro rfl (And.intro rfl (trivial))))))))
    · rw [if_neg c] at h
      refine r_iconst (v := 1) dX11_change_230 (by decide) ?_
      refine r_iload dX11_change_231 rfl ?_
      refine r_ishl dX11_change_233 ?_
      refine r_goto (tgt := 238) dX11_change_234 (by decide) ?_
      refine r_ior dX11_change_238 ?_
      refine r_istore dX11_change_239 (by decide) rfl ?_
      simp only [List.set_cons_zero, List.set_cons_succ]
      replace h := lt_some h
      refine r_iinc (v := _) dX11_change_241 rfl rfl (by decide) rfl ?_
      simp only [List.set_cons_zero, List.set_cons_succ]
      replace h := lt_some h
      refine r_goto (tgt := 151) dX11_change_244 (by decide) ?_
      exact RR.wk (hk151 _ _ _ _ _ _ _ h) (And.intro rfl (And.intro rfl (And.intro rfl (And.intro rfl (And.intro rfl (And.intro rfl (And.intro rfl (trivial))))))))
def f_X11_change_67_l151 (I : mI) (L : mL) : Nat → Int32 → Int32 → Int32 → Int32 → Int32 → Int32 → Option Int32
  | 0, _, _, _, _, _, _ => none
  | n + 1, x1, x2, x3, x4, x5, x6 => if (I 68 (4 : Int32).toNatClampNeg) ≤ x6 then (some x5) else (if x3 = 1 then (ck (inb (123 + x6) 135) ((f_X11_weightBy I L x4 x2 (I 68 (123 + x6).toNatClampNeg)).bind (fun r5 => ck (inb (123 + x6) 135) ((f_X11_weight_67 I L x1 (I 68 (123 + x6).toNatClampNeg)).bind (fun r6 => if r6 ≤ r5 then (f_X11_change_67_b206 I L (f_X11_change_67_l151 I L n) x1 x2 x3 x4 x5 x6 0) else (f_X11_change_67_b206 I L (f_X11_change_67_l151 I L n) x1 x2 x3 x4 x5 x6 1)))))) else (some x5))
theorem ok_X11_change_67_l151 {d : Nat} (hd : 2 ≤ d){I : mI} {L : mL} : ∀ (n : Nat) (x1 : Int32) (x2 : Int32) (x3 : Int32) (x4 : Int32) (x5 : Int32) (x6 : Int32) (o : Int32), f_X11_change_67_l151 I L n x1 x2 x3 x4 x5 x6 = some o → RR mX11_change d 151 [some (.ref 67), some (.int x1), some (.int x2), some (.int x3), some (.int x4), some (.int x5), some (.int x6), none] [] I L (retQ (some (.int o)) I L) := by
  intro n
  induction n with
  | zero => intro x1 x2 x3 x4 x5 x6 o h; rw [f_X11_change_67_l151] at h; cases h
  | succ n ih =>
    intro x1 x2 x3 x4 x5 x6 o h
    rw [f_X11_change_67_l151] at h
    refine r_iload dX11_change_151 rfl ?_
    refine r_aload_n (i := 0) dX11_change_153 rfl rfl ?_
    refine r_getR f_X11_7 dX11_change_154 rfl rfl ?_
    refine r_iconst (v := 4) dX11_change_157 (by decide) ?_
    refine r_iald rfl (vp_lit (by decide)) dX11_change_158 ?_
    refine r_icmp_ge (tgt := 247) dX11_change_159 (by decide) (fun c => ?_) (fun c => ?_)
    · rw [if_pos c] at h
      refine r_iload dX11_change_247 rfl ?_
      refine r_iret (by first | rfl | decide) dX11_change_249 ?_
      obtain rfl := Option.some.inj h
      exact ⟨rfl, rfl, rfl⟩
    · rw [if_neg c] at h
      refine r_iload_n (i := 3) dX11_change_162 rfl rfl ?_
      refine r_iconst (v := 1) dX11_change_163 (by decide) ?_
      refine r_icmp_ne (tgt := 247) dX11_change_164 (by decide) (fun c => ?_) (fun c => ?_)
      · rw [if_neg c] at h
        refine r_iload dX11_change_247 rfl ?_
        refine r_iret (by first | rfl | decide) dX11_change_249 ?_
        obtain rfl := Option.some.inj h
        exact ⟨rfl, rfl, rfl⟩
      · rw [if_pos c] at h
        refine r_iload dX11_change_167 rfl ?_
        refine r_iload_n (i := 2) dX11_change_169 rfl rfl ?_
        refine r_aload_n (i := 0) dX11_change_170 rfl rfl ?_
        refine r_getR f_X11_7 dX11_change_171 rfl rfl ?_
        refine r_bipush (v := 123) dX11_change_174 (by decide) ?_
        refine r_iload dX11_change_176 rfl ?_
        refine r_iadd dX11_change_178 ?_
        obtain ⟨hb, h⟩ := ck_some h
        refine r_iald rfl (inb_vp hb) dX11_change_179 ?_
        obtain ⟨r5, hr, h⟩ := bind_some h
        refine r_S (d' := 0) k_X11_58 dX11_change_180 (by omega) rfl (Nat.le_of_ble_eq_true rfl) (Nat.le_of_ble_eq_true rfl) (ok_X11_weightBy (Nat.le_refl _) hr) (fun v I' L' hq => ?_)
        obtain ⟨rfl, rfl, rfl⟩ := hq
        simp only [Option.toList_some, Option.toList_none, List.drop_succ_cons, List.drop_zero, List.drop_nil, List.cons_append, List.nil_append]
        refine r_aload_n (i := 0) dX11_change_183 rfl rfl ?_
        refine r_iload_n (i := 1) dX11_change_184 rfl rfl ?_
        refine r_aload_n (i := 0) dX11_change_185 rfl rfl ?_
        refine r_getR f_X11_7 dX11_change_186 rfl rfl ?_
        refine r_bipush (v := 123) dX11_change_189 (by decide) ?_
        refine r_iload dX11_change_191 rfl ?_
        refine r_iadd dX11_change_193 ?_
        obtain ⟨hb, h⟩ := ck_some h
        refine r_iald rfl (inb_vp hb) dX11_change_194 ?_
        obtain ⟨r6, hr, h⟩ := bind_some h
        refine r_V (d' := 1) k_X11_88 dX11_change_195 (by omega) rfl rfl rfl (Nat.le_of_ble_eq_true rfl) (Nat.le_of_ble_eq_true rfl) (ok_X11_weight_67 (Nat.le_refl _) hr) (fun v I' L' hq => ?_)
        obtain ⟨rfl, rfl, rfl⟩ := hq
        simp only [Option.toList_some, Option.toList_none, List.drop_succ_cons, List.drop_zero, List.drop_nil, List.cons_append, List.nil_append]
        refine r_icmp_ge (tgt := 205) dX11_change_198 (by decide) (fun c => ?_) (fun c => ?_)
        · rw [if_pos c] at h
          refine r_iconst (v := 0) dX11_change_205 (by decide) ?_
          exact RR.wk (ok_X11_change_67_b206 hd ih _ _ _ _ _ _ _ h) (And.intro rfl (And.intro rfl (And.intro rfl (And.intro rfl (And.intro rfl (And.intro rfl (And.intro rfl (trivial))))))))
        · rw [if_neg c] at h
          refine r_iconst (v := 1) dX11_change_201 (by decide) ?_
          refine r_goto (tgt := 206) dX11_change_202 (by decide) ?_
          exact RR.wk (ok_X11_change_67_b206 hd ih _ _ _ _ _ _ _ h) (And.intro rfl (And.intro rfl (And.intro rfl (And.intro rfl (And.intro rfl (And.intro rfl (And.intro rfl (trivial))))))))
def f_X11_change_67_b93 (I : mI) (L : mL) (k46 : Int32 → Int32 → Int32 → Int32 → Int32 → Int32 → Option Int32) (x1 : Int32) (x2 : Int32) (x3 : Int32) (x4 : Int32) (x5 : Int32) (x6 : Int32) (s0 : Int32) : Option Int32 := if s0 = 0 then (lt (x5 ||| 0) (fun v13 => lt (x6 + Int32.ofInt 1) (fun v14 => k46 x1 x2 x3 x4 v13 v14))) else (ck (inb (99 + x6) 135) ((f_X11_weightBy I L x4 x2 (I 68 (99 + x6).toNatClampNeg)).bind (fun r15 => ck (inb (117 + x6) 135) (if r15 ≤ (I 68 (117 + x6).toNatClampNeg) then (lt (x5 ||| 0) (fun v16 => lt (x6 + Int32.ofInt 1) (fun v17 => k46 x1 x2 x3 x4 v16 v17))) else (lt (x5 ||| ((1 : Int32) <<< (x6 &&& 31))) (fun v18 => lt (x6 + Int32.ofInt 1) (fun v19 => k46 x1 x2 x3 x4 v18 v19)))))))
theorem ok_X11_change_67_b93 {d : Nat} (hd : 2 ≤ d){I : mI} {L : mL} {k46 : Int32 → Int32 → Int32 → Int32 → Int32 → Int32 → Option Int32} (hk46 : ∀ (x1 : Int32) (x2 : Int32) (x3 : Int32) (x4 : Int32) (x5 : Int32) (x6 : Int32) (o : Int32), k46 x1 x2 x3 x4 x5 x6 = some o → RR mX11_change d 46 [some (.ref 67), some (.int x1), some (.int x2), some (.int x3), some (.int x4), some (.int x5), some (.int x6), none] [] I L (retQ (some (.int o)) I L)) (x1 : Int32) (x2 : Int32) (x3 : Int32) (x4 : Int32) (x5 : Int32) (x6 : Int32) (s0 : Int32) {o : Int32} (h : f_X11_change_67_b93 I L k46 x1 x2 x3 x4 x5 x6 s0 = some o) : RR mX11_change d 93 [some (.ref 67), some (.int x1), some (.int x2), some (.int x3), some (.int x4), some (.int x5), some (.int x6), none] [.int s0] I L (retQ (some (.int o)) I L) := by
  unfold f_X11_change_67_b93 at h
  refine r_istore dX11_change_93 (by decide) rfl ?_
  simp only [List.set_cons_zero, List.set_cons_succ]
  refine r_iload dX11_change_95 rfl ?_
  refine r_iload dX11_change_97 rfl ?_
  refine r_if_eq (tgt := 138) dX11_change_99 (by decide) (fun c => ?_) (fun c => ?_)
  · rw [if_pos c] at h
    refine r_iconst (v := 0) dX11_change_138 (by decide) ?_
    refine r_ior dX11_change_139 ?_
    refine r_istore dX11_change_140 (by decide) rfl ?_
    simp only [List.set_cons_zero, List.set_cons_succ]
    replace h := lt_some h
    refine r_iinc (v := _) dX11_change_142 rfl rfl (by decide) rfl ?_
    simp only [List.set_cons_zero, List.set_cons_succ]
    replace h := lt_some h
    refine r_goto (tgt := 46) dX11_change_145 (by decide) ?_
    exact RR.wk (hk46 _ _ _ _ _ _ _ h) (And.intro rfl (And.intro rfl (And.intro rfl (And.intro rfl (And.intro rfl (And.intro rfl (And.intro rfl (trivial))))))))
  · rw [if_neg c] at h
    refine r_iload dX11_change_102 rfl ?_
    refine r_iload_n (i := 2) dX11_change_104 rfl rfl ?_
    refine r_aload_n (i := 0) dX11_change_105 rfl rfl ?_
    refine r_getR f_X11_7 dX11_change_106 rfl rfl ?_
    refine r_bipush (v := 99) dX11_change_109 (by decide) ?_
    refine r_iload dX11_change_111 rfl ?_
    refine r_iadd dX11_change_113 ?_
    obtain ⟨hb, h⟩ := ck_some h
    refine r_iald rfl (inb_vp hb) dX11_change_114 ?_
    obtain ⟨r15, hr, h⟩ := bind_some h
    refine r_S (d' := 0) k_X11_58 dX11_change_115 (by omega) rfl (Nat.le_of_ble_eq_true rfl) (Nat.le_of_ble_eq_true rfl) (ok_X11_weightBy (Nat.le_refl _) hr) (fun v I' L' hq => ?_)
    obtain ⟨rfl, rfl, rfl⟩ := hq
    simp only [Option.toList_some, Option.toList_none, List.drop_succ_cons, List.drop_zero, List.drop_nil, List.cons_append, List.nil_append]
    refine r_aload_n (i := 0) dX11_change_118 rfl rfl ?_
    refine r_getR f_X11_7 dX11_change_119 rfl rfl ?_
    refine r_bipush (v := 117) dX11_change_122 (by decide) ?_
    refine r_iload dX11_change_124 rfl ?_
    refine r_iadd dX11_change_126 ?_
    obtain ⟨hb, h⟩ := ck_some h
    refine r_iald rfl (inb_vp hb) dX11_change_127 ?_
    refine r_icmp_le (tgt := 138) dX11_change_128 (by decide) (fun c => ?_) (fun c => ?_)
    · rw [if_pos c] at h
      refine r_iconst (v := 0) dX11_change_138 (by decide) ?_
      refine r_ior dX11_change_139 ?_
      refine r_istore dX11_change_140 (by decide) rfl ?_
      simp only [List.set_cons_zero, List.set_cons_succ]
      replace h := lt_some h
      refine r_iinc (v := _) dX11_change_142 rfl rfl (by decide) rfl ?_
      simp only [List.set_cons_zero, List.set_cons_succ]
      replace h := lt_some h
      refine r_goto (tgt := 46) dX11_change_145 (by decide) ?_
      exact RR.wk (hk46 _ _ _ _ _ _ _ h) (And.intro rfl (And.intro rfl (And.intro rfl (And.intro rfl (And.intro rfl (And.intro rfl (And.intro rfl (trivial))))))))
    · rw [if_neg c] at h
      refine r_iconst (v := 1) dX11_change_131 (by decide) ?_
      refine r_iload dX11_change_132 rfl ?_
      refine r_ishl dX11_change_134 ?_
      refine r_goto (tgt := 139) dX11_change_135 (by decide) ?_
      refine r_ior dX11_change_139 ?_
      refine r_istore dX11_change_140 (by decide) rfl ?_
      simp only [List.set_cons_zero, List.set_cons_succ]
      replace h := lt_some h
      refine r_iinc (v := _) dX11_change_142 rfl rfl (by decide) rfl ?_
      simp only [List.set_cons_zero, List.set_cons_succ]
      replace h := lt_some h
      refine r_goto (tgt := 46) dX11_change_145 (by decide) ?_
      exact RR.wk (hk46 _ _ _ _ _ _ _ h) (And.intro rfl (And.intro rfl (And.intro rfl (And.intro rfl (And.intro rfl (And.intro rfl (And.intro rfl (trivial))))))))
def f_X11_change_67_b92 (I : mI) (L : mL) (k46 : Int32 → Int32 → Int32 → Int32 → Int32 → Int32 → Option Int32) (x1 : Int32) (x2 : Int32) (x3 : Int32) (x4 : Int32) (x5 : Int32) (x6 : Int32) : Option Int32 := f_X11_change_67_b93 I L k46 x1 x2 x3 x4 x5 x6 0
theorem ok_X11_change_67_b92 {d : Nat} (hd : 2 ≤ d){I : mI} {L : mL} {k46 : Int32 → Int32 → Int32 → Int32 → Int32 → Int32 → Option Int32} (hk46 : ∀ (x1 : Int32) (x2 : Int32) (x3 : Int32) (x4 : Int32) (x5 : Int32) (x6 : Int32) (o : Int32), k46 x1 x2 x3 x4 x5 x6 = some o → RR mX11_change d 46 [some (.ref 67), some (.int x1), some (.int x2), some (.int x3), some (.int x4), some (.int x5), some (.int x6), none] [] I L (retQ (some (.int o)) I L)) (x1 : Int32) (x2 : Int32) (x3 : Int32) (x4 : Int32) (x5 : Int32) (x6 : Int32) {o : Int32} (h : f_X11_change_67_b92 I L k46 x1 x2 x3 x4 x5 x6 = some o) : RR mX11_change d 92 [some (.ref 67), some (.int x1), some (.int x2), some (.int x3), some (.int x4), some (.int x5), some (.int x6), none] [] I L (retQ (some (.int o)) I L) := by
  unfold f_X11_change_67_b92 at h
  refine r_iconst (v := 0) dX11_change_92 (by decide) ?_
  exact RR.wk (ok_X11_change_67_b93 hd hk46 _ _ _ _ _ _ _ h) (And.intro rfl (And.intro rfl (And.intro rfl (And.intro rfl (And.intro rfl (And.intro rfl (And.intro rfl (trivial))))))))
def f_X11_change_67_l46 (I : mI) (L : mL) : Nat → Int32 → Int32 → Int32 → Int32 → Int32 → Int32 → Option Int32
  | 0, _, _, _, _, _, _ => none
  | n + 1, x1, x2, x3, x4, x5, x6 => if (I 68 (3 : Int32).toNatClampNeg) ≤ x6 then (f_X11_change_67_l151 I L fuel x1 x2 x3 x4 x5 0) else (if x3 = 0 then (ck (inb (111 + x6) 135) (if (I 68 (111 + x6).toNatClampNeg) = x1 then (ck (inb (117 + x6) 135) (if (I 68 (117 + x6).toNatClampNeg) ≤ 0 then (f_X11_change_67_b92 I L (f_X11_change_67_l46 I L n) x1 x2 x3 x4 x5 x6) else (f_X11_change_67_b93 I L (f_X11_change_67_l46 I L n) x1 x2 x3 x4 x5 x6 1))) else (f_X11_change_67_b92 I L (f_X11_change_67_l46 I L n) x1 x2 x3 x4 x5 x6))) else (f_X11_change_67_l151 I L fuel x1 x2 x3 x4 x5 0))
theorem ok_X11_change_67_l46 {d : Nat} (hd : 2 ≤ d){I : mI} {L : mL} : ∀ (n : Nat) (x1 : Int32) (x2 : Int32) (x3 : Int32) (x4 : Int32) (x5 : Int32) (x6 : Int32) (o : Int32), f_X11_change_67_l46 I L n x1 x2 x3 x4 x5 x6 = some o → RR mX11_change d 46 [some (.ref 67), some (.int x1), some (.int x2), some (.int x3), some (.int x4), some (.int x5), some (.int x6), none] [] I L (retQ (some (.int o)) I L) := by
  intro n
  induction n with
  | zero => intro x1 x2 x3 x4 x5 x6 o h; rw [f_X11_change_67_l46] at h; cases h
  | succ n ih =>
    intro x1 x2 x3 x4 x5 x6 o h
    rw [f_X11_change_67_l46] at h
    refine r_iload dX11_change_46 rfl ?_
    refine r_aload_n (i := 0) dX11_change_48 rfl rfl ?_
    refine r_getR f_X11_7 dX11_change_49 rfl rfl ?_
    refine r_iconst (v := 3) dX11_change_52 (by decide) ?_
    refine r_iald rfl (vp_lit (by decide)) dX11_change_53 ?_
    refine r_icmp_ge (tgt := 148) dX11_change_54 (by decide) (fun c => ?_) (fun c => ?_)
    · rw [if_pos c] at h
      refine r_iconst (v := 0) dX11_change_148 (by decide) ?_
      refine r_istore dX11_change_149 (by decide) rfl ?_
      simp only [List.set_cons_zero, List.set_cons_succ]
      exact RR.wk (ok_X11_change_67_l151 hd _ _ _ _ _ _ _ _ h) (And.intro rfl (And.intro rfl (And.intro rfl (And.intro rfl (And.intro rfl (And.intro rfl (And.intro rfl (trivial))))))))
    · rw [if_neg c] at h
      refine r_iload_n (i := 3) dX11_change_57 rfl rfl ?_
      refine r_if_ne (tgt := 148) dX11_change_58 (by decide) (fun c => ?_) (fun c => ?_)
      · rw [if_neg c] at h
        refine r_iconst (v := 0) dX11_change_148 (by decide) ?_
        refine r_istore dX11_change_149 (by decide) rfl ?_
        simp only [List.set_cons_zero, List.set_cons_succ]
        exact RR.wk (ok_X11_change_67_l151 hd _ _ _ _ _ _ _ _ h) (And.intro rfl (And.intro rfl (And.intro rfl (And.intro rfl (And.intro rfl (And.intro rfl (And.intro rfl (trivial))))))))
      · rw [if_pos c] at h
        refine r_aload_n (i := 0) dX11_change_61 rfl rfl ?_
        refine r_getR f_X11_7 dX11_change_62 rfl rfl ?_
        refine r_bipush (v := 111) dX11_change_65 (by decide) ?_
        refine r_iload dX11_change_67 rfl ?_
        refine r_iadd dX11_change_69 ?_
        obtain ⟨hb, h⟩ := ck_some h
        refine r_iald rfl (inb_vp hb) dX11_change_70 ?_
        refine r_iload_n (i := 1) dX11_change_71 rfl rfl ?_
        refine r_icmp_ne (tgt := 92) dX11_change_72 (by decide) (fun c => ?_) (fun c => ?_)
        · rw [if_neg c] at h
          exact RR.wk (ok_X11_change_67_b92 hd ih _ _ _ _ _ _ h) (And.intro rfl (And.intro rfl (And.intro rfl (And.intro rfl (And.intro rfl (And.intro rfl (And.intro rfl (trivial))))))))
        · rw [if_pos c] at h
          refine r_aload_n (i := 0) dX11_change_75 rfl rfl ?_
          refine r_getR f_X11_7 dX11_change_76 rfl rfl ?_
          refine r_bipush (v := 117) dX11_change_79 (by decide) ?_
          refine r_iload dX11_change_81 rfl ?_
          refine r_iadd dX11_change_83 ?_
          obtain ⟨hb, h⟩ := ck_some h
          refine r_iald rfl (inb_vp hb) dX11_change_84 ?_
          refine r_if_le (tgt := 92) dX11_change_85 (by decide) (fun c => ?_) (fun c => ?_)
          · rw [if_pos c] at h
            exact RR.wk (ok_X11_change_67_b92 hd ih _ _ _ _ _ _ h) (And.intro rfl (And.intro rfl (And.intro rfl (And.intro rfl (And.intro rfl (And.intro rfl (And.intro rfl (trivial))))))))
          · rw [if_neg c] at h
            refine r_iconst (v := 1) dX11_change_88 (by decide) ?_
            refine r_goto (tgt := 93) dX11_change_89 (by decide) ?_
            exact RR.wk (ok_X11_change_67_b93 hd ih _ _ _ _ _ _ _ h) (And.intro rfl (And.intro rfl (And.intro rfl (And.intro rfl (And.intro rfl (And.intro rfl (And.intro rfl (trivial))))))))
def f_X11_change_67 (I : mI) (L : mL) (a1 : Int32) (a2 : Int32) (a3 : Int32) : Option Int32 := (f_X11_isParish_67 I L a1).bind (fun r1 => if r1 = 0 then (some (-1)) else ((f_X11_in I L (a2.toInt64) 1 9).bind (fun r2 => if r2 = 0 then (some (-1)) else ((f_X11_isTwo I L a3).bind (fun r3 => if r3 = 0 then (some (-1)) else (ck (inb (6 + a1) 135) (lt (I 68 (6 + a1).toNatClampNeg) (fun v4 => f_X11_change_67_l46 I L fuel a1 a2 a3 v4 0 0))))))))
theorem ok_X11_change_67 {d : Nat} (hd : 2 ≤ d) {I : mI} {L : mL} {a1 : Int32} {a2 : Int32} {a3 : Int32} {o : Int32} (h : f_X11_change_67 I L a1 a2 a3 = some o) : RR mX11_change d 0 [some (.ref 67), some (.int a1), some (.int a2), some (.int a3), none, none, none, none] [] I L (retQ (some (.int o)) I L) := by
  unfold f_X11_change_67 at h
  refine r_aload_n (i := 0) dX11_change_0 rfl rfl ?_
  refine r_iload_n (i := 1) dX11_change_1 rfl rfl ?_
  obtain ⟨r1, hr, h⟩ := bind_some h
  refine r_V (d' := 1) k_X11_68 dX11_change_2 (by omega) rfl rfl rfl (Nat.le_of_ble_eq_true rfl) (Nat.le_of_ble_eq_true rfl) (ok_X11_isParish_67 (Nat.le_refl _) hr) (fun v I' L' hq => ?_)
  obtain ⟨rfl, rfl, rfl⟩ := hq
  simp only [Option.toList_some, Option.toList_none, List.drop_succ_cons, List.drop_zero, List.drop_nil, List.cons_append, List.nil_append]
  refine r_if_eq (tgt := 27) dX11_change_5 (by decide) (fun c => ?_) (fun c => ?_)
  · rw [if_pos c] at h
    refine r_iconst (v := (-1)) dX11_change_27 (by decide) ?_
    refine r_iret (by first | rfl | decide) dX11_change_28 ?_
    obtain rfl := Option.some.inj h
    exact ⟨rfl, rfl, rfl⟩
  · rw [if_neg c] at h
    refine r_iload_n (i := 2) dX11_change_8 rfl rfl ?_
    refine r_i2l dX11_change_9 ?_
    refine r_lconst (v := 1) dX11_change_10 (by decide) ?_
    refine r_ldc2 n_X11_72 dX11_change_11 ?_
    obtain ⟨r2, hr, h⟩ := bind_some h
    refine r_S (d' := 0) k_X11_50 dX11_change_14 (by omega) rfl (Nat.le_of_ble_eq_true rfl) (Nat.le_of_ble_eq_true rfl) (ok_X11_in (Nat.le_refl _) hr) (fun v I' L' hq => ?_)
    obtain ⟨rfl, rfl, rfl⟩ := hq
    simp only [Option.toList_some, Option.toList_none, List.drop_succ_cons, List.drop_zero, List.drop_nil, List.cons_append, List.nil_append]
    refine r_if_eq (tgt := 27) dX11_change_17 (by decide) (fun c => ?_) (fun c => ?_)
    · rw [if_pos c] at h
      refine r_iconst (v := (-1)) dX11_change_27 (by decide) ?_
      refine r_iret (by first | rfl | decide) dX11_change_28 ?_
      obtain rfl := Option.some.inj h
      exact ⟨rfl, rfl, rfl⟩
    · rw [if_neg c] at h
      refine r_iload_n (i := 3) dX11_change_20 rfl rfl ?_
      obtain ⟨r3, hr, h⟩ := bind_some h
      refine r_S (d' := 1) k_X11_179 dX11_change_21 (by omega) rfl (Nat.le_of_ble_eq_true rfl) (Nat.le_of_ble_eq_true rfl) (ok_X11_isTwo (Nat.le_refl _) hr) (fun v I' L' hq => ?_)
      obtain ⟨rfl, rfl, rfl⟩ := hq
      simp only [Option.toList_some, Option.toList_none, List.drop_succ_cons, List.drop_zero, List.drop_nil, List.cons_append, List.nil_append]
      refine r_if_ne (tgt := 29) dX11_change_24 (by decide) (fun c => ?_) (fun c => ?_)
      · rw [if_neg c] at h
        refine r_aload_n (i := 0) dX11_change_29 rfl rfl ?_
        refine r_getR f_X11_7 dX11_change_30 rfl rfl ?_
        refine r_bipush (v := 6) dX11_change_33 (by decide) ?_
        refine r_iload_n (i := 1) dX11_change_35 rfl rfl ?_
        refine r_iadd dX11_change_36 ?_
        obtain ⟨hb, h⟩ := ck_some h
        refine r_iald rfl (inb_vp hb) dX11_change_37 ?_
        refine r_istore dX11_change_38 (by decide) rfl ?_
        simp only [List.set_cons_zero, List.set_cons_succ]
        replace h := lt_some h
        refine r_iconst (v := 0) dX11_change_40 (by decide) ?_
        refine r_istore dX11_change_41 (by decide) rfl ?_
        simp only [List.set_cons_zero, List.set_cons_succ]
        refine r_iconst (v := 0) dX11_change_43 (by decide) ?_
        refine r_istore dX11_change_44 (by decide) rfl ?_
        simp only [List.set_cons_zero, List.set_cons_succ]
        exact RR.wk (ok_X11_change_67_l46 hd _ _ _ _ _ _ _ _ h) (And.intro rfl (And.intro rfl (And.intro rfl (And.intro rfl (And.intro rfl (And.intro rfl (And.intro rfl (trivial))))))))
      · rw [if_pos c] at h
        refine r_iconst (v := (-1)) dX11_change_27 (by decide) ?_
        refine r_iret (by first | rfl | decide) dX11_change_28 ?_
        obtain rfl := Option.some.inj h
        exact ⟨rfl, rfl, rfl⟩
