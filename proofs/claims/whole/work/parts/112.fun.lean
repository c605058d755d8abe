def f_X11_sheet_67_l46 : Nat → Int32 → Int32 → Int32 → mI → mL → rI
  | 0, _, _, _, _, _ => none
  | n + 1, x1, x3, x4, I, L => if 24 ≤ x4 then (some (x3, I, L)) else (ck (inb ((24 * x1) + x4) 96) (lt (uL L 73 ((24 * x1) + x4).toNatClampNeg 0) (fun M5 => lt (x4 + Int32.ofInt 1) (fun v6 => f_X11_sheet_67_l46 n x1 x3 v6 I M5))))
theorem ok_X11_sheet_67_l46 {d : Nat} (hd : 2 ≤ d) : ∀ (n : Nat) (x1 : Int32) (x3 : Int32) (x4 : Int32) (I : mI) (L : mL) (o : Int32 × mI × mL), f_X11_sheet_67_l46 n x1 x3 x4 I L = some o → RR mX11_sheet d 46 [some (.ref 67), some (.int x1), none, some (.int x3), some (.int x4)] [] I L (retQ (some (.int o.1)) o.2.1 o.2.2) := by
  intro n
  induction n with
  | zero => intro x1 x3 x4 I L o h; rw [f_X11_sheet_67_l46] at h; cases h
  | succ n ih =>
    intro x1 x3 x4 I L o h
    rw [f_X11_sheet_67_l46] at h
    refine r_iload dX11_sheet_46 rfl ?_
    refine r_bipush (v := 24) dX11_sheet_48 (by decide) ?_
    refine r_icmp_ge (tgt := 72) dX11_sheet_50 (by decide) (fun c => ?_) (fun c => ?_)
    · rw [if_pos c] at h
      refine r_iload_n (i := 3) dX11_sheet_72 rfl rfl ?_
      refine r_iret (by first | rfl | decide) dX11_sheet_73 ?_
      obtain rfl := Option.some.inj h
      exact ⟨rfl, rfl, rfl⟩
    · rw [if_neg c] at h
      refine r_aload_n (i := 0) dX11_sheet_53 rfl rfl ?_
      refine r_getR f_X11_25 dX11_sheet_54 rfl rfl ?_
      refine r_bipush (v := 24) dX11_sheet_57 (by decide) ?_
      refine r_iload_n (i := 1) dX11_sheet_59 rfl rfl ?_
      refine r_imul dX11_sheet_60 ?_
      refine r_iload dX11_sheet_61 rfl ?_
      refine r_iadd dX11_sheet_63 ?_
      refine r_lconst (v := 0) dX11_sheet_64 (by decide) ?_
      obtain ⟨hb, h⟩ := ck_some h
      refine r_last rfl (inb_vp hb) dX11_sheet_65 ?_
      replace h := lt_some h
      refine r_iinc (v := _) dX11_sheet_66 rfl rfl (by decide) rfl ?_
      simp only [List.set_cons_zero, List.set_cons_succ]
      replace h := lt_some h
      refine r_goto (tgt := 46) dX11_sheet_69 (by decide) ?_
      exact RR.wk (ih _ _ _ _ _ _ h) (And.intro rfl (And.intro rfl (And.intro rfl (And.intro rfl (trivial)))))
def f_X11_sheet_67 (I : mI) (L : mL) (a1 : Int32) (a2 : Int32) (a3 : Int32) : rI := (f_X11_isSheet I L a1).bind (fun r1 => if r1 = 0 then (some ((-1), I, L)) else ((f_X11_isLane I L a2).bind (fun r2 => if r2 = 0 then (some ((-1), I, L)) else (if a3 ≤ 24 then (if 0 ≤ a3 then (ck (inb a1 4) (lt (uI I 71 a1.toNatClampNeg a2) (fun M3 => ck (inb a1 4) (lt (uI M3 72 a1.toNatClampNeg a3) (fun M4 => f_X11_sheet_67_l46 fuel a1 a3 0 M4 L))))) else (some ((-14), I, L))) else (some ((-1), I, L))))))
theorem ok_X11_sheet_67 {d : Nat} (hd : 2 ≤ d) {I : mI} {L : mL} {a1 : Int32} {a2 : Int32} {a3 : Int32} {o : Int32 × mI × mL} (h : f_X11_sheet_67 I L a1 a2 a3 = some o) : RR mX11_sheet d 0 [some (.ref 67), some (.int a1), some (.int a2), some (.int a3), none] [] I L (retQ (some (.int o.1)) o.2.1 o.2.2) := by
  unfold f_X11_sheet_67 at h
  refine r_iload_n (i := 1) dX11_sheet_0 rfl rfl ?_
  obtain ⟨r1, hr, h⟩ := bind_some h
  refine r_S (d' := 1) k_X11_220 dX11_sheet_1 (by omega) rfl (Nat.le_of_ble_eq_true rfl) (Nat.le_of_ble_eq_true rfl) (ok_X11_isSheet (Nat.le_refl _) hr) (fun v I' L' hq => ?_)
  obtain ⟨rfl, rfl, rfl⟩ := hq
  simp only [Option.toList_some, Option.toList_none, List.drop_succ_cons, List.drop_zero, List.drop_nil, List.cons_append, List.nil_append]
  refine r_if_eq (tgt := 20) dX11_sheet_4 (by decide) (fun c => ?_) (fun c => ?_)
  · rw [if_pos c] at h
    refine r_iconst (v := (-1)) dX11_sheet_20 (by decide) ?_
    refine r_iret (by first | rfl | decide) dX11_sheet_21 ?_
    obtain rfl := Option.some.inj h
    exact ⟨rfl, rfl, rfl⟩
  · rw [if_neg c] at h
    refine r_iload_n (i := 2) dX11_sheet_7 rfl rfl ?_
    obtain ⟨r2, hr, h⟩ := bind_some h
    refine r_S (d' := 1) k_X11_223 dX11_sheet_8 (by omega) rfl (Nat.le_of_ble_eq_true rfl) (Nat.le_of_ble_eq_true rfl) (ok_X11_isLane (Nat.le_refl _) hr) (fun v I' L' hq => ?_)
    obtain ⟨rfl, rfl, rfl⟩ := hq
    simp only [Option.toList_some, Option.toList_none, List.drop_succ_cons, List.drop_zero, List.drop_nil, List.cons_append, List.nil_append]
    refine r_if_eq (tgt := 20) dX11_sheet_11 (by decide) (fun c => ?_) (fun c => ?_)
    · rw [if_pos c] at h
      refine r_iconst (v := (-1)) dX11_sheet_20 (by decide) ?_
      refine r_iret (by first | rfl | decide) dX11_sheet_21 ?_
      obtain rfl := Option.some.inj h
      exact ⟨rfl, rfl, rfl⟩
    · rw [if_neg c] at h
      refine r_iload_n (i := 3) dX11_sheet_14 rfl rfl ?_
      refine r_bipush (v := 24) dX11_sheet_15 (by decide) ?_
      refine r_icmp_le (tgt := 22) dX11_sheet_17 (by decide) (fun c => ?_) (fun c => ?_)
      · rw [if_pos c] at h
        refine r_iload_n (i := 3) dX11_sheet_22 rfl rfl ?_
        refine r_if_ge (tgt := 29) dX11_sheet_23 (by decide) (fun c => ?_) (fun c => ?_)
        · rw [if_pos c] at h
          refine r_aload_n (i := 0) dX11_sheet_29 rfl rfl ?_
          refine r_getR f_X11_19 dX11_sheet_30 rfl rfl ?_
          refine r_iload_n (i := 1) dX11_sheet_33 rfl rfl ?_
          refine r_iload_n (i := 2) dX11_sheet_34 rfl rfl ?_
          obtain ⟨hb, h⟩ := ck_some h
          refine r_iast rfl (inb_vp hb) dX11_sheet_35 ?_
          replace h := lt_some h
          refine r_aload_n (i := 0) dX11_sheet_36 rfl rfl ?_
          refine r_getR f_X11_22 dX11_sheet_37 rfl rfl ?_
          refine r_iload_n (i := 1) dX11_sheet_40 rfl rfl ?_
          refine r_iload_n (i := 3) dX11_sheet_41 rfl rfl ?_
          obtain ⟨hb, h⟩ := ck_some h
          refine r_iast rfl (inb_vp hb) dX11_sheet_42 ?_
          replace h := lt_some h
          refine r_iconst (v := 0) dX11_sheet_43 (by decide) ?_
          refine r_istore dX11_sheet_44 (by decide) rfl ?_
          simp only [List.set_cons_zero, List.set_cons_succ]
          exact RR.wk (ok_X11_sheet_67_l46 hd _ _ _ _ _ _ _ h) (And.intro rfl (And.intro rfl (And.intro rfl (And.intro rfl (trivial)))))
        · rw [if_neg c] at h
          refine r_bipush (v := (-14)) dX11_sheet_26 (by decide) ?_
          refine r_iret (by first | rfl | decide) dX11_sheet_28 ?_
          obtain rfl := Option.some.inj h
          exact ⟨rfl, rfl, rfl⟩
      · rw [if_neg c] at h
        refine r_iconst (v := (-1)) dX11_sheet_20 (by decide) ?_
        refine r_iret (by first | rfl | decide) dX11_sheet_21 ?_
        obtain rfl := Option.some.inj h
        exact ⟨rfl, rfl, rfl⟩
def f_X11_drop_67 (I : mI) (L : mL) (a1 : Int32) : rI := (f_X11_isSheet I L a1).bind (fun r1 => if r1 = 0 then (some ((-1), I, L)) else (ck (inb a1 4) (if 0 ≤ (I 72 a1.toNatClampNeg) then (ck (inb a1 4) (lt (I 72 a1.toNatClampNeg) (fun v2 => ck (inb a1 4) (lt (uI I 72 a1.toNatClampNeg (-1)) (fun M3 => some (v2, M3, L)))))) else (some ((-11), I, L)))))
theorem ok_X11_drop_67 {d : Nat} (hd : 2 ≤ d) {I : mI} {L : mL} {a1 : Int32} {o : Int32 × mI × mL} (h : f_X11_drop_67 I L a1 = some o) : RR mX11_drop d 0 [some (.ref 67), some (.int a1), none] [] I L (retQ (some (.int o.1)) o.2.1 o.2.2) := by
  unfold f_X11_drop_67 at h
  refine r_iload_n (i := 1) dX11_drop_0 rfl rfl ?_
  obtain ⟨r1, hr, h⟩ := bind_some h
  refine r_S (d' := 1) k_X11_220 dX11_drop_1 (by omega) rfl (Nat.le_of_ble_eq_true rfl) (Nat.le_of_ble_eq_true rfl) (ok_X11_isSheet (Nat.le_refl _) hr) (fun v I' L' hq => ?_)
  obtain ⟨rfl, rfl, rfl⟩ := hq
  simp only [Option.toList_some, Option.toList_none, List.drop_succ_cons, List.drop_zero, List.drop_nil, List.cons_append, List.nil_append]
  refine r_if_ne (tgt := 9) dX11_drop_4 (by decide) (fun c => ?_) (fun c => ?_)
  · rw [if_neg c] at h
    refine r_aload_n (i := 0) dX11_drop_9 rfl rfl ?_
    refine r_getR f_X11_22 dX11_drop_10 rfl rfl ?_
    refine r_iload_n (i := 1) dX11_drop_13 rfl rfl ?_
    obtain ⟨hb, h⟩ := ck_some h
    refine r_iald rfl (inb_vp hb) dX11_drop_14 ?_
    refine r_if_ge (tgt := 21) dX11_drop_15 (by decide) (fun c => ?_) (fun c => ?_)
    · rw [if_pos c] at h
      refine r_aload_n (i := 0) dX11_drop_21 rfl rfl ?_
      refine r_getR f_X11_22 dX11_drop_22 rfl rfl ?_
      refine r_iload_n (i := 1) dX11_drop_25 rfl rfl ?_
      obtain ⟨hb, h⟩ := ck_some h
      refine r_iald rfl (inb_vp hb) dX11_drop_26 ?_
      refine r_istore_n (i := 2) dX11_drop_27 rfl (by decide) rfl ?_
      simp only [List.set_cons_zero, List.set_cons_succ]
      replace h := lt_some h
      refine r_aload_n (i := 0) dX11_drop_28 rfl rfl ?_
      refine r_getR f_X11_22 dX11_drop_29 rfl rfl ?_
      refine r_iload_n (i := 1) dX11_drop_32 rfl rfl ?_
      refine r_iconst (v := (-1)) dX11_drop_33 (by decide) ?_
      obtain ⟨hb, h⟩ := ck_some h
      refine r_iast rfl (inb_vp hb) dX11_drop_34 ?_
      replace h := lt_some h
      refine r_iload_n (i := 2) dX11_drop_35 rfl rfl ?_
      refine r_iret (by first | rfl | decide) dX11_drop_36 ?_
      obtain rfl := Option.some.inj h
      exact ⟨rfl, rfl, rfl⟩
    · rw [if_neg c] at h
      refine r_bipush (v := (-11)) dX11_drop_18 (by decide) ?_
      refine r_iret (by first | rfl | decide) dX11_drop_20 ?_
      obtain rfl := Option.some.inj h
      exact ⟨rfl, rfl, rfl⟩
  · rw [if_pos c] at h
    refine r_iconst (v := (-1)) dX11_drop_7 (by decide) ?_
    refine r_iret (by first | rfl | decide) dX11_drop_8 ?_
    obtain rfl := Option.some.inj h
    exact ⟨rfl, rfl, rfl⟩
def f_X11_item_67 (I : mI) (L : mL) (a1 : Int32) (a2 : Int32) (a3 : Int32) (a4 : Int64) : rI := (f_X11_isSheet I L a1).bind (fun r1 => if r1 = 0 then (some ((-1), I, L)) else ((f_X11_isLane I L a2).bind (fun r2 => if r2 = 0 then (some ((-1), I, L)) else ((f_X11_finds_67 I L a1 a2 a3 1).bind (fun r3 => if 0 ≤ r3 then ((f_X11_cut I L a2 a4).bind (fun r4 => ck (inb ((24 * a1) + a3) 96) (lt (uL L 73 ((24 * a1) + a3).toNatClampNeg r4) (fun M5 => some (1, I, M5))))) else (some (r3, I, L)))))))
theorem ok_X11_item_67 {d : Nat} (hd : 2 ≤ d) {I : mI} {L : mL} {a1 : Int32} {a2 : Int32} {a3 : Int32} {a4 : Int64} {o : Int32 × mI × mL} (h : f_X11_item_67 I L a1 a2 a3 a4 = some o) : RR mX11_item d 0 [some (.ref 67), some (.int a1), some (.int a2), some (.int a3), some (.long a4), none, none] [] I L (retQ (some (.int o.1)) o.2.1 o.2.2) := by
  unfold f_X11_item_67 at h
  refine r_iload_n (i := 1) dX11_item_0 rfl rfl ?_
  obtain ⟨r1, hr, h⟩ := bind_some h
  refine r_S (d' := 1) k_X11_220 dX11_item_1 (by omega) rfl (Nat.le_of_ble_eq_true rfl) (Nat.le_of_ble_eq_true rfl) (ok_X11_isSheet (Nat.le_refl _) hr) (fun v I' L' hq => ?_)
  obtain ⟨rfl, rfl, rfl⟩ := hq
  simp only [Option.toList_some, Option.toList_none, List.drop_succ_cons, List.drop_zero, List.drop_nil, List.cons_append, List.nil_append]
  refine r_if_eq (tgt := 14) dX11_item_4 (by decide) (fun c => ?_) (fun c => ?_)
  · rw [if_pos c] at h
    refine r_iconst (v := (-1)) dX11_item_14 (by decide) ?_
    refine r_iret (by first | rfl | decide) dX11_item_15 ?_
    obtain rfl := Option.some.inj h
    exact ⟨rfl, rfl, rfl⟩
  · rw [if_neg c] at h
    refine r_iload_n (i := 2) dX11_item_7 rfl rfl ?_
    obtain ⟨r2, hr, h⟩ := bind_some h
    refine r_S (d' := 1) k_X11_223 dX11_item_8 (by omega) rfl (Nat.le_of_ble_eq_true rfl) (Nat.le_of_ble_eq_true rfl) (ok_X11_isLane (Nat.le_refl _) hr) (fun v I' L' hq => ?_)
    obtain ⟨rfl, rfl, rfl⟩ := hq
    simp only [Option.toList_some, Option.toList_none, List.drop_succ_cons, List.drop_zero, List.drop_nil, List.cons_append, List.nil_append]
    refine r_if_ne (tgt := 16) dX11_item_11 (by decide) (fun c => ?_) (fun c => ?_)
    · rw [if_neg c] at h
      refine r_aload_n (i := 0) dX11_item_16 rfl rfl ?_
      refine r_iload_n (i := 1) dX11_item_17 rfl rfl ?_
      refine r_iload_n (i := 2) dX11_item_18 rfl rfl ?_
      refine r_iload_n (i := 3) dX11_item_19 rfl rfl ?_
      refine r_iconst (v := 1) dX11_item_20 (by decide) ?_
      obtain ⟨r3, hr, h⟩ := bind_some h
      refine r_V (d' := 0) k_X11_226 dX11_item_21 (by omega) rfl rfl rfl (Nat.le_of_ble_eq_true rfl) (Nat.le_of_ble_eq_true rfl) (ok_X11_finds_67 (Nat.le_refl _) hr) (fun v I' L' hq => ?_)
      obtain ⟨rfl, rfl, rfl⟩ := hq
      simp only [Option.toList_some, Option.toList_none, List.drop_succ_cons, List.drop_zero, List.drop_nil, List.cons_append, List.nil_append]
      refine r_istore dX11_item_24 (by decide) rfl ?_
      simp only [List.set_cons_zero, List.set_cons_succ]
      refine r_iload dX11_item_26 rfl ?_
      refine r_if_ge (tgt := 34) dX11_item_28 (by decide) (fun c => ?_) (fun c => ?_)
      · rw [if_pos c] at h
        refine r_aload_n (i := 0) dX11_item_34 rfl rfl ?_
        refine r_getR f_X11_25 dX11_item_35 rfl rfl ?_
        refine r_bipush (v := 24) dX11_item_38 (by decide) ?_
        refine r_iload_n (i := 1) dX11_item_40 rfl rfl ?_
        refine r_imul dX11_item_41 ?_
        refine r_iload_n (i := 3) dX11_item_42 rfl rfl ?_
        refine r_iadd dX11_item_43 ?_
        refine r_iload_n (i := 2) dX11_item_44 rfl rfl ?_
        refine r_lload dX11_item_45 rfl ?_
        obtain ⟨r4, hr, h⟩ := bind_some h
        refine r_S (d' := 0) k_X11_245 dX11_item_47 (by omega) rfl (Nat.le_of_ble_eq_true rfl) (Nat.le_of_ble_eq_true rfl) (ok_X11_cut (Nat.le_refl _) hr) (fun v I' L' hq => ?_)
        obtain ⟨rfl, rfl, rfl⟩ := hq
        simp only [Option.toList_some, Option.toList_none, List.drop_succ_cons, List.drop_zero, List.drop_nil, List.cons_append, List.nil_append]
        obtain ⟨hb, h⟩ := ck_some h
        refine r_last rfl (inb_vp hb) dX11_item_50 ?_
        replace h := lt_some h
        refine r_iconst (v := 1) dX11_item_51 (by decide) ?_
        refine r_iret (by first | rfl | decide) dX11_item_52 ?_
        obtain rfl := Option.some.inj h
        exact ⟨rfl, rfl, rfl⟩
      · rw [if_neg c] at h
        refine r_iload dX11_item_31 rfl ?_
        refine r_iret (by first | rfl | decide) dX11_item_33 ?_
        obtain rfl := Option.some.inj h
        exact ⟨rfl, rfl, rfl⟩
    · rw [if_pos c] at h
      refine r_iconst (v := (-1)) dX11_item_14 (by decide) ?_
      refine r_iret (by first | rfl | decide) dX11_item_15 ?_
      obtain rfl := Option.some.inj h
      exact ⟨rfl, rfl, rfl⟩
def f_X11_copy_67_b116 (I : mI) (L : mL) (k91 : Int32 → Int32 → Int32 → Int32 → Int32 → Int32 → mI → mL → rI) (x1 : Int32) (x2 : Int32) (x3 : Int32) (x4 : Int32) (x5 : Int32) (x8 : Int32) (s0 : Int32) : rI := ck (inb (((24 * x1) + x2) + s0) 96) (ck (inb (((24 * x3) + x4) + s0) 96) (lt (uL L 73 (((24 * x3) + x4) + s0).toNatClampNeg (L 73 (((24 * x1) + x2) + s0).toNatClampNeg)) (fun M5 => lt (x8 + Int32.ofInt 1) (fun v6 => k91 x1 x2 x3 x4 x5 v6 I M5))))
theorem ok_X11_copy_67_b116 {d : Nat} (hd : 2 ≤ d){I : mI} {L : mL} {k91 : Int32 → Int32 → Int32 → Int32 → Int32 → Int32 → mI → mL → rI} (hk91 : ∀ (x1 : Int32) (x2 : Int32) (x3 : Int32) (x4 : Int32) (x5 : Int32) (x8 : Int32) (I : mI) (L : mL) (o : Int32 × mI × mL), k91 x1 x2 x3 x4 x5 x8 I L = some o → RR mX11_copy d 91 [some (.ref 67), some (.int x1), some (.int x2), some (.int x3), some (.int x4), some (.int x5), none, none, some (.int x8), none] [] I L (retQ (some (.int o.1)) o.2.1 o.2.2)) (x1 : Int32) (x2 : Int32) (x3 : Int32) (x4 : Int32) (x5 : Int32) (x8 : Int32) (s0 : Int32) {o : Int32 × mI × mL} (h : f_X11_copy_67_b116 I L k91 x1 x2 x3 x4 x5 x8 s0 = some o) : RR mX11_copy d 116 [some (.ref 67), some (.int x1), some (.int x2), some (.int x3), some (.int x4), some (.int x5), none, none, some (.int x8), none] [.int s0] I L (retQ (some (.int o.1)) o.2.1 o.2.2) := by
  unfold f_X11_copy_67_b116 at h
  refine r_istore dX11_copy_116 (by decide) rfl ?_
  simp only [List.set_cons_zero, List.set_cons_succ]
  refine r_aload_n (i := 0) dX11_copy_118 rfl rfl ?_
  refine r_getR f_X11_25 dX11_copy_119 rfl rfl ?_
  refine r_bipush (v := 24) dX11_copy_122 (by decide) ?_
  refine r_iload_n (i := 3) dX11_copy_124 rfl rfl ?_
  refine r_imul dX11_copy_125 ?_
  refine r_iload dX11_copy_126 rfl ?_
  refine r_iadd dX11_copy_128 ?_
  refine r_iload dX11_copy_129 rfl ?_
  refine r_iadd dX11_copy_131 ?_
  refine r_aload_n (i := 0) dX11_copy_132 rfl rfl ?_
  refine r_getR f_X11_25 dX11_copy_133 rfl rfl ?_
  refine r_bipush (v := 24) dX11_copy_136 (by decide) ?_
  refine r_iload_n (i := 1) dX11_copy_138 rfl rfl ?_
  refine r_imul dX11_copy_139 ?_
  refine r_iload_n (i := 2) dX11_copy_140 rfl rfl ?_
  refine r_iadd dX11_copy_141 ?_
  refine r_iload dX11_copy_142 rfl ?_
  refine r_iadd dX11_copy_144 ?_
  obtain ⟨hb, h⟩ := ck_some h
  refine r_lald rfl (inb_vp hb) dX11_copy_145 ?_
  obtain ⟨hb, h⟩ := ck_some h
  refine r_last rfl (inb_vp hb) dX11_copy_146 ?_
  replace h := lt_some h
  refine r_iinc (v := _) dX11_copy_147 rfl rfl (by decide) rfl ?_
  simp only [List.set_cons_zero, List.set_cons_succ]
  replace h := lt_some h
  refine r_goto (tgt := 91) dX11_copy_150 (by decide) ?_
  exact RR.wk (hk91 _ _ _ _ _ _ _ _ _ h) (And.intro rfl (And.intro rfl (And.intro rfl (And.intro rfl (And.intro rfl (And.intro rfl (And.intro rfl (trivial))))))))
def f_X11_copy_67_l91 : Nat → Int32 → Int32 → Int32 → Int32 → Int32 → Int32 → mI → mL → rI
  | 0, _, _, _, _, _, _, _, _ => none
  | n + 1, x1, x2, x3, x4, x5, x8, I, L => if x5 ≤ x8 then (some (x5, I, L)) else (if x4 ≤ x2 then (f_X11_copy_67_b116 I L (f_X11_copy_67_l91 n) x1 x2 x3 x4 x5 x8 x8) else (f_X11_copy_67_b116 I L (f_X11_copy_67_l91 n) x1 x2 x3 x4 x5 x8 ((x5 - 1) - x8)))
theorem ok_X11_copy_67_l91 {d : Nat} (hd : 2 ≤ d) : ∀ (n : Nat) (x1 : Int32) (x2 : Int32) (x3 : Int32) (x4 : Int32) (x5 : Int32) (x8 : Int32) (I : mI) (L : mL) (o : Int32 × mI × mL), f_X11_copy_67_l91 n x1 x2 x3 x4 x5 x8 I L = some o → RR mX11_copy d 91 [some (.ref 67), some (.int x1), some (.int x2), some (.int x3), some (.int x4), some (.int x5), none, none, some (.int x8), none] [] I L (retQ (some (.int o.1)) o.2.1 o.2.2) := by
  intro n
  induction n with
  | zero => intro x1 x2 x3 x4 x5 x8 I L o h; rw [f_X11_copy_67_l91] at h; cases h
  | succ n ih =>
    intro x1 x2 x3 x4 x5 x8 I L o h
    rw [f_X11_copy_67_l91] at h
    refine r_iload dX11_copy_91 rfl ?_
    refine r_iload dX11_copy_93 rfl ?_
    refine r_icmp_ge (tgt := 153) dX11_copy_95 (by decide) (fun c => ?_) (fun c => ?_)
    · rw [if_pos c] at h
      refine r_iload dX11_copy_153 rfl ?_
      refine r_iret (by first | rfl | decide) dX11_copy_155 ?_
      obtain rfl := Option.some.inj h
      exact ⟨rfl, rfl, rfl⟩
    · rw [if_neg c] at h
      refine r_iload dX11_copy_98 rfl ?_
      refine r_iload_n (i := 2) dX11_copy_100 rfl rfl ?_
      refine r_icmp_le (tgt := 114) dX11_copy_101 (by decide) (fun c => ?_) (fun c => ?_)
      · rw [if_pos c] at h
        refine r_iload dX11_copy_114 rfl ?_
        exact RR.wk (ok_X11_copy_67_b116 hd ih _ _ _ _ _ _ _ h) (And.intro rfl (And.intro rfl (And.intro rfl (And.intro rfl (And.intro rfl (And.intro rfl (And.intro rfl (trivial))))))))
      · rw [if_neg c] at h
        refine r_iload dX11_copy_104 rfl ?_
        refine r_iconst (v := 1) dX11_copy_106 (by decide) ?_
        refine r_isub dX11_copy_107 ?_
        refine r_iload dX11_copy_108 rfl ?_
        refine r_isub dX11_copy_110 ?_
        refine r_goto (tgt := 116) dX11_copy_111 (by decide) ?_
        exact RR.wk (ok_X11_copy_67_b116 hd ih _ _ _ _ _ _ _ h) (And.intro rfl (And.intro rfl (And.intro rfl (And.intro rfl (And.intro rfl (And.intro rfl (And.intro rfl (trivial))))))))
def f_X11_copy_67_b78 (I : mI) (L : mL) (x1 : Int32) (x2 : Int32) (x3 : Int32) (x4 : Int32) (x5 : Int32) (s0 : Int32) : rI := if 0 ≤ s0 then (f_X11_copy_67_l91 fuel x1 x2 x3 x4 x5 0 I L) else (some (s0, I, L))
theorem ok_X11_copy_67_b78 {d : Nat} (hd : 2 ≤ d){I : mI} {L : mL} (x1 : Int32) (x2 : Int32) (x3 : Int32) (x4 : Int32) (x5 : Int32) (s0 : Int32) {o : Int32 × mI × mL} (h : f_X11_copy_67_b78 I L x1 x2 x3 x4 x5 s0 = some o) : RR mX11_copy d 78 [some (.ref 67), some (.int x1), some (.int x2), some (.int x3), some (.int x4), some (.int x5), none, none, none, none] [.int s0] I L (retQ (some (.int o.1)) o.2.1 o.2.2) := by
  unfold f_X11_copy_67_b78 at h
  refine r_istore dX11_copy_78 (by decide) rfl ?_
  simp only [List.set_cons_zero, List.set_cons_succ]
  refine r_iload dX11_copy_80 rfl ?_
  refine r_if_ge (tgt := 88) dX11_copy_82 (by decide) (fun c => ?_) (fun c => ?_)
  · rw [if_pos c] at h
    refine r_iconst (v := 0) dX11_copy_88 (by decide) ?_
    refine r_istore dX11_copy_89 (by decide) rfl ?_
    simp only [List.set_cons_zero, List.set_cons_succ]
    exact RR.wk (ok_X11_copy_67_l91 hd _ _ _ _ _ _ _ _ _ _ h) (And.intro rfl (And.intro rfl (And.intro rfl (And.intro rfl (And.intro rfl (And.intro rfl (And.intro rfl (trivial))))))))
  · rw [if_neg c] at h
    refine r_iload dX11_copy_85 rfl ?_
    refine r_iret (by first | rfl | decide) dX11_copy_87 ?_
    obtain rfl := Option.some.inj h
    exact ⟨rfl, rfl, rfl⟩
def f_X11_copy_67 (I : mI) (L : mL) (a1 : Int32) (a2 : Int32) (a3 : Int32) (a4 : Int32) (a5 : Int32) : rI := (f_X11_isSheet I L a1).bind (fun r1 => if r1 = 0 then (some ((-1), I, L)) else ((f_X11_isSheet I L a3).bind (fun r2 => if r2 = 0 then (some ((-1), I, L)) else (ck (inb a1 4) (if (I 72 a1.toNatClampNeg) < 0 then (some ((-11), I, L)) else (ck (inb a3 4) (if 0 ≤ (I 72 a3.toNatClampNeg) then (ck (inb a3 4) ((f_X11_finds_67 I L a1 (I 71 a3.toNatClampNeg) a2 a5).bind (fun r3 => if 0 ≤ r3 then (ck (inb a3 4) ((f_X11_finds_67 I L a3 (I 71 a3.toNatClampNeg) a4 a5).bind (fun r4 => f_X11_copy_67_b78 I L a1 a2 a3 a4 a5 r4))) else (f_X11_copy_67_b78 I L a1 a2 a3 a4 a5 r3)))) else (some ((-11), I, L)))))))))
theorem ok_X11_copy_67 {d : Nat} (hd : 2 ≤ d) {I : mI} {L : mL} {a1 : Int32} {a2 : Int32} {a3 : Int32} {a4 : Int32} {a5 : Int32} {o : Int32 × mI × mL} (h : f_X11_copy_67 I L a1 a2 a3 a4 a5 = some o) : RR mX11_copy d 0 [some (.ref 67), some (.int a1), some (.int a2), some (.int a3), some (.int a4), some (.int a5), none, none, none, none] [] I L (retQ (some (.int o.1)) o.2.1 o.2.2) := by
  unfold f_X11_copy_67 at h
  refine r_iload_n (i := 1) dX11_copy_0 rfl rfl ?_
  obtain ⟨r1, hr, h⟩ := bind_some h
  refine r_S (d' := 1) k_X11_220 dX11_copy_1 (by omega) rfl (Nat.le_of_ble_eq_true rfl) (Nat.le_of_ble_eq_true rfl) (ok_X11_isSheet (Nat.le_refl _) hr) (fun v I' L' hq => ?_)
  obtain ⟨rfl, rfl, rfl⟩ := hq
  simp only [Option.toList_some, Option.toList_none, List.drop_succ_cons, List.drop_zero, List.drop_nil, List.cons_append, List.nil_append]
  refine r_if_eq (tgt := 14) dX11_copy_4 (by decide) (fun c => ?_) (fun c => ?_)
  · rw [if_pos c] at h
    refine r_iconst (v := (-1)) dX11_copy_14 (by decide) ?_
    refine r_iret (by first | rfl | decide) dX11_copy_15 ?_
    obtain rfl := Option.some.inj h
    exact ⟨rfl, rfl, rfl⟩
  · rw [if_neg c] at h
    refine r_iload_n (i := 3) dX11_copy_7 rfl rfl ?_
    obtain ⟨r2, hr, h⟩ := bind_some h
    refine r_S (d' := 1) k_X11_220 dX11_copy_8 (by omega) rfl (Nat.le_of_ble_eq_true rfl) (Nat.le_of_ble_eq_true rfl) (ok_X11_isSheet (Nat.le_refl _) hr) (fun v I' L' hq => ?_)
    obtain ⟨rfl, rfl, rfl⟩ := hq
    simp only [Option.toList_some, Option.toList_none, List.drop_succ_cons, List.drop_zero, List.drop_nil, List.cons_append, List.nil_append]
    refine r_if_ne (tgt := 16) dX11_copy_11 (by decide) (fun c => ?_) (fun c => ?_)
    · rw [if_neg c] at h
      refine r_aload_n (i := 0) dX11_copy_16 rfl rfl ?_
      refine r_getR f_X11_22 dX11_copy_17 rfl rfl ?_
      refine r_iload_n (i := 1) dX11_copy_20 rfl rfl ?_
      obtain ⟨hb, h⟩ := ck_some h
      refine r_iald rfl (inb_vp hb) dX11_copy_21 ?_
      refine r_if_lt (tgt := 34) dX11_copy_22 (by decide) (fun c => ?_) (fun c => ?_)
      · rw [if_pos c] at h
        refine r_bipush (v := (-11)) dX11_copy_34 (by decide) ?_
        refine r_iret (by first | rfl | decide) dX11_copy_36 ?_
        obtain rfl := Option.some.inj h
        exact ⟨rfl, rfl, rfl⟩
      · rw [if_neg c] at h
        refine r_aload_n (i := 0) dX11_copy_25 rfl rfl ?_
        refine r_getR f_X11_22 dX11_copy_26 rfl rfl ?_
        refine r_iload_n (i := 3) dX11_copy_29 rfl rfl ?_
        obtain ⟨hb, h⟩ := ck_some h
        refine r_iald rfl (inb_vp hb) dX11_copy_30 ?_
        refine r_if_ge (tgt := 37) dX11_copy_31 (by decide) (fun c => ?_) (fun c => ?_)
        · rw [if_pos c] at h
          refine r_aload_n (i := 0) dX11_copy_37 rfl rfl ?_
          refine r_iload_n (i := 1) dX11_copy_38 rfl rfl ?_
          refine r_aload_n (i := 0) dX11_copy_39 rfl rfl ?_
          refine r_getR f_X11_19 dX11_copy_40 rfl rfl ?_
          refine r_iload_n (i := 3) dX11_copy_43 rfl rfl ?_
          obtain ⟨hb, h⟩ := ck_some h
          refine r_iald rfl (inb_vp hb) dX11_copy_44 ?_
          refine r_iload_n (i := 2) dX11_copy_45 rfl rfl ?_
          refine r_iload dX11_copy_46 rfl ?_
          obtain ⟨r3, hr, h⟩ := bind_some h
          refine r_V (d' := 0) k_X11_226 dX11_copy_48 (by omega) rfl rfl rfl (Nat.le_of_ble_eq_true rfl) (Nat.le_of_ble_eq_true rfl) (ok_X11_finds_67 (Nat.le_refl _) hr) (fun v I' L' hq => ?_)
          obtain ⟨rfl, rfl, rfl⟩ := hq
          simp only [Option.toList_some, Option.toList_none, List.drop_succ_cons, List.drop_zero, List.drop_nil, List.cons_append, List.nil_append]
          refine r_istore dX11_copy_51 (by decide) rfl ?_
          simp only [List.set_cons_zero, List.set_cons_succ]
          refine r_iload dX11_copy_53 rfl ?_
          refine r_if_ge (tgt := 63) dX11_copy_55 (by decide) (fun c => ?_) (fun c => ?_)
          · rw [if_pos c] at h
            refine r_aload_n (i := 0) dX11_copy_63 rfl rfl ?_
            refine r_iload_n (i := 3) dX11_copy_64 rfl rfl ?_
            refine r_aload_n (i := 0) dX11_copy_65 rfl rfl ?_
            refine r_getR f_X11_19 dX11_copy_66 rfl rfl ?_
            refine r_iload_n (i := 3) dX11_copy_69 rfl rfl ?_
            obtain ⟨hb, h⟩ := ck_some h
            refine r_iald rfl (inb_vp hb) dX11_copy_70 ?_
            refine r_iload dX11_copy_71 rfl ?_
            refine r_iload dX11_copy_73 rfl ?_
            obtain ⟨r4, hr, h⟩ := bind_some h
            refine r_V (d' := 0) k_X11_226 dX11_copy_75 (by omega) rfl rfl rfl (Nat.le_of_ble_eq_true rfl) (Nat.le_of_ble_eq_true rfl) (ok_X11_finds_67 (Nat.le_refl _) hr) (fun v I' L' hq => ?_)
            obtain ⟨rfl, rfl, rfl⟩ := hq
            simp only [Option.toList_some, Option.toList_none, List.drop_succ_cons, List.drop_zero, List.drop_nil, List.cons_append, List.nil_append]
            exact RR.wk (ok_X11_copy_67_b78 hd _ _ _ _ _ _ h) (And.intro rfl (And.intro rfl (And.intro rfl (And.intro rfl (And.intro rfl (And.intro rfl (trivial)))))))
          · rw [if_neg c] at h
            refine r_iload dX11_copy_58 rfl ?_
            refine r_goto (tgt := 78) dX11_copy_60 (by decide) ?_
            exact RR.wk (ok_X11_copy_67_b78 hd _ _ _ _ _ _ h) (And.intro rfl (And.intro rfl (And.intro rfl (And.intro rfl (And.intro rfl (And.intro rfl (trivial)))))))
        · rw [if_neg c] at h
          refine r_bipush (v := (-11)) dX11_copy_34 (by decide) ?_
          refine r_iret (by first | rfl | decide) dX11_copy_36 ?_
          obtain rfl := Option.some.inj h
          exact ⟨rfl, rfl, rfl⟩
    · rw [if_pos c] at h
      refine r_iconst (v := (-1)) dX11_copy_14 (by decide) ?_
      refine r_iret (by first | rfl | decide) dX11_copy_15 ?_
      obtain rfl := Option.some.inj h
      exact ⟨rfl, rfl, rfl⟩
