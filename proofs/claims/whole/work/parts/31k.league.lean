/-! leagues -/
section League
variable {I J : mI} {L : mL} {v : mV}
theorem hasSet_n {n : Nat} {a : Int32} (h : I 2 5 = nI n) (hn : n ≤ 8) : f_X3_hasSet_2 I L a = some (bit (0 ≤ a.toInt ∧ a.toInt < ((2 ^ n : Nat) : Int))) := by
  have p8 : 2 ^ n ≤ 2 ^ 8 := Nat.pow_le_pow_right (by omega) hn
  unfold f_X3_hasSet_2
  rw [h, shl_nI (by omega), has_eq, has_n rfl (by omega)]
theorem isSet_n {n : Nat} {a : Int32} (h : I 68 0 = nI n) (hn : n ≤ 8) : f_X11_isSet_67 I L a = some (bit (0 ≤ a.toInt ∧ a.toInt < ((2 ^ n : Nat) : Int))) := by
  have p8 : 2 ^ n ≤ 2 ^ 8 := Nat.pow_le_pow_right (by omega) hn
  unfold f_X11_isSet_67
  rw [cl0, h, shl_nI (by omega), in_p (by omega), Option.bind_some, ck_t bit_isb]
/-- what a good brings in a league -/
noncomputable def nti (v : mV) (ca lg g : Nat) : Int32 := match mkv v ca lg g with
  | none => nI 0
  | some p => nI (v (105 + g) * wV v p (v (99 + g))) - nI (DD v ca (v (99 + g)) lg (v (111 + g)) p)
noncomputable def tot (v : mV) (ca lg : Nat) : Nat → Int32
  | 0 => nI 0
  | k + 1 => tot v ca lg k + nti v ca lg k
theorem HR.lg {ca lg : Nat} (h : HR I v ca lg) (s : Nat) : HR (uI I 48 11 (nI s)) v ca s := by
  obtain ⟨a, b, c, d, e⟩ := h
  exact ⟨by rw [uI_at, if_neg (by omega)]; exact a, by rw [uI_at, if_neg (by omega)]; exact b, by rw [uI_at, if_neg (by omega)]; exact c, uI_same _ _ _ _, fun x y hx hy => by rw [uI_cell (by omega)]; exact e x y hx hy⟩
theorem addTotal_eq (hw : WF v) (hc : CH I 0 v) {ca lg g s : Nat} (hca : ca < v 2) (hg : g < v 3) (hs : s < 256) (hr : HR I v ca lg) (hW : ∀ a, a < v 0 → I 51 a = nI (wV v a (v (99 + g)))) : ∃ J, f_X4_addTotal_63 I L (nI g) (nI s) = some (J, L) ∧ (∀ k, k < 48 ∨ 66 < k → J k = I k) ∧ HR J v ca s ∧ J 51 = I 51 ∧ J 64 s = I 64 s + nti v ca s g ∧ ∀ x, x ≠ s → J 64 x = I 64 x := by
  have sz := hw.sz
  have gb := hw.goodb g hg
  have hr' := hr.lg s
  obtain ⟨J, h1, h2, h3⟩ := cbest (L := L) hw hca hg hs hr' (fun a ha => by rw [uI_cell (by omega)]; exact hW a ha)
  have hrJ : HR J v ca s := hr'.frame h2.2 (h2.1 49 (by omega) (by omega))
  have hf : ∀ k, k ≠ 48 → k ≠ 52 → J k = I k := fun k a b => by rw [h2.1 k a b, uI_cell a]
  unfold f_X4_addTotal_63
  rw [lt_eq, ck_nI (by omega) (by omega), ck_nI (by omega) (by omega), c_nI (by omega), uI_cell (show 12 ≠ 48 by omega), uI_cell (show 11 ≠ 48 by omega), hc.rwhere hw g hg, hc.rprice hw g hg, h1, bndI_some]
  cases e : mkv v ca s g with
  | none =>
    have en : nti v ca s g = nI 0 := by unfold nti; rw [e]
    refine ⟨J, by rw [if_pos (show mki (-1) none < 0 by decide)], fun k hk => hf k (by omega) (by omega), hrJ, hf 51 (by omega) (by omega), ?_, fun x _ => by rw [hf 64 (by omega) (by omega)]⟩
    rw [en, addz, hf 64 (by omega) (by omega)]
  | some p =>
    have hp := mkv_lt e
    have en : nti v ca s g = nI (v (105 + g) * wV v p (v (99 + g))) - nI (DD v ca (v (99 + g)) s (v (111 + g)) p) := by unfold nti; rw [e]
    have eb : J 48 13 = nti v ca s g := by
      apply Int32.toInt_inj.mp
      rw [h3 p e, en, (net_t hw hca hg hs hp.1 hp.2).1]
    refine ⟨uI J 64 s (J 64 s + J 48 13), ?_, fun k hk => by rw [uI_cell (by omega)]; exact hf k (by omega) (by omega), hrJ.frame (fun j _ => by rw [uI_cell (by omega)]) (uI_cell (by omega)), by rw [uI_cell (by omega)]; exact hf 51 (by omega) (by omega), ?_, fun x hx => by rw [uI_at, if_neg (fun z => hx z.2), hf 64 (by omega) (by omega)]⟩
    · rw [if_neg (show ¬ mki (-1) (some p) < 0 from nI_ge0' (by omega)), ck_nI (by omega) (by omega), ck_nI (by omega) (by omega), lt_eq, c_nI (by omega)]
    · rw [uI_same, eb, hf 64 (by omega) (by omega)]
theorem cworth (hw : WF v) (hc : CH I 0 v) {ca s : Nat} (hca : ca < v 2) (hs : s < 256) : ∃ J, f_X4_worth_63 I L (nI s) (nI ca) = some (tot v ca s (v 3) - tot v ca 0 (v 3), J, L) ∧ ∀ k, k < 48 ∨ 66 < k → J k = I k := by
  have sz := hw.sz
  unfold f_X4_worth_63
  rw [cl0, lt_eq, ck_nI (by omega) (by omega), lt_eq, c_nI (by omega)]
  have hcI : CH (uI (uI I 64 0 0) 64 s 0) 0 v := hc.frame (fun k a b => by rw [uI_cell (by omega), uI_cell (by omega)])
  obtain ⟨J0, h1, h2, h3⟩ := harness_hr (L := L) hw hcI hca
  rw [h1, bndV_some]
  have z0 : J0 64 0 = nI 0 := by
    rw [h2 64 (by omega) (by omega), uI_at]
    by_cases q : (64 : Nat) = 64 ∧ 0 = s
    · rw [if_pos q]; rfl
    · rw [if_neg q, uI_same]; rfl
  have zs : J0 64 s = nI 0 := by rw [h2 64 (by omega) (by omega), uI_same]; rfl
  obtain ⟨m', J, ⟨i1, i2, i3, lg, i4⟩, hF⟩ := loop_inv (F := fun f k (J : mI) => f_X4_worth_63_l24 f (nI s) (nI k) J L) (n := v 3)
    (Inv := fun k J => (∀ k, k < 48 ∨ 66 < k → J k = I k) ∧ J 64 0 = tot v ca 0 k ∧ J 64 s = tot v ca s k ∧ ∃ lg, HR J v ca lg)
    (fun f k J hk hI => by
      obtain ⟨i1, i2, i3, lg, i4⟩ := hI
      have gb := hw.goodb k hk
      have hcJ : CH J 0 v := hc.frame (fun k a b => i1 k (by omega))
      obtain ⟨J1, w1, w2, w3, w4⟩ := weigh_hr (L := L) hw hcJ i4 gb.1.2
      have hc1 : CH J1 0 v := hcJ.frame (fun k a b => w2 k (by omega))
      obtain ⟨J2, a1, a2, a3, a4, a5, a6⟩ := addTotal_eq (L := L) hw hc1 hca hk (show 0 < 256 by omega) w3 w4
      have hc2 : CH J2 0 v := hc1.frame (fun k a b => a2 k (by omega))
      obtain ⟨J3, b1, b2, b3, b4, b5, b6⟩ := addTotal_eq (L := L) hw hc2 hca hk hs a3 (fun a ha => by rw [a4]; exact w4 a ha)
      have e0 : f_X4_worth_63_l24 (f + 1) (nI s) (nI k) J L = if nI s = 0 then f_X4_worth_63_l24 f (nI s) (nI (k + 1)) J2 L else f_X4_worth_63_l24 f (nI s) (nI (k + 1)) J3 L := by
        rw [f_X4_worth_63_l24, hcJ.c3, if_neg (by rw [le_nI (by omega) (by omega)]; omega), ck_nI (by omega) (by omega), c_nI (by omega), hcJ.rmass hw k hk, w1, bndV_some]
        show bndV (f_X4_addTotal_63 J1 L (nI k) (nI 0)) _ = _
        rw [a1, bndV_some, b1, bndV_some]
        simp only [lt_eq, inc_nI]
      show ∃ J', _ ∧ f_X4_worth_63_l24 (f + 1) (nI s) (nI k) J L = _
      rw [e0]
      by_cases q : s = 0
      · subst q
        rw [if_pos (show nI 0 = (0 : Int32) from rfl)]
        have e5 : J2 64 0 = tot v ca 0 (k + 1) := by rw [a5, w2 64 (by omega), i2]; rfl
        exact ⟨J2, ⟨fun k hk => by rw [a2 k hk, w2 k (by omega), i1 k hk], e5, e5, 0, a3⟩, rfl⟩
      · rw [if_neg (show ¬ nI s = (0 : Int32) from fun z => q ((eq_nI (b := 0) (by omega) (by omega)).mp z))]
        refine ⟨J3, ⟨fun k hk => by rw [b2 k hk, a2 k hk, w2 k (by omega), i1 k hk], ?_, ?_, s, b3⟩, rfl⟩
        · rw [b6 0 (Ne.symm q), a5, w2 64 (by omega), i2]; rfl
        · rw [b5, a6 s q, w2 64 (by omega), i3]; rfl)
    (v 3) 0 J0 fuel (by omega) ⟨fun k hk => by rw [h2 k (by omega) (by omega), uI_cell (by omega), uI_cell (by omega)], z0, zs, 0, h3⟩ (fuel_gt (by omega))
  have hF' : f_X4_worth_63_l24 fuel (nI s) 0 J0 L = f_X4_worth_63_l24 (m' + 1) (nI s) (nI (v 3)) J L := hF
  refine ⟨J, ?_, i1⟩
  have c3 : J 1 10 = nI (v 3) := by rw [i1 1 (by omega)]; exact hc.c3
  rw [hF', f_X4_worth_63_l24, c3, if_pos (by rw [le_nI (by omega) (by omega)]; omega), ck_nI (by omega) (by omega), c_nI (by omega), cl0, i2, i3]
theorem mworth (hw : WF v) (hm : MH I 68 v) {ca s : Nat} (hca : ca < v 2) (hs : s < 256) : ∃ J, f_X11_worthOf_67 I L (nI s) (nI ca) = some (tot v ca s (v 3), J, L) ∧ ∀ k, k ≠ 75 → J k = I k := by
  have sz := hw.sz
  unfold f_X11_worthOf_67
  obtain ⟨m', J, i1, hF⟩ := loop_inv (F := fun f k (J : mI) => f_X11_worthOf_67_l5 f (nI s) (nI ca) (tot v ca s k) (nI k) J L) (n := v 3)
    (Inv := fun k J => ∀ k, k ≠ 75 → J k = I k)
    (fun f k J hk hI => by
      have hmJ : MH J 68 v := hm.frame (hI 68 (by omega))
      obtain ⟨J2, g1, g2, g3⟩ := mmarket (L := L) hw hmJ hca hk hs
      have hm2 : MH J2 68 v := hmJ.frame (g2 68 (by omega))
      refine ⟨J2, fun k hk => by rw [g2 k hk, hI k hk], ?_⟩
      show f_X11_worthOf_67_l5 (f + 1) (nI s) (nI ca) (tot v ca s k) (nI k) J L = f_X11_worthOf_67_l5 f (nI s) (nI ca) (tot v ca s k + nti v ca s k) (nI (k + 1)) J2 L
      rw [f_X11_worthOf_67_l5, cl3, hmJ.n 3 (by omega), if_neg (by rw [le_nI (by omega) (by omega)]; omega), g1, bndI_some]
      cases e : mkv v ca s k with
      | none =>
        have en : nti v ca s k = nI 0 := by unfold nti; rw [e]
        rw [if_pos (show mki (-4) none = -4 from rfl), lt_eq, lt_eq, inc_nI, en]; rfl
      | some p =>
        have hp := mkv_lt e
        have en : nti v ca s k = nI (v (105 + k) * wV v p (v (99 + k))) - nI (DD v ca (v (99 + k)) s (v (111 + k)) p) := by unfold nti; rw [e]
        rw [if_neg (show ¬ mki (-4) (some p) = -4 from fun z => by
          have z' : nI p = -4 := z
          have := congrArg Int32.toInt z'
          rw [t_nI (by omega)] at this
          have q4 : (-4 : Int32).toInt = -4 := by decide
          omega)]
        show (f_X11_netOf_67 J2 L (nI k) (nI p)).bind _ = _
        rw [netOf_dd hw hm2 hca hk hs hp.1 g3, if_pos hp.2, Option.bind_some, lt_eq, lt_eq, inc_nI, en])
    (v 3) 0 I fuel (by omega) (fun _ _ => rfl) (fuel_gt (by omega))
  have hF' : f_X11_worthOf_67_l5 fuel (nI s) (nI ca) 0 0 I L = f_X11_worthOf_67_l5 (m' + 1) (nI s) (nI ca) (tot v ca s (v 3)) (nI (v 3)) J L := hF
  refine ⟨J, ?_, i1⟩
  rw [hF', f_X11_worthOf_67_l5, cl3, (hm.frame (i1 68 (by omega))).n 3 (by omega), if_pos (by rw [le_nI (by omega) (by omega)]; omega)]
theorem st_league {a1 a2 : Int32} (h : Rel I L) : St_league Rel I L a1 a2 := by
  obtain ⟨⟨v, hw, hm, hc⟩, hr2⟩ := id h
  have sz := hw.sz
  have p8 : 2 ^ v 0 ≤ 2 ^ 8 := Nat.pow_le_pow_right (by omega) (by omega)
  unfold St_league f_X10_league_0
  rw [hasSet_n hc.c0 (by omega), hasCart_n hc.c2 (by omega)]
  have hM : ∀ J : mI, MH J 68 v → f_X11_league_67 J L a1 a2 = if 0 ≤ a1.toInt ∧ a1.toInt < ((2 ^ v 0 : Nat) : Int) then (if 0 ≤ a2.toInt ∧ a2.toInt < (v 2 : Int) then (bndI (f_X11_worthOf_67 J L a1 a2) (fun r3 Ir3 Lr3 => bndI (f_X11_worthOf_67 Ir3 Lr3 0 a2) (fun r5 Ir5 Lr5 => some (r3 - r5, Ir5, Lr5)))) else some (-1000001, J, L)) else some (-1000001, J, L) := by
    intro J hJ
    unfold f_X11_league_67
    rw [isSet_n (hJ 0 (by omega)) (by omega), isCart_n (hJ 2 (by omega)) (by omega)]
    simp only [Option.bind_some, bit_ite]
  simp only [Option.bind_some, bit_ite]
  by_cases q1 : 0 ≤ a1.toInt ∧ a1.toInt < ((2 ^ v 0 : Nat) : Int)
  · by_cases q2 : 0 ≤ a2.toInt ∧ a2.toInt < (v 2 : Int)
    · rw [if_pos q1, if_pos q2]
      obtain ⟨s, hs, rfl, -⟩ := ofI q1.1 q1.2
      obtain ⟨ca, hca, rfl, -⟩ := ofI q2.1 q2.2
      obtain ⟨J1, h1, h2⟩ := cworth (L := L) hw hc hca (show s < 256 by omega)
      have hm1 : MH J1 68 v := hm.frame (h2 68 (by omega))
      obtain ⟨J2, g1, g2⟩ := mworth (L := L) hw hm1 hca (show s < 256 by omega)
      have hm2 : MH J2 68 v := hm1.frame (g2 68 (by omega))
      obtain ⟨J3, k1, k2⟩ := mworth (L := L) (s := 0) hw hm2 hca (by omega)
      refine ⟨_, J1, L, J3, L, by rw [h1, bndI_some], ?_, h.scr (fun k hk => by rw [k2 k (by omega), g2 k (by omega), h2 k (by omega)])⟩
      rw [hM J1 hm1, if_pos q1, if_pos q2, g1, bndI_some]
      show bndI (f_X11_worthOf_67 J2 L (nI 0) (nI ca)) _ = _
      rw [k1, bndI_some]
    · rw [if_pos q1, if_neg q2]
      exact ⟨-1000001, I, L, I, L, rfl, by rw [hM I hm, if_pos q1, if_neg q2], h⟩
  · rw [if_neg q1]
    exact ⟨-1000001, I, L, I, L, rfl, by rw [hM I hm, if_neg q1], h⟩
end League
