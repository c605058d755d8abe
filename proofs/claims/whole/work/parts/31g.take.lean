/-! net, take -/
section Take
variable {I J : mI} {L : mL} {v : mV}
theorem st_net {a1 a2 a3 : Int32} (h : Rel I L) : St_net Rel I L a1 a2 a3 := by
  obtain ⟨⟨v, hw, hm, hc⟩, hr2⟩ := id h
  have sz := hw.sz
  unfold St_net f_X10_net_0
  rw [hasGood_n hc.c3 (by omega), hasParish_n hc.c0 (by omega), hasCart_n hc.c2 (by omega)]
  have hM : ∀ J : mI, MH J 68 v → f_X11_net_67 J L a1 a2 a3 = if 0 ≤ a1.toInt ∧ a1.toInt < (v 3 : Int) then (if 0 ≤ a2.toInt ∧ a2.toInt < (v 0 : Int) then (if 0 ≤ a3.toInt ∧ a3.toInt < (v 2 : Int) then (ck (inb (99 + a1) 135) (bndV (f_X11_layWays_67 J L a3 (J 68 (99 + a1).toNatClampNeg) 0) (fun Ir4 Lr4 => (f_X11_netOf_67 Ir4 Lr4 a1 a2).bind (fun r6 => if r6 = (-100000000) then (some ((-1000004), Ir4, Lr4)) else (some (r6, Ir4, Lr4)))))) else some (-1000001, J, L)) else some (-1000001, J, L)) else some (-1000001, J, L) := by
    intro J hJ
    unfold f_X11_net_67
    rw [isGood_n (hJ 3 (by omega)) (by omega), isParish_n (hJ 0 (by omega)) (by omega), isCart_n (hJ 2 (by omega)) (by omega)]
    simp only [Option.bind_some, bit_ite]
  simp only [Option.bind_some, bit_ite]
  by_cases q1 : 0 ≤ a1.toInt ∧ a1.toInt < (v 3 : Int)
  · by_cases q2 : 0 ≤ a2.toInt ∧ a2.toInt < (v 0 : Int)
    · by_cases q3 : 0 ≤ a3.toInt ∧ a3.toInt < (v 2 : Int)
      · rw [if_pos q1, if_pos q2, if_pos q3]
        obtain ⟨g, hg, rfl, -⟩ := ofI q1.1 q1.2
        obtain ⟨p, hp, rfl, -⟩ := ofI q2.1 q2.2
        obtain ⟨ca, hca, rfl, -⟩ := ofI q3.1 q3.2
        have gb := hw.goodb g hg
        obtain ⟨J1, h1, h2, h3⟩ := harness_hr (L := L) hw hc hca
        have hc1 : CH J1 0 v := hc.frame (fun k a b => h2 k (by omega) (by omega))
        obtain ⟨J2, g1, g2, g3, g4⟩ := weigh_hr (L := L) hw hc1 h3 gb.1.2
        have hc2 : CH J2 0 v := hc1.frame (fun k a b => g2 k (by omega))
        obtain ⟨J3, s1, s2, s3⟩ := spread_eq (L := L) (g3.rt hw g4) (hw.rb hca gb.1.2 (show 0 < 256 by omega)) gb.2.2.1 (DD_ok hw hca gb.1.2 (show 0 < 256 by omega))
        have hc3 : CH J3 0 v := hc2.frame (fun k a b => s2.1 k (by omega) (by omega))
        have hf : ∀ k, k < 48 ∨ 66 < k → J3 k = I k := fun k hk => by rw [s2.1 k (by omega) (by omega), g2 k (by omega), h2 k (by omega) (by omega)]
        have hm3 : MH J3 68 v := hm.frame (hf 68 (by omega))
        obtain ⟨J4, m1, m2, m3⟩ := layWays_dd (L := L) (lg := 0) hw hm3 hca gb.1.2 (by omega)
        have hm4 : MH J4 68 v := hm3.frame (m2 68 (by omega))
        have dl := DD_le hw hca gb.1.2 (show 0 < 256 by omega) gb.2.2.1 hp
        have e51 : J3 51 p = nI (wV v p (v (99 + g))) := by rw [s2.1 51 (by omega) (by omega)]; exact g4 p hp
        refine ⟨if DD v ca (v (99 + g)) 0 (v (111 + g)) p < 100000000 then nI (v (105 + g) * wV v p (v (99 + g))) - nI (DD v ca (v (99 + g)) 0 (v (111 + g)) p) else -1000004, J3, L, J4, L, ?_, ?_, h.scr (fun k hk => by rw [m2 k (by omega), hf k (by omega)])⟩
        · rw [h1, bndV_some, ck_nI (by omega) (by omega), c_nI (by omega), hc1.rmass hw g hg, g1, bndV_some, ck_nI (by omega) (by omega), hc2.rwhere hw g hg, s1, bndV_some, ck_nI (by omega) (by omega), c_nI (by omega), s3 p hp, e51, hc3.rprice hw g hg, ck_nI (by omega) (by omega), ck_nI (by omega) (by omega), ck_nI (by omega) (by omega), n_mul, show (536870912 : Int32) = nI 536870912 from rfl]
          by_cases z : DD v ca (v (99 + g)) 0 (v (111 + g)) p < 100000000
          · rw [if_pos z, if_pos z, if_pos (by rw [lt_nI (by omega) (by omega)]; omega)]
          · rw [if_neg z, if_neg z, if_neg (by rw [lt_nI (by omega) (by omega)]; omega)]
        · rw [hM J3 hm3, if_pos q1, if_pos q2, if_pos q3, show (99 : Int32) + nI g = nI (99 + g) from n_add 99 g, ck_nI (by omega) (by omega), c_nI (by omega), hm3.n _ (by omega)]
          show bndV (f_X11_layWays_67 J3 L (nI ca) (nI (v (99 + g))) (nI 0)) _ = _
          rw [m1, bndV_some, netOf_dd hw hm4 hca hg (show 0 < 256 by omega) hp m3, Option.bind_some]
          have em : ((-100000000 : Int32)).toInt = -100000000 := by decide
          by_cases z : DD v ca (v (99 + g)) 0 (v (111 + g)) p < 100000000
          · have nk := net_t hw hca hg (show 0 < 256 by omega) hp z
            rw [if_pos z, if_neg (fun y => by have := congrArg Int32.toInt y; rw [nk.1, em] at this; omega), if_pos z]
          · rw [if_neg z, if_pos rfl, if_neg z]
      · rw [if_pos q1, if_pos q2, if_neg q3]
        exact ⟨-1000001, I, L, I, L, rfl, by rw [hM I hm, if_pos q1, if_pos q2, if_neg q3], h⟩
    · rw [if_pos q1, if_neg q2]
      exact ⟨-1000001, I, L, I, L, rfl, by rw [hM I hm, if_pos q1, if_neg q2], h⟩
  · rw [if_neg q1]
    exact ⟨-1000001, I, L, I, L, rfl, by rw [hM I hm, if_neg q1], h⟩
theorem mki_eq {x : Int32} {o : Option Nat} {p : Nat} (hx : x.toInt < 0) (ho : ∀ q, o = some q → q < 8) (hp : p < 8) : mki x o = nI p ↔ o = some p := by
  cases o with
  | none =>
    constructor
    · intro h
      have h' : x = nI p := h
      rw [h', t_nI (by omega)] at hx; omega
    · intro h; cases h
  | some q =>
    have := ho q rfl
    constructor
    · intro h
      have h' : nI q = nI p := h
      rw [eq_nI (by omega) (by omega)] at h'; rw [h']
    · intro h; cases h; rfl
/-- how many goods have it as their market -/
noncomputable def tkv (v : mV) (ca p : Nat) : Nat → Nat
  | 0 => 0
  | k + 1 => tkv v ca p k + (if mkv v ca 0 k = some p then 1 else 0)
theorem tkv_le (v : mV) (ca p : Nat) : ∀ k, tkv v ca p k ≤ k := by
  intro k
  induction k with
  | zero => exact Nat.le_refl 0
  | succ k ih => show tkv v ca p k + (if mkv v ca 0 k = some p then 1 else 0) ≤ k + 1; split <;> omega
theorem ctake (hw : WF v) (hc : CH I 0 v) {ca p : Nat} (hca : ca < v 2) (hp : p < v 0) : ∃ J, f_X2_takeOf_60 I L (nI p) (nI ca) = some (nI (tkv v ca p (v 3)), J, L) ∧ ∀ k, k < 48 ∨ 66 < k → J k = I k := by
  have sz := hw.sz
  obtain ⟨J0, h1, h2, h3⟩ := harness_hr (L := L) hw hc hca
  unfold f_X2_takeOf_60
  rw [h1, bndV_some]
  obtain ⟨m', J, ⟨i1, i2⟩, hF⟩ := loop_inv (F := fun f k (J : mI) => f_X2_takeOf_60_l13 f (nI p) (nI (tkv v ca p k)) (nI k) J L) (n := v 3)
    (Inv := fun k J => (∀ k, k < 48 ∨ 66 < k → J k = I k) ∧ HR J v ca 0)
    (fun f k J hk hI => by
      have hcJ : CH J 0 v := hc.frame (fun k a b => hI.1 k (by omega))
      obtain ⟨J2, g1, g2, g3⟩ := cmarket (L := L) hw hcJ hca hk (show 0 < 256 by omega) hI.2
      refine ⟨J2, ⟨fun k hk => by rw [g2 k hk, hI.1 k hk], g3⟩, ?_⟩
      show f_X2_takeOf_60_l13 (f + 1) (nI p) (nI (tkv v ca p k)) (nI k) J L = f_X2_takeOf_60_l13 f (nI p) (nI (tkv v ca p k + (if mkv v ca 0 k = some p then 1 else 0))) (nI (k + 1)) J2 L
      rw [f_X2_takeOf_60_l13, hcJ.c3, if_neg (by rw [le_nI (by omega) (by omega)]; omega), g1, bndI_some]
      have e := mki_eq (x := -1) (o := mkv v ca 0 k) (p := p) (by decide) (fun q hq => by have := (mkv_lt hq).1; omega) (by omega)
      by_cases z : mkv v ca 0 k = some p
      · rw [if_pos z, if_pos (e.mpr z), lt_eq, lt_eq, inc_nI, inc_nI]
      · rw [if_neg z, if_neg (fun y => z (e.mp y)), lt_eq, inc_nI]; rfl)
    (v 3) 0 J0 fuel (by omega) ⟨fun k hk => h2 k (by omega) (by omega), h3⟩ (fuel_gt (by omega))
  have hF' : f_X2_takeOf_60_l13 fuel (nI p) 0 0 J0 L = f_X2_takeOf_60_l13 (m' + 1) (nI p) (nI (tkv v ca p (v 3))) (nI (v 3)) J L := hF
  have c3 : J 1 10 = nI (v 3) := by rw [i1 1 (by omega)]; exact hc.c3
  refine ⟨J, ?_, i1⟩
  rw [hF', f_X2_takeOf_60_l13, c3, if_pos (by rw [le_nI (by omega) (by omega)]; omega)]
theorem mtake (hw : WF v) (hm : MH I 68 v) {ca p : Nat} (hca : ca < v 2) (hp : p < v 0) : ∃ J, f_X11_takeOf_67 I L (nI p) (nI ca) = some (nI (tkv v ca p (v 3)), J, L) ∧ ∀ k, k ≠ 75 → J k = I k := by
  have sz := hw.sz
  unfold f_X11_takeOf_67
  obtain ⟨m', J, i1, hF⟩ := loop_inv (F := fun f k (J : mI) => f_X11_takeOf_67_l5 f (nI p) (nI ca) (nI (tkv v ca p k)) (nI k) J L) (n := v 3)
    (Inv := fun k J => ∀ k, k ≠ 75 → J k = I k)
    (fun f k J hk hI => by
      have hmJ : MH J 68 v := hm.frame (hI 68 (by omega))
      obtain ⟨J2, g1, g2, -⟩ := mmarket (L := L) (lg := 0) hw hmJ hca hk (by omega)
      refine ⟨J2, fun k hk => by rw [g2 k hk, hI k hk], ?_⟩
      show f_X11_takeOf_67_l5 (f + 1) (nI p) (nI ca) (nI (tkv v ca p k)) (nI k) J L = f_X11_takeOf_67_l5 f (nI p) (nI ca) (nI (tkv v ca p k + (if mkv v ca 0 k = some p then 1 else 0))) (nI (k + 1)) J2 L
      rw [f_X11_takeOf_67_l5, cl3, hmJ.n 3 (by omega), if_neg (by rw [le_nI (by omega) (by omega)]; omega)]
      show bndI (f_X11_marketOf_67 J L (nI k) (nI ca) (nI 0)) _ = _
      rw [g1, bndI_some]
      have e := mki_eq (x := -4) (o := mkv v ca 0 k) (p := p) (by decide) (fun q hq => by have := (mkv_lt hq).1; omega) (by omega)
      by_cases z : mkv v ca 0 k = some p
      · rw [if_pos z, if_pos (e.mpr z), lt_eq, lt_eq, inc_nI, show (1 : Int32) = nI 1 from rfl, n_add]
      · rw [if_neg z, if_neg (fun y => z (e.mp y)), lt_eq, lt_eq, inc_nI, show (0 : Int32) = nI 0 from rfl, addz]; rfl)
    (v 3) 0 I fuel (by omega) (fun _ _ => rfl) (fuel_gt (by omega))
  have hF' : f_X11_takeOf_67_l5 fuel (nI p) (nI ca) 0 0 I L = f_X11_takeOf_67_l5 (m' + 1) (nI p) (nI ca) (nI (tkv v ca p (v 3))) (nI (v 3)) J L := hF
  refine ⟨J, ?_, i1⟩
  rw [hF', f_X11_takeOf_67_l5, cl3, (hm.frame (i1 68 (by omega))).n 3 (by omega), if_pos (by rw [le_nI (by omega) (by omega)]; omega)]
theorem st_take {a1 a2 : Int32} (h : Rel I L) : St_take Rel I L a1 a2 := by
  obtain ⟨⟨v, hw, hm, hc⟩, hr2⟩ := id h
  have sz := hw.sz
  unfold St_take f_X10_take_0
  rw [hasParish_n hc.c0 (by omega), hasCart_n hc.c2 (by omega)]
  have hM : ∀ J : mI, MH J 68 v → f_X11_take_67 J L a1 a2 = if 0 ≤ a1.toInt ∧ a1.toInt < (v 0 : Int) then (if 0 ≤ a2.toInt ∧ a2.toInt < (v 2 : Int) then (bndI (f_X11_takeOf_67 J L a1 a2) (fun r3 Ir3 Lr3 => some (r3, Ir3, Lr3))) else some (-1, J, L)) else some (-1, J, L) := by
    intro J hJ
    unfold f_X11_take_67
    rw [isParish_n (hJ 0 (by omega)) (by omega), isCart_n (hJ 2 (by omega)) (by omega)]
    simp only [Option.bind_some, bit_ite]
  simp only [Option.bind_some, bit_ite]
  by_cases q1 : 0 ≤ a1.toInt ∧ a1.toInt < (v 0 : Int)
  · by_cases q2 : 0 ≤ a2.toInt ∧ a2.toInt < (v 2 : Int)
    · rw [if_pos q1, if_pos q2]
      obtain ⟨p, hp, rfl, -⟩ := ofI q1.1 q1.2
      obtain ⟨ca, hca, rfl, -⟩ := ofI q2.1 q2.2
      obtain ⟨J1, h1, h2⟩ := ctake (L := L) hw hc hca hp
      have hm1 : MH J1 68 v := hm.frame (h2 68 (by omega))
      obtain ⟨J2, g1, g2⟩ := mtake (L := L) hw hm1 hca hp
      refine ⟨_, J1, L, J2, L, by rw [h1, bndI_some], by rw [hM J1 hm1, if_pos q1, if_pos q2, g1, bndI_some], h.scr (fun k hk => by rw [g2 k (by omega), h2 k (by omega)])⟩
    · rw [if_pos q1, if_neg q2]
      exact ⟨-1, I, L, I, L, rfl, by rw [hM I hm, if_pos q1, if_neg q2], h⟩
  · rw [if_neg q1]
    exact ⟨-1, I, L, I, L, rfl, by rw [hM I hm, if_neg q1], h⟩
end Take
