/-! councils, pure and the class's -/
/-- other pulls of two parishes in this season -/
def vv (v : mV) (a b x y : Nat) : mV := vu (vu v (14 + (4 * a + seaV v)) x) (14 + (4 * b + seaV v)) y
section Vv
variable {v : mV} {a b x y : Nat}
theorem vv_o {j : Nat} (h : j < 14 ∨ 46 ≤ j) (ha : a < 8) (hb : b < 8) : vv v a b x y j = v j := by
  have := seaV_lt v
  unfold vv
  rw [vu_n (by omega), vu_n (by omega)]
theorem WF.vv (hw : WF v) (ha : a < v 0) (hb : b < v 0) (hx : 1 ≤ x) (hx9 : x ≤ 9) (hy : 1 ≤ y) (hy9 : y ≤ 9) : WF (vv v a b x y) := by
  have := seaV_lt v
  have h1 := hw.pull (k := 4 * a + seaV v) (x := x) (by omega) hx hx9
  exact h1.pull (k := 4 * b + seaV v) (x := y) (by rw [vu_n (by omega)]; omega) hy hy9
theorem vv_rdk (hw : WF v) (ha : a < 8) (hb : b < 8) (p q : Nat) : ∀ k, rdk (vv v a b x y) p q k = rdk v p q k := by
  intro k
  induction k with
  | zero => rfl
  | succ k ih =>
    show (if (vv v a b x y (46 + k) = p ∧ vv v a b x y (61 + k) = q) ∨ (vv v a b x y (46 + k) = q ∧ vv v a b x y (61 + k) = p) then vv v a b x y (76 + k) + 1 else rdk (vv v a b x y) p q k) = (if (v (46 + k) = p ∧ v (61 + k) = q) ∨ (v (46 + k) = q ∧ v (61 + k) = p) then v (76 + k) + 1 else rdk v p q k)
    rw [vv_o (by omega) ha hb, vv_o (by omega) ha hb, vv_o (by omega) ha hb, ih]
theorem vv_rd (hw : WF v) (ha : a < 8) (hb : b < 8) : rd (vv v a b x y) = rd v := by
  funext p q
  unfold rd
  rw [vv_o (by omega) ha hb]
  exact vv_rdk hw ha hb p q _
theorem vv_sea (ha : a < 8) (hb : b < 8) : seaV (vv v a b x y) = seaV v := by
  unfold seaV
  rw [vv_o (by omega) ha hb]
theorem vv_w (ha : a < 8) (hb : b < 8) {p m : Nat} (hp : p < 8) : wV (vv v a b x y) p m = if p = b then wt (v (6 + b)) y m else if p = a then wt (v (6 + a)) x m else wV v p m := by
  have := seaV_lt v
  unfold wV
  rw [vv_sea ha hb, vv_o (by omega) ha hb]
  by_cases e : p = b
  · subst e
    rw [if_pos rfl, show vv v a p x y (14 + (4 * p + seaV v)) = y from vu_s _ _ _]
  · rw [if_neg e]
    have e2 : vv v a b x y (14 + (4 * p + seaV v)) = vu v (14 + (4 * a + seaV v)) x (14 + (4 * p + seaV v)) := vu_n (by omega)
    by_cases e3 : p = a
    · subst e3
      rw [if_pos rfl, e2, vu_s]
    · rw [if_neg e3, e2, vu_n (by omega)]
end Vv
/-- takes of both by pulls -/
noncomputable def cA (v : mV) (ca a b p x y : Nat) : Nat := tkv (vv v a b x y) ca p (v 3)
/-- by the class's place -/
noncomputable abbrev cvv (v : mV) (a b j : Nat) : mV := vv v a b (j / 9 + 1) (j % 9 + 1)
section Coun
variable {I J : mI} {L : mL} {v : mV}
theorem HR.vv {ca a b x y : Nat} (h : HR I v ca 0) (hw : WF v) (ha : a < 8) (hb : b < 8) : HR I (vv v a b x y) ca 0 := by
  obtain ⟨h1, h2, h3, h4, h5⟩ := h
  refine ⟨by rw [vv_o (by omega) ha hb]; exact h1, by rw [vv_o (by omega) ha hb]; exact h2, by rw [vv_o (by omega) ha hb]; exact h3, h4, fun p q hp hq => by rw [vv_rd hw ha hb]; exact h5 p q hp hq⟩
theorem fill61_eq : ∃ J, f_J7_fill_53178_61 I L 0 = some (J, L) ∧ (∀ k, k ≠ 61 → J k = I k) ∧ ∀ b, b < 81 → J 61 b = nI 0 := by
  unfold f_J7_fill_53178_61
  obtain ⟨m', J, ⟨i1, i2⟩, hF⟩ := loop_inv (F := fun f k (J : mI) => f_J7_fill_53178_61_l5 f 0 (nI k) 81 J L) (n := 81)
    (Inv := fun k J => (∀ c, c ≠ 61 → J c = I c) ∧ ∀ b, b < k → J 61 b = nI 0)
    (fun f k J hk hI => by
      refine ⟨uI J 61 k 0, ⟨fun c hc => by rw [uI_cell hc]; exact hI.1 c hc, fun b hb => ?_⟩, ?_⟩
      · rw [uI_at]
        by_cases e : b = k
        · rw [if_pos ⟨rfl, e⟩]; rfl
        · rw [if_neg (fun z => e z.2)]; exact hI.2 b (by omega)
      · show f_J7_fill_53178_61_l5 (f + 1) 0 (nI k) 81 J L = _
        rw [f_J7_fill_53178_61_l5, show (81 : Int32) = nI 81 from rfl, if_neg (by rw [le_nI (by omega) (by omega)]; omega), ck_nI (by omega) (by omega), lt_eq, lt_eq, inc_nI, c_nI (by omega)])
    81 0 I fuel (by omega) ⟨fun _ _ => rfl, fun b hb => absurd hb (by omega)⟩ (fuel_gt (by omega))
  have hF' : f_J7_fill_53178_61_l5 fuel 0 0 81 I L = f_J7_fill_53178_61_l5 (m' + 1) 0 (nI 81) 81 J L := hF
  refine ⟨J, ?_, i1, i2⟩
  rw [hF', f_J7_fill_53178_61_l5, if_pos (by decide)]
theorem fill62_eq : ∃ J, f_J7_fill_53178_62 I L 0 = some (J, L) ∧ (∀ k, k ≠ 62 → J k = I k) ∧ ∀ b, b < 81 → J 62 b = nI 0 := by
  unfold f_J7_fill_53178_62
  obtain ⟨m', J, ⟨i1, i2⟩, hF⟩ := loop_inv (F := fun f k (J : mI) => f_J7_fill_53178_62_l5 f 0 (nI k) 81 J L) (n := 81)
    (Inv := fun k J => (∀ c, c ≠ 62 → J c = I c) ∧ ∀ b, b < k → J 62 b = nI 0)
    (fun f k J hk hI => by
      refine ⟨uI J 62 k 0, ⟨fun c hc => by rw [uI_cell hc]; exact hI.1 c hc, fun b hb => ?_⟩, ?_⟩
      · rw [uI_at]
        by_cases e : b = k
        · rw [if_pos ⟨rfl, e⟩]; rfl
        · rw [if_neg (fun z => e z.2)]; exact hI.2 b (by omega)
      · show f_J7_fill_53178_62_l5 (f + 1) 0 (nI k) 81 J L = _
        rw [f_J7_fill_53178_62_l5, show (81 : Int32) = nI 81 from rfl, if_neg (by rw [le_nI (by omega) (by omega)]; omega), ck_nI (by omega) (by omega), lt_eq, lt_eq, inc_nI, c_nI (by omega)])
    81 0 I fuel (by omega) ⟨fun _ _ => rfl, fun b hb => absurd hb (by omega)⟩ (fuel_gt (by omega))
  have hF' : f_J7_fill_53178_62_l5 fuel 0 0 81 I L = f_J7_fill_53178_62_l5 (m' + 1) 0 (nI 81) 81 J L := hF
  refine ⟨J, ?_, i1, i2⟩
  rw [hF', f_J7_fill_53178_62_l5, if_pos (by decide)]
/-- takes of one good more -/
theorem addTakes_eq (hw : WF v) (hc : CH I 0 v) {ca a b g : Nat} (hca : ca < v 2) (ha : a < v 0) (hb : b < v 0) (hab : a ≠ b) (hg : g < v 3) (hr : HR I v ca 0) (h1 : ∀ j, j < 81 → I 61 j = nI (tkv (cvv v a b j) ca a g)) (h2 : ∀ j, j < 81 → I 62 j = nI (tkv (cvv v a b j) ca b g)) : ∃ J, f_X2_addTakes_60 I L (nI a) (nI b) (nI g) = some (J, L) ∧ (∀ k, k < 48 ∨ 66 < k → J k = I k) ∧ HR J v ca 0 ∧ (∀ j, j < 81 → J 61 j = nI (tkv (cvv v a b j) ca a (g + 1))) ∧ ∀ j, j < 81 → J 62 j = nI (tkv (cvv v a b j) ca b (g + 1)) := by
  have sz := hw.sz
  have gb := hw.goodb g hg
  obtain ⟨J0, w1, w2, w3, w4⟩ := weigh_hr (L := L) hw hc hr gb.1.2
  unfold f_X2_addTakes_60
  rw [ck_nI (by omega) (by omega), lt_eq, c_nI (by omega), hc.rmass hw g hg, w1, bndV_some]
  obtain ⟨m', J, ⟨i1, i2, i3, i4, i5⟩, hF⟩ := loop_inv (F := fun f k (J : mI) => f_X2_addTakes_60_l23 f (nI a) (nI b) (nI g) (nI (v (99 + g))) (nI k) J L) (n := 81)
    (Inv := fun k J => (∀ k, k < 48 ∨ 66 < k → J k = I k) ∧ HR J v ca 0 ∧ (∀ p, p < v 0 → p ≠ a → p ≠ b → J 51 p = nI (wV v p (v (99 + g)))) ∧ (∀ j, j < 81 → J 61 j = nI (tkv (cvv v a b j) ca a (if j < k then g + 1 else g))) ∧ ∀ j, j < 81 → J 62 j = nI (tkv (cvv v a b j) ca b (if j < k then g + 1 else g)))
    (fun f k J hk hI => by
      obtain ⟨i1, i2, i3, i4, i5⟩ := hI
      have hcJ : CH J 0 v := hc.frame (fun k a b => i1 k (by omega))
      have kb := hw.kindb a ha
      have kb2 := hw.kindb b hb
      have hw' : WF (cvv v a b k) := hw.vv ha hb (by omega) (by omega) (by omega) (by omega)
      have o0 : cvv v a b k 0 = v 0 := vv_o (by omega) (by omega) (by omega)
      have o2 : cvv v a b k 2 = v 2 := vv_o (by omega) (by omega) (by omega)
      have o3 : cvv v a b k 3 = v 3 := vv_o (by omega) (by omega) (by omega)
      have om : cvv v a b k (99 + g) = v (99 + g) := vv_o (by omega) (by omega) (by omega)
      have op : cvv v a b k (105 + g) = v (105 + g) := vv_o (by omega) (by omega) (by omega)
      have ow : cvv v a b k (111 + g) = v (111 + g) := vv_o (by omega) (by omega) (by omega)
      generalize eM : uI (uI J 51 a (nI (wt (v (6 + a)) (k / 9 + 1) (v (99 + g))))) 51 b (nI (wt (v (6 + b)) (k % 9 + 1) (v (99 + g)))) = M
      have fM : ∀ c, c ≠ 51 → M c = J c := fun c hc => by rw [← eM, uI_cell hc, uI_cell hc]
      have hrM : HR M v ca 0 := i2.frame (fun j _ => by rw [fM 48 (by omega)]) (fM 49 (by omega))
      have wM : ∀ p, p < cvv v a b k 0 → M 51 p = nI (wV (cvv v a b k) p (cvv v a b k (99 + g))) := by
        intro p hp
        rw [o0] at hp
        rw [om, vv_w (by omega) (by omega) (by omega), ← eM, uI_at, uI_at]
        by_cases e : p = b
        · rw [if_pos ⟨rfl, e⟩, if_pos e]
        · rw [if_neg (fun z => e z.2), if_neg e]
          by_cases e2 : p = a
          · rw [if_pos ⟨rfl, e2⟩, if_pos e2]
          · rw [if_neg (fun z => e2 z.2), if_neg e2]
            exact i3 p hp e2 e
      obtain ⟨J2, c1, c2, -⟩ := cbest (L := L) (ca := ca) (lg := 0) (g := g) hw' (by rw [o2]; exact hca) (by rw [o3]; exact hg) (by omega) (hrM.vv hw (by omega) (by omega)) wM
      rw [op, ow] at c1
      have fJ : ∀ c, c ≠ 48 → c ≠ 51 → c ≠ 52 → J2 c = J c := fun c p q r => by rw [c2.1 c p r, fM c q]
      have hr2 : HR J2 v ca 0 := hrM.frame c2.2 (c2.1 49 (by omega) (by omega))
      have w2' : ∀ p, p < v 0 → p ≠ a → p ≠ b → J2 51 p = nI (wV v p (v (99 + g))) := fun p hp e1 e2 => by rw [c2.1 51 (by omega) (by omega), ← eM, uI_at, if_neg (fun z => e2 z.2), uI_at, if_neg (fun z => e1 z.2)]; exact i3 p hp e1 e2
      have e1 : ∀ x : Nat, nI x + 1 = nI (x + 1) := fun x => n_add x 1
      have eF : f_X2_addTakes_60_l23 (f + 1) (nI a) (nI b) (nI g) (nI (v (99 + g))) (nI k) J L = if mki (-1) (mkv (cvv v a b k) ca 0 g) = nI a then f_X2_addTakes_60_l23 f (nI a) (nI b) (nI g) (nI (v (99 + g))) (nI (k + 1)) (uI J2 61 k (J2 61 k + 1)) L else if mki (-1) (mkv (cvv v a b k) ca 0 g) = nI b then f_X2_addTakes_60_l23 f (nI a) (nI b) (nI g) (nI (v (99 + g))) (nI (k + 1)) (uI J2 62 k (J2 62 k + 1)) L else f_X2_addTakes_60_l23 f (nI a) (nI b) (nI g) (nI (v (99 + g))) (nI (k + 1)) J2 L := by
        rw [f_X2_addTakes_60_l23, show (81 : Int32) = nI 81 from rfl, if_neg (by rw [le_nI (by omega) (by omega)]; omega), ck_nI (by omega) (by omega), c_nI (by omega), hcJ.kind hw a ha, show (9 : Int32) = nI 9 from rfl, rem_nI (by omega) (by omega) (by omega), div_nI (by omega) (by omega) (by omega), e1 (k / 9), weight_eq kb (by omega) (by omega), Option.bind_some, ck_nI (by omega) (by omega), lt_eq, ck_nI (by omega) (by omega), c_nI (by omega), uI_cell (show 3 ≠ 51 by omega), hcJ.kind hw b hb, e1 (k % 9), weight_eq kb2 (by omega) (by omega), Option.bind_some, ck_nI (by omega) (by omega), lt_eq, eM, ck_nI (by omega) (by omega), ck_nI (by omega) (by omega), c_nI (by omega), fM 12 (by omega), fM 11 (by omega), hcJ.rwhere hw g hg, hcJ.rprice hw g hg, c1, bndI_some, ck_nI (by omega) (by omega), ck_nI (by omega) (by omega), ck_nI (by omega) (by omega), ck_nI (by omega) (by omega), c_nI (by omega)]
        simp only [lt_eq, inc_nI]
      have em := fun p (hp : p < 8) => mki_eq (x := -1) (o := mkv (cvv v a b k) ca 0 g) (p := p) (by decide) (fun q hq => by have := (mkv_lt hq).1; omega) hp
      have up : ∀ (p j : Nat), j < 81 → (if j < k + 1 then g + 1 else g) = (if j = k then g + 1 else if j < k then g + 1 else g) := by
        intro p j _
        by_cases e : j = k
        · rw [if_pos e, if_pos (by omega)]
        · rw [if_neg e]
          by_cases e2 : j < k
          · rw [if_pos e2, if_pos (by omega)]
          · rw [if_neg e2, if_neg (by omega)]
      have tk1 : ∀ p, tkv (cvv v a b k) ca p (g + 1) = tkv (cvv v a b k) ca p g + (if mkv (cvv v a b k) ca 0 g = some p then 1 else 0) := fun p => rfl
      have k61 : J 61 k = nI (tkv (cvv v a b k) ca a g) := by rw [i4 k hk, if_neg (by omega)]
      have k62 : J 62 k = nI (tkv (cvv v a b k) ca b g) := by rw [i5 k hk, if_neg (by omega)]
      have keep61 : (J2 : mI) 61 k = nI (tkv (cvv v a b k) ca a (g + 1)) → ∀ j, j < 81 → J2 61 j = nI (tkv (cvv v a b j) ca a (if j < k + 1 then g + 1 else g)) := by
        intro e j hj
        rw [up a j hj]
        by_cases z : j = k
        · subst z; rw [if_pos rfl]; exact e
        · rw [if_neg z, fJ 61 (by omega) (by omega) (by omega)]; exact i4 j hj
      have keep62 : (J2 : mI) 62 k = nI (tkv (cvv v a b k) ca b (g + 1)) → ∀ j, j < 81 → J2 62 j = nI (tkv (cvv v a b j) ca b (if j < k + 1 then g + 1 else g)) := by
        intro e j hj
        rw [up a j hj]
        by_cases z : j = k
        · subst z; rw [if_pos rfl]; exact e
        · rw [if_neg z, fJ 62 (by omega) (by omega) (by omega)]; exact i5 j hj
      have n61 : mkv (cvv v a b k) ca 0 g ≠ some a → J2 61 k = nI (tkv (cvv v a b k) ca a (g + 1)) := fun e => by rw [tk1, if_neg e, fJ 61 (by omega) (by omega) (by omega), k61]; rfl
      have n62 : mkv (cvv v a b k) ca 0 g ≠ some b → J2 62 k = nI (tkv (cvv v a b k) ca b (g + 1)) := fun e => by rw [tk1, if_neg e, fJ 62 (by omega) (by omega) (by omega), k62]; rfl
      show ∃ J', _ ∧ f_X2_addTakes_60_l23 (f + 1) (nI a) (nI b) (nI g) (nI (v (99 + g))) (nI k) J L = _
      rw [eF]
      by_cases q1 : mkv (cvv v a b k) ca 0 g = some a
      · have q2 : mkv (cvv v a b k) ca 0 g ≠ some b := fun z => by rw [q1] at z; cases z; exact hab rfl
        refine ⟨uI J2 61 k (J2 61 k + 1), ⟨fun c hc => by rw [uI_cell (by omega), fJ c (by omega) (by omega) (by omega), i1 c hc], hr2.frame (fun j _ => by rw [uI_cell (by omega)]) (uI_cell (by omega)), fun p hp e1 e2 => by rw [uI_cell (by omega)]; exact w2' p hp e1 e2, fun j hj => ?_, fun j hj => by rw [uI_cell (by omega)]; exact keep62 (n62 q2) j hj⟩, by rw [if_pos ((em a (by omega)).mpr q1)]⟩
        rw [uI_at]
        by_cases e : j = k
        · subst e
          rw [if_pos ⟨rfl, rfl⟩, if_pos (by omega), tk1, if_pos q1, fJ 61 (by omega) (by omega) (by omega), k61, show (1 : Int32) = nI 1 from rfl, n_add]
        · rw [if_neg (fun z => e z.2), up a j hj, if_neg e, fJ 61 (by omega) (by omega) (by omega)]; exact i4 j hj
      · rw [if_neg (fun z => q1 ((em a (by omega)).mp z))]
        by_cases q2 : mkv (cvv v a b k) ca 0 g = some b
        · refine ⟨uI J2 62 k (J2 62 k + 1), ⟨fun c hc => by rw [uI_cell (by omega), fJ c (by omega) (by omega) (by omega), i1 c hc], hr2.frame (fun j _ => by rw [uI_cell (by omega)]) (uI_cell (by omega)), fun p hp e1 e2 => by rw [uI_cell (by omega)]; exact w2' p hp e1 e2, fun j hj => by rw [uI_cell (by omega)]; exact keep61 (n61 q1) j hj, fun j hj => ?_⟩, by rw [if_pos ((em b (by omega)).mpr q2)]⟩
          rw [uI_at]
          by_cases e : j = k
          · subst e
            rw [if_pos ⟨rfl, rfl⟩, if_pos (by omega), tk1, if_pos q2, fJ 62 (by omega) (by omega) (by omega), k62, show (1 : Int32) = nI 1 from rfl, n_add]
          · rw [if_neg (fun z => e z.2), up a j hj, if_neg e, fJ 62 (by omega) (by omega) (by omega)]; exact i5 j hj
        · exact ⟨J2, ⟨fun c hc => by rw [fJ c (by omega) (by omega) (by omega), i1 c hc], hr2, w2', keep61 (n61 q1), keep62 (n62 q2)⟩, by rw [if_neg (fun z => q2 ((em b (by omega)).mp z))]⟩)
    81 0 J0 fuel (by omega) ⟨fun k hk => w2 k (by omega), w3, fun p hp _ _ => w4 p hp, fun j hj => by rw [if_neg (by omega), w2 61 (by omega)]; exact h1 j hj, fun j hj => by rw [if_neg (by omega), w2 62 (by omega)]; exact h2 j hj⟩ (fuel_gt (by omega))
  have hF' : f_X2_addTakes_60_l23 fuel (nI a) (nI b) (nI g) (nI (v (99 + g))) 0 J0 L = f_X2_addTakes_60_l23 (m' + 1) (nI a) (nI b) (nI g) (nI (v (99 + g))) (nI 81) J L := hF
  refine ⟨J, ?_, i1, i2, fun j hj => by rw [i4 j hj, if_pos hj], fun j hj => by rw [i5 j hj, if_pos hj]⟩
  rw [hF', f_X2_addTakes_60_l23, if_pos (by decide)]
end Coun
