/-! land: parishes and roads are read alike -/
theorem CHs.set31 {I : mI} {w : mV} {S : Nat → Prop} (h : CHs I 31 w S) {i c k x : Nat} (hi : i < 135) (e : loc i = (c, k)) : CHs (uI I (c + 31) k (nI x)) 31 (vu w i x) (fun j => S j ∨ j = i) := by
  intro j hj hS
  have e1 : c = (loc i).1 := by rw [e]
  have e2 : k = (loc i).2 := by rw [e]
  rw [uI_at]
  by_cases hji : j = i
  · subst hji
    rw [if_pos ⟨by omega, e2.symm⟩, vu_s]
  · rw [if_neg (fun q => hji (loc_inj j hj i hi (Prod.ext (by have := q.1; omega) (q.2.trans e2)))), vu_n hji]
    exact h j hj (hS.resolve_right hji)
/-- what a reading leaves as it was -/
def Kw (w w' : mV) : Prop := ∀ j, (2 ≤ j ∧ j ≤ 5) ∨ 91 ≤ j → w' j = w j
theorem Kw.refl (w : mV) : Kw w w := fun _ _ => rfl
theorem Kw.trans {a b c : mV} (h : Kw a b) (g : Kw b c) : Kw a c := fun j hj => (g j hj).trans (h j hj)
section Parse
variable {n : Nat} {t : Nat → Nat} {I J : mI} {L L2 : mL} {p : Nat} {w : mV}
/-- a parish more -/
abbrev wP (w : mV) (k : Nat) : mV := vus w [(6 + w 0, k), (14 + (w 0 * 4 + 0), 5), (14 + (w 0 * 4 + 1), 5), (14 + (w 0 * 4 + 2), 5), (14 + (w 0 * 4 + 3), 5), (0, w 0 + 1)]
theorem loc31 {I : mI} {w : mV} {S : Nat → Prop} (h : CHs I 31 w S) {i c k : Nat} (hi : i < 135) (e : loc i = (c, k)) (hS : S i) : I (c + 31) k = nI (w i) := by
  have := h i hi hS
  rw [e] at this; exact this
theorem aP33 {m a k : Nat} (ha : a < 8) (hk : k < 4) : f_X3_addParish_33_l14 (m + 1) (nI a) (nI k) I L = f_X3_addParish_33_l14 m (nI a) (nI (k + 1)) (uI I 35 (a * 4 + k) 5) L := by
  rw [f_X3_addParish_33_l14, show (4 : Int32) = nI 4 from rfl, if_neg (by rw [le_nI (by omega) (by omega)]; omega), n_mul, n_add, ck_nI (by omega) (by omega), lt_eq, lt_eq, inc_nI, c_nI (by omega)]
theorem c_addP (h : CD n t I p w) (h8 : w 0 < 8) (k : Nat) : ∃ I', f_X3_addParish_33 I L (nI k) = some (nI (w 0), I', L) ∧ CD n t I' p (wP w k) ∧ FC I I' := by
  obtain ⟨h0, h1, h2, h3, h4⟩ := h
  have e0 : I 33 5 = nI (w 0) := loc31 h4 (by omega) loc0 (Or.inl (by omega))
  have i0 : ∀ (I : mI) (x y : Nat), uI I (3 + 31) x (nI y) = uI I 34 x (nI y) := fun _ _ _ => rfl
  have c1 := h4.set31 (x := k) (show 6 + w 0 < 135 by omega) (loc_kind (k := w 0) (by omega))
  have c2 := c1.set31 (x := 5) (show 14 + (w 0 * 4 + 0) < 135 by omega) (loc_pull (k := w 0 * 4 + 0) (by omega))
  have c3 := c2.set31 (x := 5) (show 14 + (w 0 * 4 + 1) < 135 by omega) (loc_pull (k := w 0 * 4 + 1) (by omega))
  have c4 := c3.set31 (x := 5) (show 14 + (w 0 * 4 + 2) < 135 by omega) (loc_pull (k := w 0 * 4 + 2) (by omega))
  have c5 := c4.set31 (x := 5) (show 14 + (w 0 * 4 + 3) < 135 by omega) (loc_pull (k := w 0 * 4 + 3) (by omega))
  have c6 := c5.set31 (x := w 0 + 1) (show 0 < 135 by omega) loc0
  refine ⟨uI (uI (uI (uI (uI (uI I 34 (w 0) (nI k)) 35 (w 0 * 4 + 0) (nI 5)) 35 (w 0 * 4 + 1) (nI 5)) 35 (w 0 * 4 + 2) (nI 5)) 35 (w 0 * 4 + 3) (nI 5)) 33 5 (nI (w 0 + 1)), ?_, ⟨h0, ?_, ?_, fun j hj => ?_, ?_⟩, fun c a b => ?_, ?_⟩
  · unfold f_X3_addParish_33
    rw [e0, lt_eq, ck_nI (by omega) (by omega), lt_eq, c_nI (by omega), fuel_eq]
    show f_X3_addParish_33_l14 (999995 + 1 + 1 + 1 + 1 + 1) (nI (w 0)) (nI 0) (uI I 34 (w 0) (nI k)) L = _
    rw [aP33 h8 (by omega), aP33 h8 (by omega), aP33 h8 (by omega), aP33 h8 (by omega), f_X3_addParish_33_l14, if_pos (by decide), lt_eq]
    rw [uI_cell (show 33 ≠ 35 by omega), uI_cell (show 33 ≠ 35 by omega), uI_cell (show 33 ≠ 35 by omega), uI_cell (show 33 ≠ 35 by omega), uI_cell (show 33 ≠ 34 by omega), e0, show nI (w 0) + 1 = nI (w 0 + 1) from n_add _ 1]
    rfl
  · rw [uI_cell (by omega), uI_cell (by omega), uI_cell (by omega), uI_cell (by omega), uI_cell (by omega), uI_cell (by omega)]; exact h1
  · rw [uI_cell (by omega), uI_cell (by omega), uI_cell (by omega), uI_cell (by omega), uI_cell (by omega), uI_cell (by omega)]; exact h2
  · rw [uI_cell (by omega), uI_cell (by omega), uI_cell (by omega), uI_cell (by omega), uI_cell (by omega), uI_cell (by omega)]; exact h3 j hj
  · refine CHs.sub c6 (fun i hi hg => ?_)
    have w0' : wP w k 0 = w 0 + 1 := by
      show vu (vu (vu (vu (vu (vu w (6 + w 0) k) (14 + (w 0 * 4 + 0)) 5) (14 + (w 0 * 4 + 1)) 5) (14 + (w 0 * 4 + 2)) 5) (14 + (w 0 * 4 + 3)) 5) 0 (w 0 + 1) 0 = w 0 + 1
      exact vu_s _ _ _
    have w1' : wP w k 1 = w 1 := by
      show vu (vu (vu (vu (vu (vu w (6 + w 0) k) (14 + (w 0 * 4 + 0)) 5) (14 + (w 0 * 4 + 1)) 5) (14 + (w 0 * 4 + 2)) 5) (14 + (w 0 * 4 + 3)) 5) 0 (w 0 + 1) 1 = w 1
      rw [vu_n (by omega), vu_n (by omega), vu_n (by omega), vu_n (by omega), vu_n (by omega), vu_n (by omega)]
    unfold gL at hg ⊢
    rw [w0', w1'] at hg
    omega
  · rw [uI_cell (by omega), uI_cell (by omega), uI_cell (by omega), uI_cell (by omega), uI_cell (by omega), uI_cell (by omega)]
  · rw [uI_cell (by omega), uI_cell (by omega), uI_cell (by omega), uI_cell (by omega), uI_cell (by omega), uI_cell (by omega)]
theorem r_addP (h : RD n t J p w) (h8 : w 0 < 8) (k : Nat) : ∃ J', f_X11_joins_67 J L (nI k) = some (nI (w 0), J', L) ∧ RD n t J' p (wP w k) ∧ FR J J' := by
  obtain ⟨h0, h1, h2, h3, h4⟩ := h
  refine ⟨_, mjoins_eq (h4 0 (by omega)) h8, ⟨h0, ?_, ?_, fun j hj => ?_, ?_⟩, fun c a b => ?_, fun j hj => ?_⟩
  · rw [uI_cell (by omega), uI_cell (by omega), uI_cell (by omega), uI_cell (by omega), uI_cell (by omega), uI_cell (by omega)]; exact h1
  · rw [uI_cell (by omega), uI_cell (by omega), uI_cell (by omega), uI_cell (by omega), uI_cell (by omega), uI_cell (by omega)]; exact h2
  · rw [uI_cell (by omega), uI_cell (by omega), uI_cell (by omega), uI_cell (by omega), uI_cell (by omega), uI_cell (by omega)]; exact h3 j hj
  · exact (((((h4.set (6 + w 0) k).set (14 + (w 0 * 4 + 0)) 5).set (14 + (w 0 * 4 + 1)) 5).set (14 + (w 0 * 4 + 2)) 5).set (14 + (w 0 * 4 + 3)) 5).set 0 (w 0 + 1)
  · rw [uI_cell b, uI_cell b, uI_cell b, uI_cell b, uI_cell b, uI_cell b]
  · rw [uI_cell (by omega), uI_cell (by omega), uI_cell (by omega), uI_cell (by omega), uI_cell (by omega), uI_cell (by omega)]
theorem wP_k (w : mV) (k : Nat) (h8 : w 0 < 8) : wP w k 0 = w 0 + 1 ∧ wP w k 1 = w 1 ∧ Kw w (wP w k) := by
  have e : ∀ j, j ≠ 0 → j ≠ 6 + w 0 → (j < 14 ∨ 46 ≤ j) → wP w k j = w j := by
    intro j a b c
    show vu (vu (vu (vu (vu (vu w (6 + w 0) k) (14 + (w 0 * 4 + 0)) 5) (14 + (w 0 * 4 + 1)) 5) (14 + (w 0 * 4 + 2)) 5) (14 + (w 0 * 4 + 3)) 5) 0 (w 0 + 1) j = w j
    rw [vu_n (by omega), vu_n (by omega), vu_n (by omega), vu_n (by omega), vu_n (by omega), vu_n (by omega)]
  refine ⟨?_, e 1 (by omega) (by omega) (by omega), fun j hj => e j (by omega) (by omega) (by omega)⟩
  show vu (vu (vu (vu (vu (vu w (6 + w 0) k) (14 + (w 0 * 4 + 0)) 5) (14 + (w 0 * 4 + 1)) 5) (14 + (w 0 * 4 + 2)) 5) (14 + (w 0 * 4 + 3)) 5) 0 (w 0 + 1) 0 = w 0 + 1
  exact vu_s _ _ _
/-- a pull told -/
theorem c_pull (h : CD n t I p w) {k x : Nat} (hk : k < 4 * w 0) (h8 : w 0 ≤ 8) : CD n t (uI I 35 k (nI x)) p (vu w (14 + k) x) ∧ FC I (uI I 35 k (nI x)) := by
  obtain ⟨h0, h1, h2, h3, h4⟩ := h
  refine ⟨⟨h0, by rw [uI_cell (by omega)]; exact h1, by rw [uI_cell (by omega)]; exact h2, fun j hj => by rw [uI_cell (by omega)]; exact h3 j hj, ?_⟩, fun c a b => uI_cell (by omega), by rw [uI_cell (by omega)]⟩
  refine CHs.sub (h4.set31 (x := x) (show 14 + k < 135 by omega) (loc_pull (by omega))) (fun i hi hg => ?_)
  unfold gL at hg ⊢
  rw [vu_n (by omega), vu_n (by omega)] at hg
  omega
theorem r_pull (h : RD n t J p w) {k x : Nat} : RD n t (uI J 68 (14 + k) (nI x)) p (vu w (14 + k) x) ∧ FR J (uI J 68 (14 + k) (nI x)) := by
  obtain ⟨h0, h1, h2, h3, h4⟩ := h
  exact ⟨⟨h0, by rw [uI_cell (by omega)]; exact h1, by rw [uI_cell (by omega)]; exact h2, fun j hj => by rw [uI_cell (by omega)]; exact h3 j hj, h4.set _ _⟩, fun c a b => uI_cell b, fun j _ => by rw [uI_cell (by omega)]⟩
/-- what a reading comes to -/
def RP (n : Nat) (t : Nat → Nat) (I J : mI) (L L2 : mL) (w : mV) (cr rr : rI) (P : mV → Prop) : Prop := ∃ b p' w' I' J', cr = some (b, I', L) ∧ rr = some (b, J', L2) ∧ CD n t I' p' w' ∧ RD n t J' p' w' ∧ FC I I' ∧ FR J J' ∧ (b = 0 ∨ (b = 1 ∧ WF w' ∧ Kw w w' ∧ P w'))
theorem pulls_rp (hT : TL n t) {a : Nat} : ∀ (d k p : Nat) (w : mV) (I J : mI) (f1 f2 : Nat), k + d = 4 → d < f1 → d < f2 → CD n t I p w → RD n t J p w → WF w → w 0 = a + 1 → RP n t I J L L2 w (f_X8_readParish_31_l73 f1 (nI a) (nI k) I L) (f_X11_readsParish_67_l44 f2 (nI a) (nI k) J L2) (fun w' => w' 0 = w 0 ∧ w' 1 = w 1) := by
  intro d
  induction d with
  | zero =>
    intro k p w I J f1 f2 hk h1 h2 hc hr hw h0
    obtain ⟨f1, rfl⟩ : ∃ j, f1 = j + 1 := ⟨f1 - 1, by omega⟩
    obtain ⟨f2, rfl⟩ : ∃ j, f2 = j + 1 := ⟨f2 - 1, by omega⟩
    refine ⟨1, p, w, I, J, ?_, ?_, hc, hr, FC.refl I, FR.refl J, Or.inr ⟨rfl, hw, Kw.refl w, rfl, rfl⟩⟩
    · rw [f_X8_readParish_31_l73, show (4 : Int32) = nI 4 from rfl, if_pos (by rw [le_nI (by omega) (by omega)]; omega)]
    · rw [f_X11_readsParish_67_l44, show (4 : Int32) = nI 4 from rfl, if_pos (by rw [le_nI (by omega) (by omega)]; omega)]
  | succ d ih =>
    intro k p w I J f1 f2 hk h1 h2 hc hr hw h0
    have sz := hw.sz
    obtain ⟨f1, rfl⟩ : ∃ j, f1 = j + 1 := ⟨f1 - 1, by omega⟩
    obtain ⟨f2, rfl⟩ : ∃ j, f2 = j + 1 := ⟨f2 - 1, by omega⟩
    obtain ⟨I1, c1, c2, c3⟩ := c_digit (L := L) (lo := 1) (hi := 9) hT hc (by omega) (by omega)
    obtain ⟨J1, r1, r2, r3⟩ := r_isDigit (L := L2) (lo := 1) (hi := 9) hT hr (by omega) (by omega)
    have c1' : f_X8_digit_31 I L 1 9 = _ := c1
    have r1' : f_X11_isDigit_67 J L2 1 9 = _ := r1
    rw [f_X8_readParish_31_l73, f_X11_readsParish_67_l44, show (4 : Int32) = nI 4 from rfl, if_neg (by rw [le_nI (by omega) (by omega)]; omega), if_neg (by rw [le_nI (by omega) (by omega)]; omega), c1', r1', bndI_some, bndI_some]
    by_cases q : dg n t (skp n t p) 1 9
    · have hq := q
      obtain ⟨q1, q2, q3⟩ := hq
      obtain ⟨J2, d1, d2, d3⟩ := r_digit (L := L2) hT r2 (skp_skp hc.1) q1 (by omega)
      have hx := c2.next hT q1
      rw [if_pos q, if_pos q, if_pos (ge0_nI (by omega)), if_neg (by decide), d1, bndI_some, lt_eq]
      generalize uI I1 31 3 (I1 31 3 + 1) = I2 at hx
      have hkk : a * 4 + k < 4 * w 0 := by omega
      have cp := c_pull (x := t (skp n t p) - 48) hx.1 hkk (by omega)
      have rp := r_pull (k := a * 4 + k) (x := t (skp n t p) - 48) d2
      rw [n_mul, n_add, ck_nI (by omega) (by omega), lt_eq, lt_eq, c_nI (by omega), inc_nI, show (14 : Int32) + nI 4 * nI a + nI k = nI (14 + (a * 4 + k)) by rw [show (14 : Int32) = nI 14 from rfl, n_mul, n_add, n_add]; congr 1; omega, ck_nI (by omega) (by omega), lt_eq, lt_eq, c_nI (by omega)]
      obtain ⟨b, p', w', I', J', g1, g2, g3, g4, g5, g6, g7⟩ := ih (k + 1) (skp n t p + 1) (vu w (14 + (a * 4 + k)) (t (skp n t p) - 48)) _ _ f1 f2 (by omega) (by omega) (by omega) cp.1 rp.1 (hw.pull hkk (by omega) (by omega)) (by rw [vu_n (by omega)]; exact h0)
      refine ⟨b, p', w', I', J', g1, g2, g3, g4, (c3.trans (hx.2.trans cp.2)).trans g5, (r3.trans (d3.trans rp.2)).trans g6, ?_⟩
      rcases g7 with e | ⟨e, k1, k2, k3, k4⟩
      · exact Or.inl e
      · refine Or.inr ⟨e, k1, fun j hj => ?_, ?_, ?_⟩
        · rw [k2 j hj, vu_n (by omega)]
        · rw [k3, vu_n (by omega)]
        · rw [k4, vu_n (by omega)]
    · rw [if_neg q, if_neg q, if_neg (by decide), if_pos rfl]
      exact ⟨0, skp n t p, w, I1, J1, rfl, rfl, c2, r2, c3, r3, Or.inl rfl⟩
theorem parish_rp (hT : TL n t) (hc : CD n t I p w) (hr : RD n t J p w) (hw : WF w) (h8 : w 0 < 8) : RP n t I J L L2 w (f_X8_readParish_31 I L) (f_X11_readsParish_67 J L2) (fun w' => w' 0 = w 0 + 1 ∧ w' 1 = w 1) := by
  have hTn := hT.1
  obtain ⟨I1, c1, c2, c3⟩ := c_skip (L := L) hT hc
  obtain ⟨J1, r1, r2, r3⟩ := r_next (L := L2) hT hr
  have hq := skp_le (n := n) (t := t) hc.1
  unfold f_X8_readParish_31 f_X11_readsParish_67
  rw [c1, r1, bndV_some, bndI_some]
  have fail : ∀ cr rr : rI, cr = some (0, I1, L) → rr = some (0, J1, L2) → RP n t I J L L2 w cr rr (fun w' => w' 0 = w 0 + 1 ∧ w' 1 = w 1) := fun cr rr e1 e2 => ⟨0, skp n t p, w, I1, J1, e1, e2, c2, r2, c3, r3, Or.inl rfl⟩
  by_cases q : skp n t p < n
  · have tb := hT.2 _ q
    have ec : ch n t (skp n t p) = t (skp n t p) := by unfold ch; rw [if_pos q]
    rw [c2.2.1, c2.2.2.1, if_neg (by rw [le_nI (by omega) (by omega)]; omega), ck_nI (by omega) (by omega), c_nI (by omega), c2.2.2.2.1 _ q, idx_eq (J := J1) (L2 := L2) (by omega), ec]
    rcases kind_c (I := J1) (L := L2) (nI (t (skp n t p))) with e | ⟨k, hk, e⟩
    · rw [e, Option.bind_some, Option.bind_some, if_neg (by decide)]
      unfold f_X8_readParish_31_b33
      rw [if_neg (by decide)]
      exact fail _ _ rfl rfl
    · rw [e, Option.bind_some, Option.bind_some, if_pos (ge0_nI (by omega))]
      unfold f_X8_readParish_31_b33
      rw [if_pos (ge0_nI (by omega)), lt_eq, lt_eq]
      have cx := c2.next hT q
      have rx := r2.next hT q
      generalize uI I1 31 3 (I1 31 3 + 1) = I2 at cx ⊢
      generalize uI J1 67 8 (J1 67 8 + 1) = J2 at rx ⊢
      obtain ⟨I3, a1, a2, a3⟩ := c_addP (L := L) cx.1 h8 k
      obtain ⟨J3, b1, b2, b3⟩ := r_addP (L := L2) rx.1 h8 k
      obtain ⟨wk0, wk1, wk2⟩ := wP_k w k h8
      have hwP : WF (wP w k) := hw.parish h8 hk
      obtain ⟨I4, d1, d2, d3⟩ := c_digit (L := L) (lo := 1) (hi := 9) hT a2 (by omega) (by omega)
      obtain ⟨J4, e1, e2, e3⟩ := r_isDigit (L := L2) (lo := 1) (hi := 9) hT b2 (by omega) (by omega)
      have d1' : f_X8_digit_31 I3 L 1 9 = _ := d1
      have e1' : f_X11_isDigit_67 J3 L2 1 9 = _ := e1
      rw [a1, b1, bndI_some, bndI_some, d1', e1', bndI_some, bndI_some]
      have fc := c3.trans (cx.2.trans (a3.trans d3))
      have fr := r3.trans (rx.2.trans (b3.trans e3))
      by_cases z : dg n t (skp n t (skp n t p + 1)) 1 9
      · have := z.2
        rw [if_pos z, if_pos z, if_pos (ge0_nI (by omega)), if_neg (by decide)]
        obtain ⟨b, p', w', I', J', g1, g2, g3, g4, g5, g6, g7⟩ := pulls_rp (L := L) (L2 := L2) (a := w 0) hT 4 0 _ (wP w k) I4 J4 fuel fuel (by omega) (fuel_gt (by omega)) (fuel_gt (by omega)) d2 e2 hwP wk0
        refine ⟨b, p', w', I', J', g1, g2, g3, g4, fc.trans g5, fr.trans g6, ?_⟩
        rcases g7 with e | ⟨e, k1, k2, k3, k4⟩
        · exact Or.inl e
        · exact Or.inr ⟨e, k1, wk2.trans k2, by rw [k3, wk0], by rw [k4, wk1]⟩
      · rw [if_neg z, if_neg z, if_neg (by decide), if_pos rfl]
        exact ⟨1, _, wP w k, I4, J4, rfl, rfl, d2, e2, fc, fr, Or.inr ⟨rfl, hwP, wk2, wk0, wk1⟩⟩
  · have ec : ch n t (skp n t p) = 0 := by unfold ch; rw [if_neg q]
    rw [c2.2.1, c2.2.2.1, if_pos (by rw [le_nI (by omega) (by omega)]; omega), ec, show nI 0 = (0 : Int32) from rfl, kind_0, Option.bind_some, if_neg (by decide)]
    unfold f_X8_readParish_31_b33
    rw [if_neg (by decide)]
    exact fail _ _ rfl rfl
end Parse
