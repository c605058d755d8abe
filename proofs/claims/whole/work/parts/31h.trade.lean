/-! trade -/
/-- a cost as the class holds it -/
def cF (x : Nat) : Nat := if x < 100000000 then x else 536870912
section Trade
variable {I J : mI} {L : mL} {v : mV}
theorem spreadAll_eq {n B c lg : Nat} {T : Nat → Nat → Nat} {W : Nat → Nat} (h : RT I n B c lg T W) (hB : RB n B c lg T W) {D : Nat → Nat → Nat} (hD : FW n n (oO B W) (eE T) (wc c lg T W) D) : ∃ J, f_X5_spreadAll_48 I L = some (J, L) ∧ (∀ k, k ≠ 48 → k ≠ 50 → k ≠ 52 → J k = I k) ∧ (∀ j, j ≤ 11 → J 48 j = I 48 j) ∧ ∀ a b, a < n → b < n → J 50 (a * 8 + b) = nI (cF (D a b)) := by
  have b1 := hB.1
  unfold f_X5_spreadAll_48
  obtain ⟨m', J, ⟨i1, i2, i3⟩, hF⟩ := loop_inv (F := fun f k (J : mI) => f_X5_spreadAll_48_l2 f (nI k) J L) (n := n)
    (Inv := fun k J => (∀ c, c ≠ 48 → c ≠ 50 → c ≠ 52 → J c = I c) ∧ (∀ j, j ≤ 11 → J 48 j = I 48 j) ∧ ∀ a b, a < k → b < n → J 50 (a * 8 + b) = nI (cF (D a b)))
    (fun f k J hk hI => by
      obtain ⟨i1, i2, i3⟩ := hI
      obtain ⟨h1, h2, h3, h4, h5, h6⟩ := id h
      have hJ : RT J n B c lg T W := ⟨by rw [i2 8 (by omega)]; exact h1, by rw [i2 9 (by omega)]; exact h2, by rw [i2 10 (by omega)]; exact h3, by rw [i2 11 (by omega)]; exact h4, fun a b ha hb => by rw [i1 49 (by omega) (by omega) (by omega)]; exact h5 a b ha hb, fun a ha => by rw [i1 51 (by omega) (by omega) (by omega)]; exact h6 a ha⟩
      obtain ⟨J2, s1, s2, s3⟩ := spread_eq (L := L) hJ hB hk hD
      refine ⟨pI J2 50 (va_cpy (J2 52) (J2 50) 0 (k * 8) 8), ⟨fun c q1 q2 q3 => by rw [pI_cell q2, s2.1 c q1 q3, i1 c q1 q2 q3], fun j hj => by rw [pI_cell (by omega), s2.2 j hj, i2 j hj], fun a b ha hb => ?_⟩, ?_⟩
      · rw [pI_at, if_pos rfl]
        by_cases e : a = k
        · subst e
          rw [pk_cpy_in (by omega) (by omega), show 0 + (a * 8 + b - a * 8) = b by omega, s3 b hb]; rfl
        · rw [pk_cpy_out (by omega), s2.1 50 (by omega) (by omega)]
          exact i3 a b (by omega) hb
      · show f_X5_spreadAll_48_l2 (f + 1) (nI k) J L = _
        rw [f_X5_spreadAll_48_l2, hJ.1, if_neg (by rw [le_nI (by omega) (by omega)]; omega), s1, bndV_some, show nI k * 8 = nI (k * 8) from n_mul k 8, ck_t (show cpk 0 (nI (k * 8)) 8 8 64 = true from cpk_nI (i := 0) (m := 8) (by omega) (by omega) (by omega) (by omega)), lt_eq, lt_eq, inc_nI, c_nI (by omega)]
        rfl)
    n 0 I fuel (by omega) ⟨fun _ _ _ _ => rfl, fun _ _ => rfl, fun a b ha => absurd ha (by omega)⟩ (fuel_gt (by omega))
  have hF' : f_X5_spreadAll_48_l2 fuel 0 I L = f_X5_spreadAll_48_l2 (m' + 1) (nI n) J L := hF
  refine ⟨J, ?_, i1, i2, i3⟩
  rw [hF', f_X5_spreadAll_48_l2, i2 8 (by omega), h.1, if_pos (by rw [le_nI (by omega) (by omega)]; omega)]
/-- values and least costs are laid -/
def FV (J : mI) (v : mV) (ca g : Nat) : Prop := HR J v ca 0 ∧ (∀ a b, a < v 0 → b < v 0 → J 50 (a * 8 + b) = nI (cF (DD v ca (v (99 + g)) 0 a b))) ∧ ∀ a, a < v 0 → J 56 a = nI (v (105 + g) * wV v a (v (99 + g)))
theorem findValues_eq (hw : WF v) (hc : CH I 0 v) {ca g : Nat} (hca : ca < v 2) (hg : g < v 3) : ∃ J, f_X9_findValues_55 I L (nI g) (nI ca) = some (J, L) ∧ (∀ k, k < 48 ∨ 66 < k → J k = I k) ∧ FV J v ca g := by
  have sz := hw.sz
  have gb := hw.goodb g hg
  obtain ⟨J1, h1, h2, h3⟩ := harness_hr (L := L) hw hc hca
  have hc1 : CH J1 0 v := hc.frame (fun k a b => h2 k (by omega) (by omega))
  obtain ⟨J2, g1, g2, g3, g4⟩ := weigh_hr (L := L) hw hc1 h3 gb.1.2
  have hc2 : CH J2 0 v := hc1.frame (fun k a b => g2 k (by omega))
  obtain ⟨J3, s1, s2, s3, s4⟩ := spreadAll_eq (L := L) (g3.rt hw g4) (hw.rb hca gb.1.2 (show 0 < 256 by omega)) (DD_ok hw hca gb.1.2 (show 0 < 256 by omega))
  have hf : ∀ k, k < 48 ∨ 66 < k → J3 k = I k := fun k hk => by rw [s2 k (by omega) (by omega) (by omega), g2 k (by omega), h2 k (by omega) (by omega)]
  have hr3 : HR J3 v ca 0 := g3.frame s3 (s2 49 (by omega) (by omega) (by omega))
  have hw3 : ∀ a, a < v 0 → J3 51 a = nI (wV v a (v (99 + g))) := fun a ha => by rw [s2 51 (by omega) (by omega) (by omega)]; exact g4 a ha
  unfold f_X9_findValues_55
  rw [h1, bndV_some, ck_nI (by omega) (by omega), c_nI (by omega), hc1.rmass hw g hg, g1, bndV_some, s1, bndV_some]
  obtain ⟨m', J, ⟨i1, i2⟩, hF⟩ := loop_inv (F := fun f k (J : mI) => f_X9_findValues_55_l33 f (nI g) (nI k) J L) (n := v 0)
    (Inv := fun k J => (∀ c, c ≠ 56 → J c = J3 c) ∧ ∀ a, a < k → J 56 a = nI (v (105 + g) * wV v a (v (99 + g))))
    (fun f k J hk hI => by
      have hcJ : CH J 0 v := hc.frame (fun k a b => by rw [hI.1 k (by omega), hf k (by omega)])
      refine ⟨uI J 56 k (nI (v (105 + g) * wV v k (v (99 + g)))), ⟨fun c hc => by rw [uI_cell hc]; exact hI.1 c hc, fun a ha => ?_⟩, ?_⟩
      · rw [uI_at]
        by_cases e : a = k
        · rw [if_pos ⟨rfl, e⟩, e]
        · rw [if_neg (fun z => e z.2)]; exact hI.2 a (by omega)
      · show f_X9_findValues_55_l33 (f + 1) (nI g) (nI k) J L = _
        rw [f_X9_findValues_55_l33, hI.1 48 (by omega), hr3.1, if_neg (by rw [le_nI (by omega) (by omega)]; omega), ck_nI (by omega) (by omega), ck_nI (by omega) (by omega), ck_nI (by omega) (by omega), c_nI (by omega), c_nI (by omega), hcJ.rprice hw g hg, hI.1 51 (by omega), hw3 k hk, n_mul, lt_eq, lt_eq, inc_nI])
    (v 0) 0 J3 fuel (by omega) ⟨fun _ _ => rfl, fun a ha => absurd ha (by omega)⟩ (fuel_gt (by omega))
  have hF' : f_X9_findValues_55_l33 fuel (nI g) 0 J3 L = f_X9_findValues_55_l33 (m' + 1) (nI g) (nI (v 0)) J L := hF
  refine ⟨J, ?_, fun k hk => by rw [i1 k (by omega), hf k hk], hr3.frame (fun j _ => by rw [i1 48 (by omega)]) (i1 49 (by omega)), fun a b ha hb => by rw [i1 50 (by omega)]; exact s4 a b ha hb, i2⟩
  rw [hF', f_X9_findValues_55_l33, i1 48 (by omega), hr3.1, if_pos (by rw [le_nI (by omega) (by omega)]; omega)]
theorem leads_eq (hw : WF v) {ca g : Nat} (hca : ca < v 2) (hg : g < v 3) (h : FV I v ca g) {a b : Nat} (ha : a < v 0) (hb : b < v 0) : f_X5_leads_48 I L (nI a) (nI b) = some (if a ≠ b ∧ DD v ca (v (99 + g)) 0 a b < 100000000 then 1 else 0) := by
  have sz := hw.sz
  have dl := DD_le hw hca (hw.goodb g hg).1.2 (show 0 < 256 by omega) ha hb
  unfold f_X5_leads_48
  rw [show nI a * 8 = nI (a * 8) from n_mul a 8, n_add, c_nI (by omega), ck_nI (by omega) (by omega), h.2.1 a b ha hb, show (536870912 : Int32) = nI 536870912 from rfl]
  unfold cF
  by_cases e : a = b
  · subst e; rw [if_pos rfl, if_neg (fun z => z.1 rfl)]
  · rw [if_neg (fun z => e ((eq_nI (by omega) (by omega)).mp z))]
    by_cases q : DD v ca (v (99 + g)) 0 a b < 100000000
    · rw [if_pos q, if_neg (by rw [le_nI (by omega) (by omega)]; omega), if_pos ⟨e, q⟩]
    · rw [if_neg q, if_pos (by rw [le_nI (by omega) (by omega)]; omega), if_neg (fun z => q z.2)]
/-- a step over pairs: the best one, its gain -/
noncomputable def gn (v : mV) (ca g a b : Nat) : Int32 := nI (v (105 + g) * wV v b (v (99 + g))) - nI (v (105 + g) * wV v a (v (99 + g))) - nI (DD v ca (v (99 + g)) 0 a b)
noncomputable def tst (v : mV) (ca g a b : Nat) (s : Option (Nat × Int32)) : Option (Nat × Int32) := if a ≠ b ∧ DD v ca (v (99 + g)) 0 a b < 100000000 then (match s with | none => some (10 * a + b, gn v ca g a b) | some q => if gn v ca g a b ≤ q.2 then some q else some (10 * a + b, gn v ca g a b)) else s
def tp (x : Int32) : Option (Nat × Int32) → Int32
  | none => x
  | some q => nI q.1
def tg (x : Int32) : Option (Nat × Int32) → Int32
  | none => x
  | some q => q.2
theorem gn_t (hw : WF v) {ca g a b : Nat} (hca : ca < v 2) (hg : g < v 3) (ha : a < v 0) (hb : b < v 0) (q : DD v ca (v (99 + g)) 0 a b < 100000000) : -300000 ≤ (gn v ca g a b).toInt := by
  have gb := hw.goodb g hg
  have dl := DD_le hw hca gb.1.2 (show 0 < 256 by omega) ha hb
  have h2 := wV_le hw ha (m := v (99 + g))
  have h3 := wV_le hw hb (m := v (99 + g))
  have h4 : v (105 + g) * wV v a (v (99 + g)) ≤ 9 * 990 := Nat.mul_le_mul gb.2.1.2 (by omega)
  have h5 : v (105 + g) * wV v b (v (99 + g)) ≤ 9 * 990 := Nat.mul_le_mul gb.2.1.2 (by omega)
  unfold gn
  rw [Int32.toInt_sub, sub_t (by omega) (by omega), t_nI (by omega), Int.bmod_eq_of_le (by omega) (by omega)]
  omega
theorem tst_ok (hw : WF v) {ca g a b : Nat} (hca : ca < v 2) (hg : g < v 3) (ha : a < v 0) (hb : b < v 0) {s : Option (Nat × Int32)} (hs : ∀ q, s = some q → q.1 < 100 ∧ -300000 ≤ q.2.toInt) : ∀ q, tst v ca g a b s = some q → q.1 < 100 ∧ -300000 ≤ q.2.toInt := by
  have sz := hw.sz
  intro q hq
  unfold tst at hq
  by_cases c : a ≠ b ∧ DD v ca (v (99 + g)) 0 a b < 100000000
  · rw [if_pos c] at hq
    have gt := gn_t hw hca hg ha hb c.2
    cases s with
    | none => cases hq; exact ⟨by show 10 * a + b < 100; omega, gt⟩
    | some r =>
      have hq' : (if gn v ca g a b ≤ r.2 then some r else some (10 * a + b, gn v ca g a b)) = some q := hq
      by_cases z : gn v ca g a b ≤ r.2
      · rw [if_pos z] at hq'; exact hs q hq'
      · rw [if_neg z] at hq'; cases hq'; exact ⟨by show 10 * a + b < 100; omega, gt⟩
  · rw [if_neg c] at hq; exact hs q hq
theorem nI_ge0' {x : Nat} (h : x < 2147483648) : ¬ nI x < 0 := by
  rw [show (0 : Int32) = nI 0 from rfl, lt_nI h (by omega)]; omega
/-- the class's inner loop -/
theorem ctr_b (hw : WF v) {ca g a : Nat} (hca : ca < v 2) (hg : g < v 3) (ha : a < v 0) (k11 : Int32 → Int32 → mI → mL → rI) (h : FV I v ca g) {s : Option (Nat × Int32)} (hs : ∀ q, s = some q → (q.1 < 100 ∧ -300000 ≤ q.2.toInt) ∧ I 55 6 = q.2) : ∃ J s', f_X9_best_55_l26 k11 fuel (tp (-1) s) (nI a) 0 I L = k11 (tp (-1) s') (nI (a + 1)) J L ∧ (∀ k, k ≠ 55 → J k = I k) ∧ s' = fold (tst v ca g a) (v 0) 0 s ∧ ∀ q, s' = some q → (q.1 < 100 ∧ -300000 ≤ q.2.toInt) ∧ J 55 6 = q.2 := by
  have sz := hw.sz
  obtain ⟨m', st, ⟨i1, i2, i3⟩, hF⟩ := loop_inv (F := fun f k (st : mI × Option (Nat × Int32)) => f_X9_best_55_l26 k11 f (tp (-1) st.2) (nI a) (nI k) st.1 L) (n := v 0)
    (Inv := fun k st => (∀ k, k ≠ 55 → st.1 k = I k) ∧ st.2 = fold (tst v ca g a) k 0 s ∧ ∀ q, st.2 = some q → (q.1 < 100 ∧ -300000 ≤ q.2.toInt) ∧ st.1 55 6 = q.2)
    (fun f k st hk hI => by
      obtain ⟨J, s1⟩ := st
      obtain ⟨i1, i2, i3⟩ := hI
      replace i1 : ∀ k, k ≠ 55 → J k = I k := i1
      replace i2 : s1 = fold (tst v ca g a) k 0 s := i2
      replace i3 : ∀ q, s1 = some q → (q.1 < 100 ∧ -300000 ≤ q.2.toInt) ∧ J 55 6 = q.2 := i3
      have hJ : FV J v ca g := ⟨h.1.frame (fun j _ => by rw [i1 48 (by omega)]) (i1 49 (by omega)), fun a b ha hb => by rw [i1 50 (by omega)]; exact h.2.1 a b ha hb, fun a ha => by rw [i1 56 (by omega)]; exact h.2.2 a ha⟩
      have e2 : tst v ca g a k s1 = fold (tst v ca g a) (k + 1) 0 s := by rw [fold_succ, Nat.zero_add, i2]
      have ok := tst_ok hw hca hg ha hk (s := s1) (fun q hq => (i3 q hq).1)
      show ∃ st' : mI × Option (Nat × Int32), _ ∧ f_X9_best_55_l26 k11 (f + 1) (tp (-1) s1) (nI a) (nI k) J L = f_X9_best_55_l26 k11 f (tp (-1) st'.2) (nI a) (nI (k + 1)) st'.1 L
      rw [f_X9_best_55_l26, hJ.1.1, if_neg (by rw [le_nI (by omega) (by omega)]; omega), leads_eq hw hca hg hJ ha hk, Option.bind_some]
      by_cases c : a ≠ k ∧ DD v ca (v (99 + g)) 0 a k < 100000000
      · have eg : nI (v (105 + g) * wV v k (v (99 + g))) - nI (v (105 + g) * wV v a (v (99 + g))) - nI (cF (DD v ca (v (99 + g)) 0 a k)) = gn v ca g a k := by unfold gn cF; rw [if_pos c.2]
        have go : tst v ca g a k s1 = some (10 * a + k, gn v ca g a k) → ∃ st' : mI × Option (Nat × Int32), ((∀ k, k ≠ 55 → st'.1 k = I k) ∧ st'.2 = fold (tst v ca g a) (k + 1) 0 s ∧ ∀ q, st'.2 = some q → (q.1 < 100 ∧ -300000 ≤ q.2.toInt) ∧ st'.1 55 6 = q.2) ∧ f_X9_best_55_b99 J L k11 (f_X9_best_55_l26 k11 f) (nI a) (nI k) (gn v ca g a k) = f_X9_best_55_l26 k11 f (tp (-1) st'.2) (nI a) (nI (k + 1)) st'.1 L := by
          intro e3
          refine ⟨(uI J 55 6 (gn v ca g a k), tst v ca g a k s1), ⟨fun k hk => (uI_cell hk).trans (i1 k hk), e2, fun q hq => ⟨ok q hq, ?_⟩⟩, ?_⟩
          · replace hq : tst v ca g a k s1 = some q := hq
            rw [e3] at hq; cases hq; exact uI_same J 55 6 (gn v ca g a k)
          · unfold f_X9_best_55_b99
            rw [lt_eq, lt_eq, lt_eq, inc_nI, show (10 : Int32) * nI a = nI (10 * a) from n_mul 10 a, n_add, e3]; rfl
        rw [if_pos c, if_neg (by decide), ck_nI (by omega) (by omega), ck_nI (by omega) (by omega), show nI a * 8 = nI (a * 8) from n_mul a 8, n_add, c_nI (by omega), c_nI (by omega), c_nI (by omega), ck_nI (by omega) (by omega), hJ.2.2 k hk, hJ.2.2 a ha, hJ.2.1 a k ha hk, lt_eq, eg]
        cases es : s1 with
        | none =>
          rw [if_pos (show tp (-1) none < 0 by decide)]
          exact go (by unfold tst; rw [if_pos c, es])
        | some q =>
          have iq := i3 q es
          rw [if_neg (show ¬ tp (-1) (some q) < 0 from nI_ge0' (by omega)), iq.2]
          by_cases z : gn v ca g a k ≤ q.2
          · rw [if_pos z, lt_eq, inc_nI]
            refine ⟨(J, some q), ⟨i1, ?_, fun q' hq' => i3 q' (by rw [es]; exact hq')⟩, rfl⟩
            rw [← e2]; unfold tst; rw [if_pos c, es]; show some q = if gn v ca g a k ≤ q.2 then _ else _; rw [if_pos z]
          · rw [if_neg z]
            exact go (by unfold tst; rw [if_pos c, es]; show (if gn v ca g a k ≤ q.2 then _ else _) = _; rw [if_neg z])
      · rw [if_neg c, if_pos rfl, lt_eq, inc_nI]
        refine ⟨(J, s1), ⟨i1, ?_, i3⟩, rfl⟩
        rw [← e2]; unfold tst; rw [if_neg c])
    (v 0) 0 (I, s) fuel (by omega) ⟨fun _ _ => rfl, rfl, hs⟩ (fuel_gt (by omega))
  have hF' : f_X9_best_55_l26 k11 fuel (tp (-1) s) (nI a) 0 I L = f_X9_best_55_l26 k11 (m' + 1) (tp (-1) st.2) (nI a) (nI (v 0)) st.1 L := hF
  refine ⟨st.1, st.2, ?_, i1, i2, i3⟩
  rw [hF', f_X9_best_55_l26, i1 48 (by omega), h.1.1, if_pos (by rw [le_nI (by omega) (by omega)]; omega), lt_eq, inc_nI]
/-- the best trade -/
noncomputable def trv (v : mV) (ca g : Nat) : Option (Nat × Int32) := fold (fun a s => fold (tst v ca g a) (v 0) 0 s) (v 0) 0 none
theorem ctrade (hw : WF v) (hc : CH I 0 v) {ca g : Nat} (hca : ca < v 2) (hg : g < v 3) : ∃ J, f_X9_best_55 I L (nI g) (nI ca) = some (tp (-1) (trv v ca g), J, L) ∧ (∀ k, k < 48 ∨ 66 < k → J k = I k) ∧ ∀ q, trv v ca g = some q → (q.1 < 100 ∧ -300000 ≤ q.2.toInt) ∧ J 55 6 = q.2 := by
  have sz := hw.sz
  obtain ⟨J0, h1, h2, h3⟩ := findValues_eq (L := L) hw hc hca hg
  unfold f_X9_best_55
  rw [h1, bndV_some]
  obtain ⟨m', st, ⟨i1, i2, i3⟩, hF⟩ := loop_inv (F := fun f k (st : mI × Option (Nat × Int32)) => f_X9_best_55_l11 f (tp (-1) st.2) (nI k) st.1 L) (n := v 0)
    (Inv := fun k st => (∀ k, k ≠ 55 → st.1 k = J0 k) ∧ st.2 = fold (fun a s => fold (tst v ca g a) (v 0) 0 s) k 0 none ∧ ∀ q, st.2 = some q → (q.1 < 100 ∧ -300000 ≤ q.2.toInt) ∧ st.1 55 6 = q.2)
    (fun f k st hk hI => by
      obtain ⟨i1, i2, i3⟩ := hI
      have hJ : FV st.1 v ca g := ⟨h3.1.frame (fun j _ => by rw [i1 48 (by omega)]) (i1 49 (by omega)), fun a b ha hb => by rw [i1 50 (by omega)]; exact h3.2.1 a b ha hb, fun a ha => by rw [i1 56 (by omega)]; exact h3.2.2 a ha⟩
      obtain ⟨J2, s2, c1, c2, c3, c4⟩ := ctr_b (L := L) hw hca hg hk (f_X9_best_55_l11 f) hJ i3
      refine ⟨(J2, s2), ⟨fun k hk => (c2 k hk).trans (i1 k hk), by rw [fold_succ, Nat.zero_add, ← i2]; exact c3, c4⟩, ?_⟩
      show f_X9_best_55_l11 (f + 1) (tp (-1) st.2) (nI k) st.1 L = _
      rw [f_X9_best_55_l11, hJ.1.1, if_neg (by rw [le_nI (by omega) (by omega)]; omega)]
      exact c1)
    (v 0) 0 (J0, none) fuel (by omega) ⟨fun _ _ => rfl, rfl, fun q hq => by cases hq⟩ (fuel_gt (by omega))
  have hF' : f_X9_best_55_l11 fuel (-1) 0 J0 L = f_X9_best_55_l11 (m' + 1) (tp (-1) st.2) (nI (v 0)) st.1 L := hF
  have e : trv v ca g = st.2 := i2.symm
  refine ⟨st.1, ?_, fun k hk => by rw [i1 k (by omega), h2 k hk], by rw [e]; exact i3⟩
  rw [hF', f_X9_best_55_l11, i1 48 (by omega), h3.1.1, if_pos (by rw [le_nI (by omega) (by omega)]; omega), e]
theorem mul_sub_n (a b c : Nat) : nI a * (nI b - nI c) = nI (a * b) - nI (a * c) := by
  rw [← n_mul, ← n_mul]
  apply Int32.toBitVec_inj.mp
  rw [Int32.toBitVec_mul, Int32.toBitVec_sub, Int32.toBitVec_sub, Int32.toBitVec_mul, Int32.toBitVec_mul]
  exact BitVec.mul_sub
/-- the reference's inner loop -/
theorem mtr_b (hw : WF v) (hm : MH I 68 v) {ca g a : Nat} (hca : ca < v 2) (hg : g < v 3) (ha : a < v 0) (k51 : Int32 → Int32 → Int32 → Int32 → Int32 → mI → mL → rI) (hD : MD I v ca (v (99 + g)) 0) {x : Int32} {s : Option (Nat × Int32)} (hs : ∀ q, s = some q → q.1 < 100 ∧ -300000 ≤ q.2.toInt) : f_X11_trade_67_l65 k51 fuel (nI g) x (tg (-100000000) s) (tp 0 s) (nI a) 0 I L = k51 (nI g) x (tg (-100000000) (fold (tst v ca g a) (v 0) 0 s)) (tp 0 (fold (tst v ca g a) (v 0) 0 s)) (nI (a + 1)) I L ∧ ∀ q, fold (tst v ca g a) (v 0) 0 s = some q → q.1 < 100 ∧ -300000 ≤ q.2.toInt := by
  have sz := hw.sz
  have gb := hw.goodb g hg
  have em : ((-100000000 : Int32)).toInt = -100000000 := by decide
  refine loop_to (F := fun f k s => f_X11_trade_67_l65 k51 f (nI g) x (tg (-100000000) s) (tp 0 s) (nI a) (nI k) I L) (f := fun k s => tst v ca g a k s) (out := fun s => k51 (nI g) x (tg (-100000000) s) (tp 0 s) (nI (a + 1)) I L) (n := v 0) (Inv := fun k s => ∀ q, s = some q → q.1 < 100 ∧ -300000 ≤ q.2.toInt) (fun f k s hk hI => ?_) (fun k s hk hI => tst_ok hw hca hg ha hk hI) (fun f s hI => ?_) (v 0) 0 s fuel (by omega) hs (fuel_gt (by omega))
  · have dl := DD_le hw hca gb.1.2 (show 0 < 256 by omega) ha hk
    show f_X11_trade_67_l65 k51 (f + 1) (nI g) x (tg (-100000000) s) (tp 0 s) (nI a) (nI k) I L = _
    rw [f_X11_trade_67_l65, cl0, hm.n 0 (by omega), if_neg (by rw [le_nI (by omega) (by omega)]; omega), show (8 : Int32) * nI a = nI (8 * a) from n_mul 8 a, n_add, ck_nI (by omega) (by omega), c_nI (by omega), hD a k ha hk, lt_eq, show (105 : Int32) + nI g = nI (105 + g) from n_add 105 g, show (99 : Int32) + nI g = nI (99 + g) from n_add 99 g, ck_nI (by omega) (by omega), ck_nI (by omega) (by omega), c_nI (by omega), c_nI (by omega), hm.n _ (by omega), hm.n _ (by omega), mweight_eq hw hm hk (by omega), Option.bind_some, ck_nI (by omega) (by omega), mweight_eq hw hm ha (by omega), Option.bind_some, mul_sub_n, lt_eq, show (100000000 : Int32) = nI 100000000 from rfl, show (10 : Int32) * nI a = nI (10 * a) from n_mul 10 a, n_add]
    simp only [lt_eq, inc_nI]
    show (if nI a = nI k then _ else if nI 100000000 ≤ nI (DD v ca (v (99 + g)) 0 a k) then _ else if gn v ca g a k ≤ tg (-100000000) s then _ else _) = _
    by_cases e : a = k
    · have : tst v ca g a k s = s := by unfold tst; rw [if_neg (fun z => z.1 e)]
      rw [if_pos (by rw [e]), this]
    · rw [if_neg (fun z => e ((eq_nI (by omega) (by omega)).mp z))]
      by_cases q : DD v ca (v (99 + g)) 0 a k < 100000000
      · rw [if_neg (by rw [le_nI (by omega) (by omega)]; omega)]
        have gt := gn_t hw hca hg ha hk q
        cases es : s with
        | none =>
          have : tst v ca g a k none = some (10 * a + k, gn v ca g a k) := by unfold tst; rw [if_pos ⟨e, q⟩]
          rw [if_neg (show ¬ gn v ca g a k ≤ tg (-100000000) none by rw [Int32.le_iff_toInt_le]; show ¬ _ ≤ (-100000000 : Int32).toInt; omega), this]
          rfl
        | some r =>
          have : tst v ca g a k (some r) = if gn v ca g a k ≤ r.2 then some r else some (10 * a + k, gn v ca g a k) := by unfold tst; rw [if_pos ⟨e, q⟩]
          rw [this]
          by_cases z : gn v ca g a k ≤ r.2
          · rw [if_pos z, if_pos (show gn v ca g a k ≤ tg (-100000000) (some r) from z)]
          · rw [if_neg z, if_neg (show ¬ gn v ca g a k ≤ tg (-100000000) (some r) from z)]
            rfl
      · have : tst v ca g a k s = s := by unfold tst; rw [if_neg (fun z => q z.2)]
        rw [if_pos (by rw [le_nI (by omega) (by omega)]; omega), this]
  · show f_X11_trade_67_l65 k51 (f + 1) (nI g) x (tg (-100000000) s) (tp 0 s) (nI a) (nI (v 0)) I L = _
    rw [f_X11_trade_67_l65, cl0, hm.n 0 (by omega), if_pos (by rw [le_nI (by omega) (by omega)]; omega), lt_eq, inc_nI]
theorem mtrade (hw : WF v) (hm : MH I 68 v) {ca g : Nat} (hca : ca < v 2) (hg : g < v 3) (hD : MD I v ca (v (99 + g)) 0) {x : Int32} : f_X11_trade_67_l51 fuel (nI g) x (-100000000) 0 0 I L = if tg (-100000000) (trv v ca g) = -100000000 then some (-1000004, I, L) else if x = 0 then some (tg (-100000000) (trv v ca g), I, L) else some (tp 0 (trv v ca g), I, L) := by
  have sz := hw.sz
  refine (loop_to (F := fun f k s => f_X11_trade_67_l51 f (nI g) x (tg (-100000000) s) (tp 0 s) (nI k) I L) (f := fun k s => fold (tst v ca g k) (v 0) 0 s) (out := fun s => if tg (-100000000) s = -100000000 then some (-1000004, I, L) else if x = 0 then some (tg (-100000000) s, I, L) else some (tp 0 s, I, L)) (n := v 0) (Inv := fun k s => ∀ q, s = some q → q.1 < 100 ∧ -300000 ≤ q.2.toInt) (fun f k s hk hI => ?_) (fun k s hk hI => (mtr_b (L := L) (x := x) hw hm hca hg hk (f_X11_trade_67_l51 0) hD hI).2) (fun f s hI => ?_) (v 0) 0 none fuel (by omega) (fun q hq => by cases hq) (fuel_gt (by omega))).1
  · show f_X11_trade_67_l51 (f + 1) (nI g) x (tg (-100000000) s) (tp 0 s) (nI k) I L = _
    rw [f_X11_trade_67_l51, cl0, hm.n 0 (by omega), if_neg (by rw [le_nI (by omega) (by omega)]; omega)]
    exact (mtr_b (L := L) (x := x) hw hm hca hg hk (f_X11_trade_67_l51 f) hD hI).1
  · show f_X11_trade_67_l51 (f + 1) (nI g) x (tg (-100000000) s) (tp 0 s) (nI (v 0)) I L = _
    rw [f_X11_trade_67_l51, cl0, hm.n 0 (by omega), if_pos (by rw [le_nI (by omega) (by omega)]; omega)]
theorem st_trade {a1 a2 a3 : Int32} (h : Rel I L) : St_trade Rel I L a1 a2 a3 := by
  obtain ⟨⟨v, hw, hm, hc⟩, hr2⟩ := id h
  have sz := hw.sz
  unfold St_trade f_X10_trade_0
  rw [hasGood_n hc.c3 (by omega), hasCart_n hc.c2 (by omega), within_l 0 1 (by decide) (by decide)]
  have hM : ∀ J : mI, MH J 68 v → f_X11_trade_67 J L a1 a2 a3 = if 0 ≤ a1.toInt ∧ a1.toInt < (v 3 : Int) then (if 0 ≤ a2.toInt ∧ a2.toInt < (v 2 : Int) then (if 0 ≤ a3.toInt ∧ a3.toInt ≤ 1 then (ck (inb (99 + a1) 135) (bndV (f_X11_layWays_67 J L a2 (J 68 (99 + a1).toNatClampNeg) 0) (fun Ir4 Lr4 => f_X11_trade_67_l51 fuel a1 a3 (-100000000) 0 0 Ir4 Lr4))) else some (-1000001, J, L)) else some (-1000001, J, L)) else some (-1000001, J, L) := by
    intro J hJ
    unfold f_X11_trade_67
    rw [isGood_n (hJ 3 (by omega)) (by omega), isCart_n (hJ 2 (by omega)) (by omega), isTwo_n]
    simp only [Option.bind_some, bit_ite]
  simp only [Option.bind_some, bit_ite]
  by_cases q1 : 0 ≤ a1.toInt ∧ a1.toInt < (v 3 : Int)
  · by_cases q2 : 0 ≤ a2.toInt ∧ a2.toInt < (v 2 : Int)
    · by_cases q3 : 0 ≤ a3.toInt ∧ a3.toInt ≤ 1
      · rw [if_pos q1, if_pos q2, if_pos q3]
        obtain ⟨g, hg, rfl, -⟩ := ofI q1.1 q1.2
        obtain ⟨ca, hca, rfl, -⟩ := ofI q2.1 q2.2
        have gb := hw.goodb g hg
        obtain ⟨J1, h1, h2, h3⟩ := ctrade (L := L) hw hc hca hg
        have hm1 : MH J1 68 v := hm.frame (h2 68 (by omega))
        obtain ⟨J2, m1, m2, m3⟩ := layWays_dd (L := L) (lg := 0) hw hm1 hca gb.1.2 (by omega)
        have hm2 : MH J2 68 v := hm1.frame (m2 68 (by omega))
        have em : ((-100000000 : Int32)).toInt = -100000000 := by decide
        refine ⟨if tg (-100000000) (trv v ca g) = -100000000 then -1000004 else if a3 = 0 then tg (-100000000) (trv v ca g) else tp 0 (trv v ca g), J1, L, J2, L, ?_, ?_, h.scr (fun k hk => by rw [m2 k (by omega), h2 k (by omega)])⟩
        · rw [h1, bndI_some]
          cases e : trv v ca g with
          | none => rw [if_neg (show ¬ (0 : Int32) ≤ tp (-1) none by decide), if_pos (show tg (-100000000) none = -100000000 from rfl)]
          | some q =>
            have hq := h3 q e
            rw [if_pos (show (0 : Int32) ≤ tp (-1) (some q) from ge0_nI (by omega)), if_neg (show ¬ tg (-100000000) (some q) = -100000000 from fun z => by have z' : q.2 = -100000000 := z; have := hq.1.2; rw [z'] at this; omega), hq.2]
            by_cases z : a3 = 0
            · rw [if_pos z, if_pos z]; rfl
            · rw [if_neg z, if_neg z]; rfl
        · rw [hM J1 hm1, if_pos q1, if_pos q2, if_pos q3, show (99 : Int32) + nI g = nI (99 + g) from n_add 99 g, ck_nI (by omega) (by omega), c_nI (by omega), hm1.n _ (by omega)]
          show bndV (f_X11_layWays_67 J1 L (nI ca) (nI (v (99 + g))) (nI 0)) _ = _
          rw [m1, bndV_some, mtrade hw hm2 hca hg m3]
          by_cases z : tg (-100000000) (trv v ca g) = -100000000
          · rw [if_pos z, if_pos z]
          · rw [if_neg z, if_neg z]
            by_cases y : a3 = 0
            · rw [if_pos y, if_pos y]
            · rw [if_neg y, if_neg y]
      · rw [if_pos q1, if_pos q2, if_neg q3]
        exact ⟨-1000001, I, L, I, L, rfl, by rw [hM I hm, if_pos q1, if_pos q2, if_neg q3], h⟩
    · rw [if_pos q1, if_neg q2]
      exact ⟨-1000001, I, L, I, L, rfl, by rw [hM I hm, if_pos q1, if_neg q2], h⟩
  · rw [if_neg q1]
    exact ⟨-1000001, I, L, I, L, rfl, by rw [hM I hm, if_neg q1], h⟩
end Trade
