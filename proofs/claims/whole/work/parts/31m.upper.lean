/-! upper, lower -/
theorem Rel.scrL {I J : mI} {L L2 : mL} (h : Rel I L) (hf : ∀ k, k < 48 ∨ (67 ≤ k ∧ k ≤ 73) → J k = I k) (hL : ∀ c, (41 ≤ c ∧ c ≤ 44) ∨ c = 73 → L2 c = L c) : Rel J L2 := by
  have h' := h.scr hf
  obtain ⟨h1, h2, h3, h4⟩ := h'
  refine ⟨h1, h2, h3, fun q hq => ?_⟩
  have := h4 q hq
  unfold SHt at this ⊢
  rw [hL (41 + q) (by omega), hL 73 (by omega)]
  exact this
theorem uL_same (L : mL) (k j : Nat) (x : Int64) : uL L k j x k j = x := (uL_at L k j k j x).trans (if_pos ⟨rfl, rfl⟩)
theorem uL_ne (L : mL) {k j a b : Nat} (x : Int64) (h : a ≠ k ∨ b ≠ j) : uL L k j x a b = L a b := (uL_at L k j a b x).trans (if_neg (fun q => by omega))
theorem uL_cell (L : mL) {k j a : Nat} (x : Int64) (h : a ≠ k) : uL L k j x a = L a := funext (fun b => uL_ne L x (Or.inl h))
theorem sub_iff {c m : Nat} (hc : c < 256) : mwo c m = 0 ↔ ∀ i, c.testBit i = true → m.testBit i = true := by
  rw [mask0 (Nat.lt_of_le_of_lt (mwo_le c m) hc)]
  constructor
  · intro h i hi
    have h8 : i < 8 := Nat.lt_of_not_le fun z => by rw [bit_out (n := 8) hc z] at hi; cases hi
    have := h i h8
    rw [mwo_bit (by omega), hi] at this
    simpa using this
  · intro h i hi q
    rw [mwo_bit (by omega), Bool.and_eq_true] at q
    have := h i q.1
    rw [this] at q
    exact absurd q.2 (by decide)
theorem sub_le' {c m : Nat} (h : ∀ i, c.testBit i = true → m.testBit i = true) : c ≤ m := by
  have e : c &&& m = c := by
    apply Nat.eq_of_testBit_eq
    intro i
    rw [Nat.testBit_and]
    by_cases q : c.testBit i = true
    · rw [q, h i q]; rfl
    · have q' : c.testBit i = false := by simpa using q
      rw [q']; rfl
  rw [← e]; exact Nat.and_le_right
theorem cb_mono {c m : Nat} (h : ∀ i, c.testBit i = true → m.testBit i = true) : ∀ n, cb c n ≤ cb m n := by
  intro n
  induction n with
  | zero => exact Nat.le_refl 0
  | succ n ih =>
    show cb c n + (if c.testBit n = true then 1 else 0) ≤ cb m n + (if m.testBit n = true then 1 else 0)
    by_cases q : c.testBit n = true
    · rw [if_pos q, if_pos (h n q)]; omega
    · rw [if_neg q]; omega
/-- the sum over those that may come ahead -/
noncomputable def Sm (v : mV) (ca p oth mem : Nat) : Nat → Int64
  | 0 => 0
  | c + 1 => if mwo c oth = 0 then Sm v ca p oth mem c + ordL (nI (cb c 8)) * ordL (nI (mem - 1 - cb c 8)) * (df v ca p c).toInt64 else Sm v ca p oth mem c
section Part
variable {I J : mI} {L : mL} {v : mV}
theorem Sm_t (hw : WF v) {ca p oth mem : Nat} (hca : ca < v 2) (hp : p < 8) (hm : mem ≤ 8) : ∀ c, c ≤ 256 → ∃ z : Nat, (Sm v ca p oth mem c).toInt = z ∧ z ≤ c * 2700000000000000 := by
  intro c
  induction c with
  | zero => intro _; exact ⟨0, by show (0 : Int64).toInt = _; rw [z64]; rfl, by omega⟩
  | succ c ih =>
    intro hc
    obtain ⟨z, h1, h2⟩ := ih (by omega)
    have e : Sm v ca p oth mem (c + 1) = if mwo c oth = 0 then Sm v ca p oth mem c + ordL (nI (cb c 8)) * ordL (nI (mem - 1 - cb c 8)) * (df v ca p c).toInt64 else Sm v ca p oth mem c := rfl
    rw [e]
    by_cases q : mwo c oth = 0
    · rw [if_pos q]
      have c8 := cb_le c 8
      have o1 := ord_tab (cb c 8) (by omega)
      have o2 := ord_tab (mem - 1 - cb c 8) (by omega)
      obtain ⟨d, d1, d2⟩ := df_t hw (c := c) hca hp (by omega)
      have e1 : (ordL (nI (cb c 8))).toInt = ((ordL (nI (cb c 8))).toInt.toNat : Nat) := by omega
      have e2 : (ordL (nI (mem - 1 - cb c 8))).toInt = ((ordL (nI (mem - 1 - cb c 8))).toInt.toNat : Nat) := by omega
      have e3 : (df v ca p c).toInt64.toInt = (d : Nat) := by rw [Int32.toInt_toInt64]; exact d1
      generalize (ordL (nI (cb c 8))).toInt.toNat = x at *
      generalize (ordL (nI (mem - 1 - cb c 8))).toInt.toNat = y at *
      have m1 : x * y ≤ 40320 * 40320 := Nat.mul_le_mul (by omega) (by omega)
      have m2 : x * y * d ≤ 40320 * 40320 * 1600000 := Nat.mul_le_mul m1 d2
      have p1 := l_mul e1 e2 (by omega)
      have p2 := l_mul p1 e3 (by omega)
      exact ⟨z + x * y * d, lo_add h1 p2 (by omega), by omega⟩
    · rw [if_neg q]
      have h3 : c * 2700000000000000 ≤ (c + 1) * 2700000000000000 := Nat.mul_le_mul_right _ (by omega)
      exact ⟨z, h1, Nat.le_trans h2 h3⟩
theorem Sm_skip {ca p oth mem : Nat} (ho : oth < 256) : ∀ d, oth + 1 + d ≤ 256 → Sm v ca p oth mem (oth + 1 + d) = Sm v ca p oth mem (oth + 1) := by
  intro d
  induction d with
  | zero => intro _; rfl
  | succ d ih =>
    intro h
    have e : Sm v ca p oth mem (oth + 1 + d + 1) = if mwo (oth + 1 + d) oth = 0 then Sm v ca p oth mem (oth + 1 + d) + ordL (nI (cb (oth + 1 + d) 8)) * ordL (nI (mem - 1 - cb (oth + 1 + d) 8)) * (df v ca p (oth + 1 + d)).toInt64 else Sm v ca p oth mem (oth + 1 + d) := rfl
    rw [show oth + 1 + (d + 1) = oth + 1 + d + 1 by omega, e, if_neg (fun z => by have := sub_le' ((sub_iff (by omega)).mp z); omega)]
    exact ih (by omega)
theorem fill64_eq : ∃ J, f_J7_fill_53178_64 I L 0 = some (J, L) ∧ (∀ k, k ≠ 64 → J k = I k) ∧ ∀ b, b < 256 → J 64 b = nI 0 := by
  unfold f_J7_fill_53178_64
  obtain ⟨m', J, ⟨i1, i2⟩, hF⟩ := loop_inv (F := fun f k (J : mI) => f_J7_fill_53178_64_l5 f 0 (nI k) 256 J L) (n := 256)
    (Inv := fun k J => (∀ c, c ≠ 64 → J c = I c) ∧ ∀ b, b < k → J 64 b = nI 0)
    (fun f k J hk hI => by
      refine ⟨uI J 64 k 0, ⟨fun c hc => by rw [uI_cell hc]; exact hI.1 c hc, fun b hb => ?_⟩, ?_⟩
      · rw [uI_at]
        by_cases e : b = k
        · rw [if_pos ⟨rfl, e⟩]; rfl
        · rw [if_neg (fun z => e z.2)]; exact hI.2 b (by omega)
      · show f_J7_fill_53178_64_l5 (f + 1) 0 (nI k) 256 J L = _
        rw [f_J7_fill_53178_64_l5, show (256 : Int32) = nI 256 from rfl, if_neg (by rw [le_nI (by omega) (by omega)]; omega), ck_nI (by omega) (by omega), lt_eq, lt_eq, inc_nI, c_nI (by omega)])
    256 0 I fuel (by omega) ⟨fun _ _ => rfl, fun b hb => absurd hb (by omega)⟩ (fuel_gt (by omega))
  have hF' : f_J7_fill_53178_64_l5 fuel 0 0 256 I L = f_J7_fill_53178_64_l5 (m' + 1) 0 (nI 256) 256 J L := hF
  refine ⟨J, ?_, i1, i2⟩
  rw [hF', f_J7_fill_53178_64_l5, if_pos (by decide)]
/-- the class's totals of one good -/
theorem totals_b (hw : WF v) (hc : CH I 0 v) {ca g s : Nat} (hca : ca < v 2) (hg : g < v 3) (hs : s < 256) (k18 : Int32 → Int32 → mI → mL → rV) (hr : ∃ lg, HR I v ca lg) (hW : ∀ a, a < v 0 → I 51 a = nI (wV v a (v (99 + g)))) (ht : ∀ c, c ≤ s → mwo c s = 0 → I 64 c = tot v ca c g) : ∃ J, f_X4_findTotals_63_l48 k18 fuel (nI s) (nI g) 0 I L = k18 (nI s) (nI (g + 1)) J L ∧ (∀ k, k < 48 ∨ 66 < k → J k = I k) ∧ (∃ lg, HR J v ca lg) ∧ ∀ c, c ≤ s → mwo c s = 0 → J 64 c = tot v ca c (g + 1) := by
  have sz := hw.sz
  obtain ⟨m', J, ⟨i1, i2, i3, i4⟩, hF⟩ := loop_inv (F := fun f k (J : mI) => f_X4_findTotals_63_l48 k18 f (nI s) (nI g) (nI k) J L) (n := s + 1)
    (Inv := fun k J => (∀ k, k < 48 ∨ 66 < k → J k = I k) ∧ (∃ lg, HR J v ca lg) ∧ J 51 = I 51 ∧ ∀ c, c ≤ s → mwo c s = 0 → J 64 c = tot v ca c (if c < k then g + 1 else g))
    (fun f k J hk hI => by
      obtain ⟨i1, ⟨lg, i2⟩, i3, i4⟩ := hI
      have hcJ : CH J 0 v := hc.frame (fun k a b => i1 k (by omega))
      obtain ⟨J2, a1, a2, a3, a4, a5, a6⟩ := addTotal_eq (L := L) hw hcJ hca hg (show k < 256 by omega) i2 (fun a ha => by rw [i3]; exact hW a ha)
      have hl := mwo_le k s
      show ∃ J', _ ∧ f_X4_findTotals_63_l48 k18 (f + 1) (nI s) (nI g) (nI k) J L = f_X4_findTotals_63_l48 k18 f (nI s) (nI g) (nI (k + 1)) J' L
      rw [f_X4_findTotals_63_l48, if_neg (by rw [lt_nI (by omega) (by omega)]; omega), wo_nI, a1, bndV_some]
      simp only [lt_eq, inc_nI]
      by_cases q : mwo k s = 0
      · rw [q, if_pos (show nI 0 = (0 : Int32) from rfl)]
        refine ⟨J2, ⟨fun k hk => by rw [a2 k hk, i1 k hk], ⟨k, a3⟩, by rw [a4, i3], fun c hc hz => ?_⟩, rfl⟩
        by_cases e : c = k
        · subst e
          rw [if_pos (by omega), a5, i4 c hc hz, if_neg (by omega)]; rfl
        · rw [a6 c e, i4 c hc hz]
          by_cases z : c < k
          · rw [if_pos z, if_pos (by omega)]
          · rw [if_neg z, if_neg (by omega)]
      · rw [if_neg (show ¬ nI (mwo k s) = (0 : Int32) from fun z => q ((eq_nI (b := 0) (by omega) (by omega)).mp z))]
        refine ⟨J, ⟨i1, ⟨lg, i2⟩, i3, fun c hc hz => ?_⟩, rfl⟩
        have e : c ≠ k := fun e => q (e ▸ hz)
        rw [i4 c hc hz]
        by_cases z : c < k
        · rw [if_pos z, if_pos (by omega)]
        · rw [if_neg z, if_neg (by omega)])
    (s + 1) 0 I fuel (by omega) ⟨fun _ _ => rfl, hr, rfl, fun c hc hz => by rw [if_neg (by omega)]; exact ht c hc hz⟩ (fuel_gt (by omega))
  have hF' : f_X4_findTotals_63_l48 k18 fuel (nI s) (nI g) 0 I L = f_X4_findTotals_63_l48 k18 (m' + 1) (nI s) (nI g) (nI (s + 1)) J L := hF
  refine ⟨J, ?_, i1, i2, fun c hc hz => by rw [i4 c hc hz, if_pos (by omega)]⟩
  rw [hF', f_X4_findTotals_63_l48, if_pos (by rw [lt_nI (by omega) (by omega)]; omega), lt_eq, inc_nI]
theorem totals_eq (hw : WF v) (hc : CH I 0 v) {ca s : Nat} (hca : ca < v 2) (hs : s < 256) : ∃ J, f_X4_findTotals_63 I L (nI s) (nI ca) = some (J, L) ∧ (∀ k, k < 48 ∨ 66 < k → J k = I k) ∧ ∀ c, c ≤ s → mwo c s = 0 → J 64 c = tot v ca c (v 3) := by
  have sz := hw.sz
  unfold f_X4_findTotals_63
  obtain ⟨J0, z1, z2, z3⟩ := fill64_eq (I := I) (L := L)
  have hc0 : CH J0 0 v := hc.frame (fun k a b => z2 k (by omega))
  obtain ⟨J1, h1, h2, h3⟩ := harness_hr (L := L) hw hc0 hca
  rw [z1, bndV_some, h1, bndV_some]
  obtain ⟨m', J, ⟨i1, i2, i3⟩, hF⟩ := loop_inv (F := fun f k (J : mI) => f_X4_findTotals_63_l18 f (nI s) (nI k) J L) (n := v 3)
    (Inv := fun k J => (∀ k, k < 48 ∨ 66 < k → J k = I k) ∧ (∃ lg, HR J v ca lg) ∧ ∀ c, c ≤ s → mwo c s = 0 → J 64 c = tot v ca c k)
    (fun f k J hk hI => by
      obtain ⟨i1, ⟨lg, i2⟩, i3⟩ := hI
      have gb := hw.goodb k hk
      have hcJ : CH J 0 v := hc.frame (fun k a b => i1 k (by omega))
      obtain ⟨J2, w1, w2, w3, w4⟩ := weigh_hr (L := L) hw hcJ i2 gb.1.2
      have hc2 : CH J2 0 v := hcJ.frame (fun k a b => w2 k (by omega))
      obtain ⟨J3, b1, b2, b3, b4⟩ := totals_b (L := L) hw hc2 hca hk hs (f_X4_findTotals_63_l18 f) ⟨lg, w3⟩ w4 (fun c hc hz => by rw [w2 64 (by omega)]; exact i3 c hc hz)
      refine ⟨J3, ⟨fun k hk => by rw [b2 k hk, w2 k (by omega), i1 k hk], b3, b4⟩, ?_⟩
      show f_X4_findTotals_63_l18 (f + 1) (nI s) (nI k) J L = _
      rw [f_X4_findTotals_63_l18, hcJ.c3, if_neg (by rw [le_nI (by omega) (by omega)]; omega), ck_nI (by omega) (by omega), c_nI (by omega), hcJ.rmass hw k hk, w1, bndV_some]
      exact b1)
    (v 3) 0 J1 fuel (by omega) ⟨fun k hk => by rw [h2 k (by omega) (by omega), z2 k (by omega)], ⟨0, h3⟩, fun c hc hz => by rw [h2 64 (by omega) (by omega), z3 c (by omega)]; rfl⟩ (fuel_gt (by omega))
  have hF' : f_X4_findTotals_63_l18 fuel (nI s) 0 J1 L = f_X4_findTotals_63_l18 (m' + 1) (nI s) (nI (v 3)) J L := hF
  refine ⟨J, ?_, i1, i3⟩
  have c3 : J 1 10 = nI (v 3) := by rw [i1 1 (by omega)]; exact hc.c3
  rw [hF', f_X4_findTotals_63_l18, c3, if_pos (by rw [le_nI (by omega) (by omega)]; omega)]
/-- the class's part -/
theorem cpart (hw : WF v) (hc : CH I 0 v) {ca p s : Nat} (hca : ca < v 2) (hp : p < 8) (hs : s < 256) (hb : s.testBit p = true) : ∃ (J : mI) (G : Int64) (z : Nat), f_X4_findPart_63 I L (nI p) (nI s) (nI ca) = some (J, uL (uL L 63 3 (Sm v ca p (mwo s (2 ^ p)) (cb s 8) (mwo s (2 ^ p) + 1) / G)) 63 4 (ordL (nI (cb s 8)) / G)) ∧ (∀ k, k < 48 ∨ 66 < k → J k = I k) ∧ (Sm v ca p (mwo s (2 ^ p)) (cb s 8) (mwo s (2 ^ p) + 1)).toInt = z ∧ G.toInt = (Nat.gcd (ordL (nI (cb s 8))).toInt.toNat z : Nat) := by
  have sz := hw.sz
  have c8 := cb_le s 8
  have ol := mwo_le s (2 ^ p)
  have cw := cb_wo hb 8 (by omega)
  rw [if_pos hp] at cw
  obtain ⟨J, h1, h2, h3⟩ := totals_eq (L := L) hw hc hca hs
  obtain ⟨z, z1, z2⟩ := Sm_t (oth := mwo s (2 ^ p)) (mem := cb s 8) hw hca hp (by omega) (mwo s (2 ^ p) + 1) (by omega)
  have hbits : ∀ i, i < 32 → (mwo s (2 ^ p)).testBit i = (s.testBit i && decide (i ≠ p)) := by
    intro i hi
    rw [mwo_bit hi, Nat.testBit_two_pow]
    by_cases e : p = i
    · subst e; simp
    · simp [e, Ne.symm e]
  generalize eo : mwo s (2 ^ p) = oth at *
  unfold f_X4_findPart_63
  rw [h1, bndV_some, bc_eq hs, Option.bind_some, shl_nI (by omega), wo_nI, eo, lt_eq]
  obtain ⟨m', x, hI, hF⟩ := loop_inv (F := fun f k (x : Int64) => f_X4_findPart_63_l27 f (nI p) (nI (cb s 8)) (nI oth) x (nI k) J L) (n := oth + 1)
    (Inv := fun k x => x = Sm v ca p oth (cb s 8) k)
    (fun f k x hk hI => by
      subst hI
      have hl := mwo_le k oth
      refine ⟨_, rfl, ?_⟩
      show f_X4_findPart_63_l27 (f + 1) (nI p) (nI (cb s 8)) (nI oth) (Sm v ca p oth (cb s 8) k) (nI k) J L = f_X4_findPart_63_l27 f (nI p) (nI (cb s 8)) (nI oth) (if mwo k oth = 0 then Sm v ca p oth (cb s 8) k + ordL (nI (cb k 8)) * ordL (nI (cb s 8 - 1 - cb k 8)) * (df v ca p k).toInt64 else Sm v ca p oth (cb s 8) k) (nI (k + 1)) J L
      rw [f_X4_findPart_63_l27, if_neg (by rw [lt_nI (by omega) (by omega)]; omega), wo_nI]
      by_cases q : mwo k oth = 0
      · have sb := (sub_iff (show k < 256 by omega)).mp q
        have cm := cb_mono sb 8
        have ks : ∀ i, k.testBit i = true → s.testBit i = true := by
          intro i hi
          have h8 : i < 8 := Nat.lt_of_not_le fun z => by rw [bit_out (n := 8) (show k < 2 ^ 8 by omega) z] at hi; cases hi
          have := sb i hi
          rw [hbits i (by omega), Bool.and_eq_true] at this
          exact this.1
        have kps : ∀ i, (k ||| 2 ^ p).testBit i = true → s.testBit i = true := by
          intro i hi
          rw [or_bit, Bool.or_eq_true, decide_eq_true_eq] at hi
          rcases hi with hi | hi
          · exact ks i hi
          · exact hi ▸ hb
        have kp : k ||| 2 ^ p < 256 := or_lt (n := 8) (show k < 2 ^ 8 by omega) hp
        rw [q, if_pos (show nI 0 = (0 : Int32) from rfl), bc_eq (by omega), Option.bind_some, if_pos rfl]
        have e1 : nI (cb s 8) - 1 - nI (cb k 8) = nI (cb s 8 - 1 - cb k 8) := by
          obtain ⟨j, ej⟩ : ∃ j, cb s 8 = j + 1 := ⟨cb s 8 - 1, by omega⟩
          rw [ej, nI_pred, Nat.add_sub_cancel]
          apply Int32.toInt_inj.mp
          rw [sub_t (by omega) (by omega), t_nI (by omega)]
          omega
        rw [e1, shl_nI (by omega), or_nI, ck_nI (by omega) (by omega), ck_nI (by omega) (by omega), ck_nI kp (by omega), ck_nI (by omega) (by omega), c_nI (by omega), c_nI (by omega), h3 _ (sub_le' kps) ((sub_iff kp).mpr kps), h3 k (by omega) ((sub_iff (by omega)).mpr ks), lt_eq, lt_eq, inc_nI]
        rfl
      · rw [if_neg (show ¬ nI (mwo k oth) = (0 : Int32) from fun z => q ((eq_nI (b := 0) (by omega) (by omega)).mp z)), if_neg q, lt_eq, inc_nI])
    (oth + 1) 0 0 fuel (by omega) rfl (fuel_gt (by omega))
  have hF' : f_X4_findPart_63_l27 fuel (nI p) (nI (cb s 8)) (nI oth) 0 0 J L = f_X4_findPart_63_l27 (m' + 1) (nI p) (nI (cb s 8)) (nI oth) x (nI (oth + 1)) J L := hF
  subst hI
  have o1 := ord_tab (cb s 8) (by omega)
  have e1 : (ordL (nI (cb s 8))).toInt = ((ordL (nI (cb s 8))).toInt.toNat : Nat) := by omega
  have hcd : ∃ G : Int64, f_X4_commonDivisor J L (Sm v ca p oth (cb s 8) (oth + 1)) (ordL (nI (cb s 8))) = some G ∧ G.toInt = (Nat.gcd (ordL (nI (cb s 8))).toInt.toNat z : Nat) := by
    unfold f_X4_commonDivisor
    by_cases hz : z = 0
    · obtain ⟨G, g1, g2⟩ := cgcd (I := J) (L := L) 0 _ z 0 fuel _ _ e1 z1 (by omega) (by omega) (fuel_gt (by omega))
      exact ⟨G, g1, g2⟩
    · have es : f_X4_commonDivisor_l9 J L fuel (ordL (nI (cb s 8))) (Sm v ca p oth (cb s 8) (oth + 1)) 0 = f_X4_commonDivisor_l9 J L 999999 (Sm v ca p oth (cb s 8) (oth + 1)) (ordL (nI (cb s 8)) - ordL (nI (cb s 8)) / Sm v ca p oth (cb s 8) (oth + 1) * Sm v ca p oth (cb s 8) (oth + 1)) (nI 1) := by
        rw [fuel_eq, f_X4_commonDivisor_l9, if_neg (by decide), if_neg (fun y => hz ((z64l _ z1).mp y)), ck_t (nzL_t z1 hz), lt_eq, lt_eq]; rfl
      rw [es, gcd_step]
      have hr := l_mod e1 z1
      have hle := Nat.mod_le (ordL (nI (cb s 8))).toInt.toNat z
      exact cgcd 16 z _ 1 999999 _ _ z1 hr (by omega) (by omega) (by omega)
  obtain ⟨G, g1, g2⟩ := hcd
  have gp : 0 < Nat.gcd (ordL (nI (cb s 8))).toInt.toNat z := Nat.gcd_pos_of_pos_left _ (by omega)
  have ng : ¬ lg_cmp G 0 ≤ 0 := by rw [lgc_le, z64, g2]; omega
  have nz : nzL G = true := nzL_t g2 (by omega)
  refine ⟨J, G, z, ?_, h2, z1, g2⟩
  rw [hF', f_X4_findPart_63_l27, if_pos (by rw [lt_nI (by omega) (by omega)]; omega), ck_nI (by omega) (by omega), g1, Option.bind_some, if_neg ng, ck_t nz]
  unfold f_X4_findPart_63_b131
  rw [lt_eq, if_neg ng, ck_nI (by omega) (by omega), ck_t nz, lt_eq]
/-- the reference's part -/
theorem mpart (hw : WF v) (hm : MH I 68 v) {ca p s : Nat} (hca : ca < v 2) (hp : p < v 0) (hs : s < 2 ^ v 0) (hb : s.testBit p = true) : ∃ (J : mI) (L2 : mL) (G : Int64) (z : Nat), f_X11_layPart_67 I L (nI p) (nI s) (nI ca) = some (1, J, L2) ∧ (∀ k, k ≠ 75 → J k = I k) ∧ (∀ k, k ≠ 67 → L2 k = L k) ∧ L2 67 15 = Sm v ca p (mwo s (2 ^ p)) (cb s 8) (mwo s (2 ^ p) + 1) / G ∧ L2 67 16 = ordL (nI (cb s 8)) / G ∧ (Sm v ca p (mwo s (2 ^ p)) (cb s 8) (mwo s (2 ^ p) + 1)).toInt = z ∧ G.toInt = (Nat.gcd (ordL (nI (cb s 8))).toInt.toNat z : Nat) := by
  have sz := hw.sz
  have p8 : 2 ^ v 0 ≤ 2 ^ 8 := Nat.pow_le_pow_right (by omega) (by omega)
  have c8 := cb_le s 8
  have ol := mwo_le s (2 ^ p)
  have cw := cb_wo hb 8 (by omega)
  rw [if_pos (show p < 8 by omega)] at cw
  obtain ⟨z, z1, z2⟩ := Sm_t (oth := mwo s (2 ^ p)) (mem := cb s 8) hw hca (show p < 8 by omega) (by omega) (mwo s (2 ^ p) + 1) (by omega)
  have hbits : ∀ i, i < 32 → (mwo s (2 ^ p)).testBit i = (s.testBit i && decide (i ≠ p)) := by
    intro i hi
    rw [mwo_bit hi, Nat.testBit_two_pow]
    by_cases e : p = i
    · subst e; simp
    · simp [e, Ne.symm e]
  have hcond : ∀ c, c < 256 → (mwo c (mwo s (2 ^ p)) = 0 ↔ mwo c s = 0 ∧ ¬ c.testBit p = true) := by
    intro c hc
    rw [sub_iff hc, sub_iff hc]
    constructor
    · intro h
      refine ⟨fun i hi => ?_, fun q => ?_⟩
      · have h8 : i < 8 := Nat.lt_of_not_le fun z => by rw [bit_out (n := 8) (show c < 2 ^ 8 by omega) z] at hi; cases hi
        have := h i hi
        rw [hbits i (by omega), Bool.and_eq_true] at this
        exact this.1
      · have := h p q
        rw [hbits p (by omega)] at this
        simp at this
    · intro h i hi
      have h8 : i < 8 := Nat.lt_of_not_le fun z => by rw [bit_out (n := 8) (show c < 2 ^ 8 by omega) z] at hi; cases hi
      have ne : i ≠ p := fun e => h.2 (e ▸ hi)
      rw [hbits i (by omega), h.1 i hi]
      simp [ne]
  have skip : Sm v ca p (mwo s (2 ^ p)) (cb s 8) (s + 1) = Sm v ca p (mwo s (2 ^ p)) (cb s 8) (mwo s (2 ^ p) + 1) := by
    have := Sm_skip (v := v) (ca := ca) (p := p) (oth := mwo s (2 ^ p)) (mem := cb s 8) (by omega) (s - mwo s (2 ^ p)) (by omega)
    rw [show mwo s (2 ^ p) + 1 + (s - mwo s (2 ^ p)) = s + 1 by omega] at this
    exact this
  have q1 : 0 ≤ (nI p).toInt ∧ (nI p).toInt < (v 0 : Int) := by rw [t_nI (by omega)]; omega
  have q2 : 0 ≤ (nI s).toInt ∧ (nI s).toInt < ((2 ^ v 0 : Nat) : Int) := by rw [t_nI (by omega)]; omega
  have q3 : 0 ≤ (nI ca).toInt ∧ (nI ca).toInt < (v 2 : Int) := by rw [t_nI (by omega)]; omega
  unfold f_X11_layPart_67
  rw [isParish_n (hm 0 (by omega)) (by omega), isSet_n (hm 0 (by omega)) (by omega), isCart_n (hm 2 (by omega)) (by omega), bits_eq (by omega)]
  simp only [Option.bind_some, bit_ite]
  rw [if_pos q1, if_pos q2, if_pos q3, if_neg (fun y => by rw [bit0 (by omega) (by omega), hb] at y; cases y), lt_eq, orders_eq (by omega), Option.bind_some, lt_eq]
  obtain ⟨m', st, ⟨i1, i2, i3, i4⟩, hF⟩ := loop_inv (F := fun f k (st : mI × mL) => f_X11_layPart_67_l57 f (nI p) (nI s) (nI ca) (nI (cb s 8)) (nI k) st.1 st.2) (n := s + 1)
    (Inv := fun k st => (∀ k, k ≠ 75 → st.1 k = I k) ∧ (∀ k, k ≠ 67 → st.2 k = L k) ∧ st.2 67 15 = Sm v ca p (mwo s (2 ^ p)) (cb s 8) k ∧ st.2 67 16 = ordL (nI (cb s 8)))
    (fun f k st hk hI => by
      obtain ⟨J, L'⟩ := st
      obtain ⟨i1, i2, i3, i4⟩ := hI
      replace i1 : ∀ k, k ≠ 75 → J k = I k := i1
      replace i2 : ∀ k, k ≠ 67 → L' k = L k := i2
      replace i3 : L' 67 15 = Sm v ca p (mwo s (2 ^ p)) (cb s 8) k := i3
      replace i4 : L' 67 16 = ordL (nI (cb s 8)) := i4
      have hmJ : MH J 68 v := hm.frame (i1 68 (by omega))
      have hl := mwo_le k s
      have hl2 := mwo_le k (mwo s (2 ^ p))
      have ck := cb_le k 8
      have hcd := hcond k (by omega)
      have e : Sm v ca p (mwo s (2 ^ p)) (cb s 8) (k + 1) = if mwo k (mwo s (2 ^ p)) = 0 then Sm v ca p (mwo s (2 ^ p)) (cb s 8) k + ordL (nI (cb k 8)) * ordL (nI (cb s 8 - 1 - cb k 8)) * (df v ca p k).toInt64 else Sm v ca p (mwo s (2 ^ p)) (cb s 8) k := rfl
      show ∃ st' : mI × mL, _ ∧ f_X11_layPart_67_l57 (f + 1) (nI p) (nI s) (nI ca) (nI (cb s 8)) (nI k) J L' = f_X11_layPart_67_l57 f (nI p) (nI s) (nI ca) (nI (cb s 8)) (nI (k + 1)) st'.1 st'.2
      rw [f_X11_layPart_67_l57, if_neg (by rw [lt_nI (by omega) (by omega)]; omega), wo_nI]
      by_cases q : mwo k s = 0
      · rw [q, if_pos (show nI 0 = (0 : Int32) from rfl)]
        by_cases y : k.testBit p = true
        · refine ⟨(J, L'), ⟨i1, i2, ?_, i4⟩, ?_⟩
          · rw [e, if_neg (fun w => (hcd.mp w).2 y)]; exact i3
          · rw [if_neg (fun w => by rw [bit0 (by omega) (by omega), y] at w; cases w), lt_eq, inc_nI]
        · have hz := hcd.mpr ⟨q, y⟩
          have sb := (sub_iff (show k < 256 by omega)).mp hz
          have cm := cb_mono sb 8
          have kp : k ||| 2 ^ p < 256 := or_lt (n := 8) (show k < 2 ^ 8 by omega) (by omega)
          obtain ⟨J2, w1, w2⟩ := mworth (L := L') hw hmJ hca kp
          obtain ⟨J3, x1, x2⟩ := mworth (L := L') hw (hmJ.frame (w2 68 (by omega))) hca (show k < 256 by omega)
          have e1 : nI (cb s 8) - 1 - nI (cb k 8) = nI (cb s 8 - 1 - cb k 8) := by
            obtain ⟨j, ej⟩ : ∃ j, cb s 8 = j + 1 := ⟨cb s 8 - 1, by omega⟩
            rw [ej, nI_pred, Nat.add_sub_cancel]
            apply Int32.toInt_inj.mp
            rw [sub_t (by omega) (by omega), t_nI (by omega)]
            omega
          refine ⟨(J3, uL L' 67 15 (Sm v ca p (mwo s (2 ^ p)) (cb s 8) (k + 1))), ⟨fun k hk => ?_, fun k hk => ?_, ?_, ?_⟩, ?_⟩
          · show J3 k = I k
            rw [x2 k hk, w2 k hk, i1 k hk]
          · exact (uL_cell L' _ hk).trans (i2 k hk)
          · exact uL_same L' 67 15 _
          · exact (uL_ne (k := 67) (j := 15) (a := 67) (b := 16) L' (Sm v ca p (mwo s (2 ^ p)) (cb s 8) (k + 1)) (by omega)).trans i4
          · rw [if_pos (by rw [bit0 (by omega) (by omega)]; simpa using y), bits_eq (by omega), Option.bind_some, orders_eq (by omega), Option.bind_some, e1, orders_eq (by omega), Option.bind_some, shl_nI (by omega), or_nI, w1, bndI_some, x1, bndI_some, lt_eq, lt_eq, inc_nI, i3, e, if_pos hz]
            rfl
      · refine ⟨(J, L'), ⟨i1, i2, ?_, i4⟩, ?_⟩
        · rw [e, if_neg (fun w => q (hcd.mp w).1)]; exact i3
        · rw [if_neg (show ¬ nI (mwo k s) = (0 : Int32) from fun w => q ((eq_nI (b := 0) (by omega) (by omega)).mp w)), lt_eq, inc_nI])
    (s + 1) 0 (I, uL (uL L 67 15 0) 67 16 (ordL (nI (cb s 8)))) fuel (by omega) ⟨fun _ _ => rfl, fun k hk => (uL_cell _ _ hk).trans (uL_cell _ _ hk), (uL_ne (k := 67) (j := 16) (a := 67) (b := 15) (uL L 67 15 0) (ordL (nI (cb s 8))) (by omega)).trans (uL_same L 67 15 0), uL_same (uL L 67 15 0) 67 16 (ordL (nI (cb s 8)))⟩ (fuel_gt (by omega))
  have hF' : f_X11_layPart_67_l57 fuel (nI p) (nI s) (nI ca) (nI (cb s 8)) 0 I (uL (uL L 67 15 0) 67 16 (ordL (nI (cb s 8)))) = f_X11_layPart_67_l57 (m' + 1) (nI p) (nI s) (nI ca) (nI (cb s 8)) (nI (s + 1)) st.1 st.2 := hF
  rw [skip] at i3
  have o1 := ord_tab (cb s 8) (by omega)
  have e1 : (ordL (nI (cb s 8))).toInt = ((ordL (nI (cb s 8))).toInt.toNat : Nat) := by omega
  obtain ⟨G, g1, g2⟩ := mgcd (I := st.1) (L := st.2) 16 z _ fuel _ _ z1 e1 (by omega) (fuel_gt (by omega)) (Or.inr (by omega))
  refine ⟨st.1, uL (uL st.2 67 15 (st.2 67 15 / G)) 67 16 (st.2 67 16 / G), G, z, ?_, i1, fun k hk => ?_, ?_, ?_, z1, by rw [Nat.gcd_comm]; exact g1⟩
  · rw [hF', f_X11_layPart_67_l57, if_pos (by rw [lt_nI (by omega) (by omega)]; omega), i3, i4, if_pos (by rw [lgc_ge, z64, z1]; omega), lt_eq, lt_eq]
    rw [i3, i4] at g2
    exact g2
  · rw [uL_cell _ _ hk, uL_cell _ _ hk, i2 k hk]
  · rw [uL_ne _ _ (by omega), uL_same, i3]
  · rw [uL_same, i4]
theorem member_n {a1 a2 : Int32} (hw : WF v) (hc : CH I 0 v) : f_X10_isMember_0 I L a1 a2 = if 0 ≤ a2.toInt ∧ a2.toInt < ((2 ^ v 0 : Nat) : Int) then (if 0 ≤ a1.toInt ∧ a1.toInt < (v 0 : Int) then (if ((a2 >>> (a1 &&& 31)) &&& 1) = 0 then some 0 else some 1) else some 0) else some 0 := by
  have sz := hw.sz
  unfold f_X10_isMember_0
  rw [hasSet_n hc.c0 (by omega), hasParish_n hc.c0 (by omega)]
  simp only [Option.bind_some, bit_ite]
theorem lay_bad (hw : WF v) (hm : MH I 68 v) {a1 a2 a3 : Int32} (h : ¬ ((0 ≤ a2.toInt ∧ a2.toInt < ((2 ^ v 0 : Nat) : Int)) ∧ (0 ≤ a1.toInt ∧ a1.toInt < (v 0 : Int)) ∧ ¬ ((a2 >>> (a1 &&& 31)) &&& 1) = 0 ∧ (0 ≤ a3.toInt ∧ a3.toInt < (v 2 : Int)))) : f_X11_layPart_67 I L a1 a2 a3 = some (0, I, L) := by
  have sz := hw.sz
  unfold f_X11_layPart_67
  rw [isParish_n (hm 0 (by omega)) (by omega), isSet_n (hm 0 (by omega)) (by omega), isCart_n (hm 2 (by omega)) (by omega)]
  simp only [Option.bind_some, bit_ite]
  by_cases q1 : 0 ≤ a1.toInt ∧ a1.toInt < (v 0 : Int)
  · rw [if_pos q1]
    by_cases q2 : 0 ≤ a2.toInt ∧ a2.toInt < ((2 ^ v 0 : Nat) : Int)
    · rw [if_pos q2]
      by_cases q3 : ((a2 >>> (a1 &&& 31)) &&& 1) = 0
      · rw [if_pos q3]
      · rw [if_neg q3]
        by_cases q4 : 0 ≤ a3.toInt ∧ a3.toInt < (v 2 : Int)
        · exact absurd ⟨q2, q1, q3, q4⟩ h
        · rw [if_neg q4]
    · rw [if_neg q2]
  · rw [if_neg q1]
/-- both parts at once -/
theorem parts {a1 a2 a3 : Int32} (h : Rel I L) : (∃ J2 L2 J3 L3 u w, (f_X10_isMember_0 I L a1 a2 = some 1 ∧ f_X7_hasCart_1 I L a3 = some 1) ∧ f_X4_findPart_63 I L a1 a2 a3 = some (J2, L2) ∧ L2 63 3 = u ∧ L2 63 4 = w ∧ f_X11_layPart_67 J2 L2 a1 a2 a3 = some (1, J3, L3) ∧ L3 67 15 = u ∧ L3 67 16 = w ∧ Rel J3 L3) ∨ ((f_X10_isMember_0 I L a1 a2 = some 0 ∨ (f_X10_isMember_0 I L a1 a2 = some 1 ∧ f_X7_hasCart_1 I L a3 = some 0)) ∧ f_X11_layPart_67 I L a1 a2 a3 = some (0, I, L)) := by
  obtain ⟨⟨v, hw, hm, hc⟩, hr2⟩ := id h
  have sz := hw.sz
  have p8 : 2 ^ v 0 ≤ 2 ^ 8 := Nat.pow_le_pow_right (by omega) (by omega)
  rw [member_n hw hc, hasCart_n hc.c2 (by omega)]
  by_cases q : (0 ≤ a2.toInt ∧ a2.toInt < ((2 ^ v 0 : Nat) : Int)) ∧ (0 ≤ a1.toInt ∧ a1.toInt < (v 0 : Int)) ∧ ¬ ((a2 >>> (a1 &&& 31)) &&& 1) = 0 ∧ (0 ≤ a3.toInt ∧ a3.toInt < (v 2 : Int))
  · left
    obtain ⟨q1, q2, q3, q4⟩ := q
    rw [if_pos q1, if_pos q2, if_neg q3]
    obtain ⟨s, hs, rfl, -⟩ := ofI q1.1 q1.2
    obtain ⟨p, hp, rfl, -⟩ := ofI q2.1 q2.2
    obtain ⟨ca, hca, rfl, -⟩ := ofI q4.1 q4.2
    have hb : s.testBit p = true := by
      rw [bit0 (by omega) (by omega)] at q3
      simpa using q3
    obtain ⟨J, G, z, h1, h2, h3, h4⟩ := cpart (L := L) hw hc hca (show p < 8 by omega) (show s < 256 by omega) hb
    obtain ⟨J3, L3, G', z', m1, m2, m3, m4, m5, m6, m7⟩ := mpart (L := uL (uL L 63 3 (Sm v ca p (mwo s (2 ^ p)) (cb s 8) (mwo s (2 ^ p) + 1) / G)) 63 4 (ordL (nI (cb s 8)) / G)) hw (hm.frame (h2 68 (by omega))) hca hp hs hb
    have ez : z = z' := by rw [h3] at m6; omega
    subst ez
    have eG : G = G' := Int64.toInt_inj.mp (by rw [h4, m7])
    subst eG
    refine ⟨J, _, J3, L3, _, _, ⟨rfl, by unfold bit; rw [if_pos q4]⟩, h1, ?_, ?_, m1, m4, m5, h.scrL (fun k hk => by rw [m2 k (by omega), h2 k (by omega)]) (fun c hc => ?_)⟩
    · rw [uL_ne _ _ (by omega), uL_same]
    · rw [uL_same]
    · rw [m3 c (by omega), uL_cell _ _ (by omega), uL_cell _ _ (by omega)]
  · right
    refine ⟨?_, lay_bad hw hm q⟩
    by_cases q1 : 0 ≤ a2.toInt ∧ a2.toInt < ((2 ^ v 0 : Nat) : Int)
    · rw [if_pos q1]
      by_cases q2 : 0 ≤ a1.toInt ∧ a1.toInt < (v 0 : Int)
      · rw [if_pos q2]
        by_cases q3 : ((a2 >>> (a1 &&& 31)) &&& 1) = 0
        · rw [if_pos q3]; exact Or.inl rfl
        · rw [if_neg q3]
          have q4 : ¬ (0 ≤ a3.toInt ∧ a3.toInt < (v 2 : Int)) := fun y => q ⟨q1, q2, q3, y⟩
          exact Or.inr ⟨rfl, by unfold bit; rw [if_neg q4]⟩
      · rw [if_neg q2]; exact Or.inl rfl
    · rw [if_neg q1]; exact Or.inl rfl
theorem st_upper {a1 a2 a3 : Int32} (h : Rel I L) : St_upper Rel I L a1 a2 a3 := by
  unfold St_upper f_X10_upper_0 f_X11_upper_67
  rcases parts (a1 := a1) (a2 := a2) (a3 := a3) h with ⟨J2, L2, J3, L3, u, w, ⟨h1, h2⟩, h3, h4, h5, h6, h7, h8, h9⟩ | ⟨h1, h2⟩
  · refine ⟨u, J2, L2, J3, L3, ?_, ?_, h9⟩
    · rw [h1, Option.bind_some, if_neg (by decide), h2, Option.bind_some, if_neg (by decide), h3, bndV_some, h4]
    · rw [h6, bndI_some, if_neg (by decide), h7]
  · refine ⟨-1000001, I, L, I, L, ?_, ?_, h⟩
    · rcases h1 with h1 | ⟨h1, h3⟩
      · rw [h1, Option.bind_some, if_pos rfl]
      · rw [h1, Option.bind_some, if_neg (by decide), h3, Option.bind_some, if_pos rfl]
    · rw [h2, bndI_some, if_pos rfl]
theorem st_lower {a1 a2 a3 : Int32} (h : Rel I L) : St_lower Rel I L a1 a2 a3 := by
  unfold St_lower f_X10_lower_0 f_X11_lower_67
  rcases parts (a1 := a1) (a2 := a2) (a3 := a3) h with ⟨J2, L2, J3, L3, u, w, ⟨h1, h2⟩, h3, h4, h5, h6, h7, h8, h9⟩ | ⟨h1, h2⟩
  · refine ⟨w, J2, L2, J3, L3, ?_, ?_, h9⟩
    · rw [h1, Option.bind_some, if_neg (by decide), h2, Option.bind_some, if_neg (by decide), h3, bndV_some, h5]
    · rw [h6, bndI_some, if_neg (by decide), h8]
  · refine ⟨-1, I, L, I, L, ?_, ?_, h⟩
    · rcases h1 with h1 | ⟨h1, h3⟩
      · rw [h1, Option.bind_some, if_pos rfl]
      · rw [h1, Option.bind_some, if_neg (by decide), h3, Option.bind_some, if_pos rfl]
    · rw [h2, bndI_some, if_pos rfl]
end Part
