/-! the class's scales -/
/-- a set by what is in it -/
def MS (m : Nat) (P : Nat → Prop) : Prop := m < 256 ∧ ∀ y, m.testBit y = true ↔ P y
theorem MS.keep {m k : Nat} {P : Nat → Prop} (h : MS m (fun y => y < k ∧ P y)) (hk : ¬ P k) : MS m (fun y => y < k + 1 ∧ P y) := by
  refine ⟨h.1, fun y => ?_⟩
  rw [h.2 y]
  constructor
  · intro z; exact ⟨by omega, z.2⟩
  · intro z
    have : y ≠ k := fun e => hk (e ▸ z.2)
    exact ⟨by omega, z.2⟩
theorem MS.add {m k : Nat} {P : Nat → Prop} (h : MS m (fun y => y < k ∧ P y)) (hk : P k) (h8 : k < 8) : MS (m ||| 2 ^ k) (fun y => y < k + 1 ∧ P y) := by
  refine ⟨or_lt (n := 8) h.1 h8, fun y => ?_⟩
  rw [or_bit, Bool.or_eq_true, decide_eq_true_eq, h.2 y]
  constructor
  · rintro (z | z)
    · exact ⟨by omega, z.2⟩
    · subst z; exact ⟨by omega, hk⟩
  · intro z
    by_cases e : k = y
    · exact Or.inr e
    · exact Or.inl ⟨by omega, z.2⟩
theorem MS.zero {P : Nat → Prop} : MS 0 (fun y => y < 0 ∧ P y) := by
  refine ⟨by omega, fun y => ?_⟩
  rw [Nat.zero_testBit]
  exact ⟨fun z => (by cases z), fun z => absurd z.1 (by omega)⟩
section Law
variable {I J : mI} {L : mL} {v : mV}
abbrev lead (v : mV) (ca g a y : Nat) : Prop := a ≠ y ∧ DD v ca (v (99 + g)) 0 a y < 100000000
/-- a gain between what it is there (x) and there (z) -/
abbrev gain (v : mV) (ca g a y x z : Nat) : Prop := lead v ca g a y ∧ x + DD v ca (v (99 + g)) 0 a y < z
abbrev vl (v : mV) (g p : Nat) : Nat := v (105 + g) * wV v p (v (99 + g))
abbrev sc (v : mV) (g : Nat) : Nat := v (105 + g) * (5 * v (99 + g))
/-- gains of one row -/
def GR (J : mI) (v : mV) (ca g a k : Nat) : Prop := ∃ m1 m2 m3, J 57 a = nI m1 ∧ J 58 a = nI m2 ∧ J 59 a = nI m3 ∧ MS m1 (fun y => y < k ∧ gain v ca g a y (vl v g a) (vl v g y)) ∧ MS m2 (fun y => y < k ∧ gain v ca g a y (vl v g a) (sc v g)) ∧ MS m3 (fun y => y < k ∧ gain v ca g a y (sc v g) (vl v g y))
theorem GR.frame {ca g a k : Nat} (h : GR I v ca g a k) (h1 : J 57 a = I 57 a) (h2 : J 58 a = I 58 a) (h3 : J 59 a = I 59 a) : GR J v ca g a k := by
  obtain ⟨m1, m2, m3, e1, e2, e3, e4⟩ := h
  exact ⟨m1, m2, m3, by rw [h1]; exact e1, by rw [h2]; exact e2, by rw [h3]; exact e3, e4⟩
theorem FV.frame {ca g : Nat} (h : FV I v ca g) (hf : ∀ k, k < 57 ∨ 59 < k → J k = I k) : FV J v ca g := ⟨h.1.frame (fun j _ => by rw [hf 48 (by omega)]) (hf 49 (by omega)), fun a b ha hb => by rw [hf 50 (by omega)]; exact h.2.1 a b ha hb, fun a ha => by rw [hf 56 (by omega)]; exact h.2.2 a ha⟩
theorem ms_if {m k : Nat} {P : Nat → Prop} [Decidable (P k)] (h : MS m (fun y => y < k ∧ P y)) (h8 : k < 8) : ∃ m', nI m ||| (if P k then nI (2 ^ k) else nI 0) = nI m' ∧ MS m' (fun y => y < k + 1 ∧ P y) := by
  by_cases q : P k
  · exact ⟨m ||| 2 ^ k, by rw [if_pos q, or_nI], h.add q h8⟩
  · exact ⟨m, by rw [if_neg q, orz], h.keep q⟩
theorem sub_le3 {a b c : Nat} (ha : a < 2147483648) (hb : b < 2147483648) (hc : c < 2147483648) : (nI a - nI b ≤ nI c) ↔ ¬ b + c < a := by
  rw [Int32.le_iff_toInt_le, sub_t ha hb, t_nI hc]; omega
theorem vl_le (hw : WF v) {g p : Nat} (hg : g < v 3) (hp : p < v 0) : vl v g p ≤ 8910 ∧ sc v g ≤ 8910 := by
  have gb := hw.goodb g hg
  have h2 := wV_le hw hp (m := v (99 + g))
  have h3 : v (105 + g) * wV v p (v (99 + g)) ≤ 9 * 990 := Nat.mul_le_mul gb.2.1.2 (by omega)
  have h4 : v (105 + g) * (5 * v (99 + g)) ≤ 9 * 495 := Nat.mul_le_mul gb.2.1.2 (by omega)
  exact ⟨h3, by show v (105 + g) * (5 * v (99 + g)) ≤ 8910; omega⟩
theorem gains_b (hw : WF v) {ca g a : Nat} (hca : ca < v 2) (hg : g < v 3) (ha : a < v 0) (k2 : Int32 → Int32 → mI → mL → rV) (h : FV I v ca g) (h0 : GR I v ca g a 0) : ∃ J, f_X9_findGains_55_l36 k2 fuel (nI (sc v g)) (nI a) 0 I L = k2 (nI (sc v g)) (nI (a + 1)) J L ∧ (∀ k, k < 57 ∨ 59 < k → J k = I k) ∧ (∀ k x, 57 ≤ k → k ≤ 59 → x ≠ a → J k x = I k x) ∧ GR J v ca g a (v 0) := by
  have sz := hw.sz
  have gb := hw.goodb g hg
  obtain ⟨m', J, ⟨i1, i2, i3⟩, hF⟩ := loop_inv (F := fun f k (J : mI) => f_X9_findGains_55_l36 k2 f (nI (sc v g)) (nI a) (nI k) J L) (n := v 0)
    (Inv := fun k J => (∀ k, k < 57 ∨ 59 < k → J k = I k) ∧ (∀ k x, 57 ≤ k → k ≤ 59 → x ≠ a → J k x = I k x) ∧ GR J v ca g a k)
    (fun f k J hk hI => by
      obtain ⟨i1, i2, m1, m2, m3, e1, e2, e3, s1, s2, s3⟩ := hI
      have hJ : FV J v ca g := h.frame i1
      have dl := DD_le hw hca gb.1.2 (show 0 < 256 by omega) ha hk
      have v1 := vl_le hw hg ha
      have v2 := vl_le hw hg hk
      show ∃ J', _ ∧ f_X9_findGains_55_l36 k2 (f + 1) (nI (sc v g)) (nI a) (nI k) J L = f_X9_findGains_55_l36 k2 f (nI (sc v g)) (nI a) (nI (k + 1)) J' L
      rw [f_X9_findGains_55_l36, hJ.1.1, if_neg (by rw [le_nI (by omega) (by omega)]; omega), leads_eq hw hca hg hJ ha hk, Option.bind_some]
      by_cases c : lead v ca g a k
      · have ec : cF (DD v ca (v (99 + g)) 0 a k) = DD v ca (v (99 + g)) 0 a k := by unfold cF; rw [if_pos c.2]
        obtain ⟨n1, f1, t1⟩ := ms_if s1 (by omega)
        obtain ⟨n2, f2, t2⟩ := ms_if s2 (by omega)
        obtain ⟨n3, f3, t3⟩ := ms_if s3 (by omega)
        refine ⟨uI (uI (uI J 57 a (nI n1)) 58 a (nI n2)) 59 a (nI n3), ⟨fun k hk => by rw [uI_cell (by omega), uI_cell (by omega), uI_cell (by omega)]; exact i1 k hk, fun k x h1 h2 h3 => by rw [uI_at, if_neg (fun z => h3 z.2), uI_at, if_neg (fun z => h3 z.2), uI_at, if_neg (fun z => h3 z.2)]; exact i2 k x h1 h2 h3, n1, n2, n3, by rw [uI_cell (by omega), uI_cell (by omega), uI_same], by rw [uI_cell (by omega), uI_same], by rw [uI_same], t1, t2, t3⟩, ?_⟩
        rw [if_pos c, if_neg (by decide), show nI a * 8 = nI (a * 8) from n_mul a 8, n_add, ck_nI (by omega) (by omega), c_nI (by omega), lt_eq, ck_nI (by omega) (by omega), ck_nI (by omega) (by omega), ck_nI (by omega) (by omega), c_nI (by omega), c_nI (by omega), hJ.2.1 a k ha hk, ec, hJ.2.2 a ha, hJ.2.2 k hk, e1, shl_nI (by omega)]
        have b107 : ∀ s0, f_X9_findGains_55_b107 J L k2 (f_X9_findGains_55_l36 k2 f) (nI (sc v g)) (nI a) (nI k) (nI (DD v ca (v (99 + g)) 0 a k)) s0 (nI m1) (nI a) = f_X9_findGains_55_l36 k2 f (nI (sc v g)) (nI a) (nI (k + 1)) (uI (uI (uI J 57 a (nI m1 ||| s0)) 58 a (nI n2)) 59 a (nI n3)) L := by
          intro s0
          have b136 : ∀ (J' : mI) (s0' : Int32), J' 56 = J 56 → J' 59 a = J 59 a → f_X9_findGains_55_b136 J' L k2 (f_X9_findGains_55_l36 k2 f) (nI (sc v g)) (nI a) (nI k) (nI (DD v ca (v (99 + g)) 0 a k)) s0' (nI m2) (nI a) = f_X9_findGains_55_l36 k2 f (nI (sc v g)) (nI a) (nI (k + 1)) (uI (uI J' 58 a (nI m2 ||| s0')) 59 a (nI n3)) L := by
            intro J' s0' h56 h59
            unfold f_X9_findGains_55_b136
            rw [ck_nI (by omega) (by omega), lt_eq, c_nI (by omega), ck_nI (by omega) (by omega), ck_nI (by omega) (by omega), ck_nI (by omega) (by omega), ck_nI (by omega) (by omega), c_nI (by omega), uI_cell (by omega), h56, hJ.2.2 k hk, uI_cell (by omega), h59, e3, shl_nI (by omega)]
            simp only [lt_eq, inc_nI]
            by_cases q : gain v ca g a k (sc v g) (vl v g k)
            · rw [if_neg (fun z => (sub_le3 (by omega) (by omega) (by omega)).mp z q.2), ← f3, if_pos q]
            · rw [if_pos ((sub_le3 (by omega) (by omega) (by omega)).mpr (fun z => q ⟨c, z⟩)), ← f3, if_neg q]; rfl
          unfold f_X9_findGains_55_b107
          rw [ck_nI (by omega) (by omega), lt_eq, c_nI (by omega), ck_nI (by omega) (by omega), ck_nI (by omega) (by omega), uI_cell (by omega), hJ.2.2 a ha, uI_cell (by omega), e2, shl_nI (by omega), b136 _ _ (uI_cell (by omega)) (by rw [uI_cell (by omega)]), b136 _ _ (uI_cell (by omega)) (by rw [uI_cell (by omega)])]
          by_cases q : gain v ca g a k (vl v g a) (sc v g)
          · rw [if_neg (fun z => (sub_le3 (by omega) (by omega) (by omega)).mp z q.2), ← f2, if_pos q]
          · rw [if_pos ((sub_le3 (by omega) (by omega) (by omega)).mpr (fun z => q ⟨c, z⟩)), ← f2, if_neg q]; rfl
        rw [b107, b107]
        by_cases q : gain v ca g a k (vl v g a) (vl v g k)
        · rw [if_neg (fun z => (sub_le3 (by omega) (by omega) (by omega)).mp z q.2), ← f1, if_pos q]
        · rw [if_pos ((sub_le3 (by omega) (by omega) (by omega)).mpr (fun z => q ⟨c, z⟩)), ← f1, if_neg q]; rfl
      · refine ⟨J, ⟨i1, i2, m1, m2, m3, e1, e2, e3, s1.keep (fun z => c z.1), s2.keep (fun z => c z.1), s3.keep (fun z => c z.1)⟩, ?_⟩
        rw [if_neg c, if_pos rfl, lt_eq, inc_nI])
    (v 0) 0 I fuel (by omega) ⟨fun _ _ => rfl, fun _ _ _ _ _ => rfl, h0⟩ (fuel_gt (by omega))
  have hF' : f_X9_findGains_55_l36 k2 fuel (nI (sc v g)) (nI a) 0 I L = f_X9_findGains_55_l36 k2 (m' + 1) (nI (sc v g)) (nI a) (nI (v 0)) J L := hF
  refine ⟨J, ?_, i1, i2, i3⟩
  rw [hF', f_X9_findGains_55_l36, i1 48 (by omega), h.1.1, if_pos (by rw [le_nI (by omega) (by omega)]; omega), lt_eq, inc_nI]
theorem gains_eq (hw : WF v) {ca g : Nat} (hca : ca < v 2) (hg : g < v 3) (h : FV I v ca g) : ∃ J, f_X9_findGains_55 I L (nI (sc v g)) = some (J, L) ∧ (∀ k, k < 57 ∨ 59 < k → J k = I k) ∧ ∀ a, a < v 0 → GR J v ca g a (v 0) := by
  have sz := hw.sz
  unfold f_X9_findGains_55
  obtain ⟨m', J, ⟨i1, i2⟩, hF⟩ := loop_inv (F := fun f k (J : mI) => f_X9_findGains_55_l2 f (nI (sc v g)) (nI k) J L) (n := v 0)
    (Inv := fun k J => (∀ k, k < 57 ∨ 59 < k → J k = I k) ∧ ∀ a, a < k → GR J v ca g a (v 0))
    (fun f k J hk hI => by
      obtain ⟨i1, i2⟩ := hI
      have f0 : ∀ c, c < 57 ∨ 59 < c → uI (uI (uI J 57 k 0) 58 k 0) 59 k 0 c = I c := fun c hc => by rw [uI_cell (by omega), uI_cell (by omega), uI_cell (by omega)]; exact i1 c hc
      obtain ⟨J2, j1, j2, j3, j4⟩ := gains_b (L := L) hw hca hg hk (f_X9_findGains_55_l2 f) (h.frame f0) ⟨0, 0, 0, by rw [uI_cell (by omega), uI_cell (by omega), uI_same]; rfl, by rw [uI_cell (by omega), uI_same]; rfl, by rw [uI_same]; rfl, MS.zero, MS.zero, MS.zero⟩
      refine ⟨J2, ⟨fun c hc => by rw [j2 c hc, f0 c hc], fun a ha => ?_⟩, ?_⟩
      · by_cases e : a = k
        · subst e; exact j4
        · refine (i2 a (by omega)).frame ?_ ?_ ?_
          · rw [j3 57 a (by omega) (by omega) e, uI_cell (by omega), uI_cell (by omega), uI_at, if_neg (fun z => e z.2)]
          · rw [j3 58 a (by omega) (by omega) e, uI_cell (by omega), uI_at, if_neg (fun z => e z.2), uI_cell (by omega)]
          · rw [j3 59 a (by omega) (by omega) e, uI_at, if_neg (fun z => e z.2), uI_cell (by omega), uI_cell (by omega)]
      · show f_X9_findGains_55_l2 (f + 1) (nI (sc v g)) (nI k) J L = _
        rw [f_X9_findGains_55_l2, i1 48 (by omega), h.1.1, if_neg (by rw [le_nI (by omega) (by omega)]; omega), ck_nI (by omega) (by omega), lt_eq, ck_nI (by omega) (by omega), lt_eq, ck_nI (by omega) (by omega), lt_eq, c_nI (by omega)]
        exact j1)
    (v 0) 0 I fuel (by omega) ⟨fun _ _ => rfl, fun a ha => absurd ha (by omega)⟩ (fuel_gt (by omega))
  have hF' : f_X9_findGains_55_l2 fuel (nI (sc v g)) 0 I L = f_X9_findGains_55_l2 (m' + 1) (nI (sc v g)) (nI (v 0)) J L := hF
  refine ⟨J, ?_, i1, i2⟩
  rw [hF', f_X9_findGains_55_l2, i1 48 (by omega), h.1.1, if_pos (by rw [le_nI (by omega) (by omega)]; omega)]
/-- one row ends -/
theorem row_end (hw : WF v) {ca g a set : Nat} (ha : a < v 0) {m1 m2 m3 : Nat} (s1 : MS m1 (fun y => y < v 0 ∧ gain v ca g a y (vl v g a) (vl v g y))) (s2 : MS m2 (fun y => y < v 0 ∧ gain v ca g a y (vl v g a) (sc v g))) (s3 : MS m3 (fun y => y < v 0 ∧ gain v ca g a y (sc v g) (vl v g y))) : (if set.testBit a = true then mwo m3 set else mwo m1 set ||| (m2 &&& set)) = 0 ↔ ∀ b, b < v 0 → QE v ca g set a b := by
  have sz := hw.sz
  have l1 := Nat.lt_of_le_of_lt (mwo_le m1 set) s1.1
  have l3 := Nat.lt_of_le_of_lt (mwo_le m3 set) s3.1
  have l2 : m2 &&& set < 256 := Nat.lt_of_le_of_lt Nat.and_le_left s2.1
  have qe : ∀ b, QE v ca g set a b ↔ (DD v ca (v (99 + g)) 0 a b < 100000000 → (if set.testBit b = true then sc v g else vl v g b) ≤ (if set.testBit a = true then sc v g else vl v g a) + DD v ca (v (99 + g)) 0 a b) := by
    intro b
    have e : ∀ p, pd v g set p = if set.testBit p = true then sc v g else vl v g p := by
      intro p; unfold pd; split <;> rfl
    unfold QE
    rw [e, e]
  by_cases q : set.testBit a = true
  · rw [if_pos q, mask0 l3]
    constructor
    · intro h b hb
      rw [qe b, if_pos q]
      intro hd
      by_cases z : set.testBit b = true
      · rw [if_pos z]; omega
      · rw [if_neg z]
        have := h b (by omega)
        rw [mwo_bit (by omega)] at this
        have n3 : ¬ m3.testBit b = true := fun y => this (by rw [y]; simpa using z)
        rw [s3.2 b] at n3
        have ne : a ≠ b := fun e => z (e ▸ q)
        apply Nat.le_of_not_lt
        intro y
        exact n3 ⟨hb, ⟨ne, hd⟩, y⟩
    · intro h i hi y
      rw [mwo_bit (by omega), Bool.and_eq_true] at y
      have z : ¬ set.testBit i = true := by have := y.2; simpa using this
      have w := (s3.2 i).mp y.1
      have := (qe i).mp (h i w.1) w.2.1.2
      rw [if_pos q, if_neg z] at this
      have := w.2.2
      omega
  · rw [if_neg q, mask0 (Nat.or_lt_two_pow (n := 8) l1 l2)]
    constructor
    · intro h b hb
      rw [qe b, if_neg q]
      intro hd
      have h' := h b (by omega)
      rw [Nat.testBit_or, mwo_bit (by omega), Nat.testBit_and] at h'
      by_cases z : set.testBit b = true
      · rw [if_pos z]
        have n2 : ¬ m2.testBit b = true := fun y => h' (by rw [y, z]; simp)
        rw [s2.2 b] at n2
        have ne : a ≠ b := fun e => q (e ▸ z)
        apply Nat.le_of_not_lt
        intro y
        exact n2 ⟨hb, ⟨ne, hd⟩, y⟩
      · rw [if_neg z]
        have n1 : ¬ m1.testBit b = true := fun y => h' (by rw [y]; simp; exact Or.inl (by simpa using z))
        rw [s1.2 b] at n1
        by_cases e : a = b
        · subst e; omega
        · apply Nat.le_of_not_lt
          intro y
          exact n1 ⟨hb, ⟨e, hd⟩, y⟩
    · intro h i hi y
      rw [Nat.testBit_or, mwo_bit (by omega), Nat.testBit_and, Bool.or_eq_true, Bool.and_eq_true, Bool.and_eq_true] at y
      rcases y with y | y
      · have z : ¬ set.testBit i = true := by have := y.2; simpa using this
        have w := (s1.2 i).mp y.1
        have := (qe i).mp (h i w.1) w.2.1.2
        rw [if_neg q, if_neg z] at this
        have := w.2.2
        omega
      · have w := (s2.2 i).mp y.1
        have := (qe i).mp (h i w.1) w.2.1.2
        rw [if_neg q, if_pos y.2] at this
        have := w.2.2
        omega
theorem ends_eq (hw : WF v) {ca g set : Nat} (hs : set < 256) (h8 : I 48 8 = nI (v 0)) (h : ∀ a, a < v 0 → GR I v ca g a (v 0)) : ∃ y, f_X9_endsGains_55 I L (nI set) = some y ∧ ((y = 1 ∧ EndP v ca g set) ∨ (y = 0 ∧ ¬ EndP v ca g set)) := by
  have sz := hw.sz
  unfold f_X9_endsGains_55
  have key : ∀ (d k f : Nat), k + d = v 0 → d < f → (∀ a, a < k → ∀ b, b < v 0 → QE v ca g set a b) → ∃ y, f_X9_endsGains_55_l2 I L f (nI set) (nI k) = some y ∧ ((y = 1 ∧ EndP v ca g set) ∨ (y = 0 ∧ ¬ EndP v ca g set)) := by
    intro d
    induction d with
    | zero =>
      intro k f hk hf hq
      obtain ⟨f, rfl⟩ : ∃ j, f = j + 1 := ⟨f - 1, by omega⟩
      refine ⟨1, ?_, Or.inl ⟨rfl, fun a b ha hb => hq a (by omega) b hb⟩⟩
      rw [f_X9_endsGains_55_l2, h8, if_pos (by rw [le_nI (by omega) (by omega)]; omega)]
    | succ d ih =>
      intro k f hk hf hq
      obtain ⟨f, rfl⟩ : ∃ j, f = j + 1 := ⟨f - 1, by omega⟩
      have hkn : k < v 0 := by omega
      obtain ⟨m1, m2, m3, e1, e2, e3, s1, s2, s3⟩ := h k hkn
      have re := row_end (set := set) hw hkn s1 s2 s3
      have l1 := Nat.lt_of_le_of_lt (mwo_le m1 set) s1.1
      have l3 := Nat.lt_of_le_of_lt (mwo_le m3 set) s3.1
      have l2 : m2 &&& set < 256 := Nat.lt_of_le_of_lt Nat.and_le_left s2.1
      have l4 : mwo m1 set ||| (m2 &&& set) < 256 := Nat.or_lt_two_pow (n := 8) l1 l2
      have eF : f_X9_endsGains_55_l2 I L (f + 1) (nI set) (nI k) = f_X9_endsGains_55_b53 I L (f_X9_endsGains_55_l2 I L f) (nI set) (nI k) (nI (if set.testBit k = true then mwo m3 set else mwo m1 set ||| (m2 &&& set))) := by
        rw [f_X9_endsGains_55_l2, h8, if_neg (by rw [le_nI (by omega) (by omega)]; omega), ck_nI (by omega) (by omega), ck_nI (by omega) (by omega), ck_nI (by omega) (by omega), c_nI (by omega), e1, e2, e3, wo_nI, wo_nI, and_nI, or_nI]
        by_cases q : set.testBit k = true
        · rw [if_pos q, if_neg (fun z => by rw [bit0 (by omega) (by omega), q] at z; cases z)]
        · rw [if_neg q, if_pos (by rw [bit0 (by omega) (by omega)]; simpa using q)]
      rw [eF]
      unfold f_X9_endsGains_55_b53
      by_cases z : (if set.testBit k = true then mwo m3 set else mwo m1 set ||| (m2 &&& set)) = 0
      · rw [z, if_pos (show nI 0 = (0 : Int32) from rfl), lt_eq, inc_nI]
        refine ih (k + 1) f (by omega) (by omega) (fun a ha b hb => ?_)
        by_cases e : a = k
        · subst e; exact re.mp z b hb
        · exact hq a (by omega) b hb
      · rw [if_neg (show ¬ nI (if set.testBit k = true then mwo m3 set else mwo m1 set ||| (m2 &&& set)) = (0 : Int32) from fun y => z ((eq_nI (b := 0) (by split <;> omega) (by omega)).mp y))]
        exact ⟨0, rfl, Or.inr ⟨rfl, fun w => z (re.mpr (fun b hb => w k b hkn hb))⟩⟩
  exact key (v 0) 0 fuel (by omega) (fuel_gt (by omega)) (fun a ha => absurd ha (by omega))
theorem claw (hw : WF v) (hc : CH I 0 v) {ca g : Nat} (hca : ca < v 2) (hg : g < v 3) : ∃ J b, f_X9_law_55 I L (nI g) (nI ca) = some (nI b, J, L) ∧ (∀ k, k < 48 ∨ 66 < k → J k = I k) ∧ IsB (EndP v ca g) (2 ^ v 0) b := by
  have sz := hw.sz
  have gb := hw.goodb g hg
  have p8 : 2 ^ v 0 ≤ 2 ^ 8 := Nat.pow_le_pow_right (by omega) (by omega)
  have p0 : 0 < 2 ^ v 0 := Nat.two_pow_pos (v 0)
  obtain ⟨J0, h1, h2, h3⟩ := findValues_eq (L := L) hw hc hca hg
  have hc0 : CH J0 0 v := hc.frame (fun k a b => h2 k (by omega))
  obtain ⟨J1, g1, g2, g3⟩ := gains_eq (L := L) hw hca hg h3
  have e8 : J1 48 8 = nI (v 0) := by rw [g2 48 (by omega)]; exact h3.1.1
  unfold f_X9_law_55
  rw [h1, bndV_some, ck_nI (by omega) (by omega), ck_nI (by omega) (by omega), c_nI (by omega), hc0.rprice hw g hg, hc0.rmass hw g hg, show (5 : Int32) = nI 5 from rfl, n_mul, n_mul, Nat.mul_assoc]
  show ∃ J b, bndV (f_X9_findGains_55 J0 L (nI (sc v g))) _ = _ ∧ _
  rw [g1, bndV_some, e8, shl_nI (by omega)]
  have ea : nI (2 ^ v 0) - 1 = nI (2 ^ v 0 - 1) := by
    obtain ⟨j, ej⟩ : ∃ j, 2 ^ v 0 = j + 1 := ⟨2 ^ v 0 - 1, by omega⟩
    rw [ej, nI_pred, Nat.add_sub_cancel]
  rw [ea, lt_eq]
  obtain ⟨m', x, hI, hF⟩ := loop_inv (F := fun f k (x : Nat) => f_X9_law_55_l49 f (nI (2 ^ v 0 - 1)) (nI x) (nI k) J1 L) (n := 2 ^ v 0 - 1)
    (Inv := fun k x => (x = 2 ^ v 0 - 1 ∧ ∀ s, s < k → ¬ EndP v ca g s) ∨ IsB (EndP v ca g) k x)
    (fun f k x hk hI => by
      obtain ⟨y, e1, e2⟩ := ends_eq (L := L) hw (show k < 256 by omega) e8 g3
      have hx : x < 256 := by
        rcases hI with h | h
        · omega
        · have := h.1; omega
      have c1 := cb_le k 8
      have c2 := cb_le x 8
      show ∃ x', _ ∧ f_X9_law_55_l49 (f + 1) (nI (2 ^ v 0 - 1)) (nI x) (nI k) J1 L = f_X9_law_55_l49 f (nI (2 ^ v 0 - 1)) (nI x') (nI (k + 1)) J1 L
      rw [f_X9_law_55_l49, if_neg (by rw [le_nI (by omega) (by omega)]; omega), bc_eq (by omega), bc_eq hx, Option.bind_some, Option.bind_some, e1, Option.bind_some]
      simp only [lt_eq, inc_nI]
      rcases hI with ⟨rfl, h1⟩ | h1
      · have := all_tab (v 0) (by omega) k hk
        rw [if_neg (by rw [le_nI (by omega) (by omega)]; omega)]
        rcases e2 with ⟨rfl, h2⟩ | ⟨rfl, h2⟩
        · exact ⟨k, Or.inr (IsB.none h1 h2), by rw [if_neg (by decide)]⟩
        · refine ⟨2 ^ v 0 - 1, Or.inl ⟨rfl, fun s hs => ?_⟩, by rw [if_pos rfl]⟩
          by_cases z : s = k
          · subst z; exact h2
          · exact h1 s (by omega)
      · by_cases q : cb x 8 ≤ cb k 8
        · exact ⟨x, Or.inr (h1.keep (Or.inl q)), by rw [if_pos (by rw [le_nI (by omega) (by omega)]; exact q)]⟩
        · rw [if_neg (by rw [le_nI (by omega) (by omega)]; exact q)]
          rcases e2 with ⟨rfl, h2⟩ | ⟨rfl, h2⟩
          · exact ⟨k, Or.inr (h1.less (by omega) h2), by rw [if_neg (by decide)]⟩
          · exact ⟨x, Or.inr (h1.keep (Or.inr h2)), by rw [if_pos rfl]⟩)
    (2 ^ v 0 - 1) 0 (2 ^ v 0 - 1) fuel (by omega) (Or.inl ⟨rfl, fun s hs => absurd hs (by omega)⟩) (fuel_gt (by omega))
  have hF' : f_X9_law_55_l49 fuel (nI (2 ^ v 0 - 1)) (nI (2 ^ v 0 - 1)) 0 J1 L = f_X9_law_55_l49 (m' + 1) (nI (2 ^ v 0 - 1)) (nI x) (nI (2 ^ v 0 - 1)) J1 L := hF
  refine ⟨J1, x, ?_, fun k hk => by rw [g2 k (by omega), h2 k hk], ?_⟩
  · rw [hF', f_X9_law_55_l49, if_pos (by rw [le_nI (by omega) (by omega)]; omega)]
  · have e : 2 ^ v 0 = (2 ^ v 0 - 1) + 1 := by omega
    rw [e]
    rcases hI with ⟨rfl, h⟩ | h
    · exact IsB.none h end_all
    · exact h.keep (Or.inl (Nat.le_of_lt (all_tab (v 0) (by omega) x h.1)))
theorem st_scales {a1 a2 : Int32} (h : Rel I L) : St_scales Rel I L a1 a2 := by
  obtain ⟨⟨v, hw, hm, hc⟩, hr2⟩ := id h
  have sz := hw.sz
  unfold St_scales f_X10_scales_0
  rw [hasGood_n hc.c3 (by omega), hasCart_n hc.c2 (by omega)]
  have hM : ∀ J : mI, MH J 68 v → f_X11_scales_67 J L a1 a2 = if 0 ≤ a1.toInt ∧ a1.toInt < (v 3 : Int) then (if 0 ≤ a2.toInt ∧ a2.toInt < (v 2 : Int) then (ck (inb (99 + a1) 135) (bndV (f_X11_layWays_67 J L a2 (J 68 (99 + a1).toNatClampNeg) 0) (fun Ir3 Lr3 => f_X11_scales_67_l39 fuel a1 (-4) 0 Ir3 Lr3))) else some (-1, J, L)) else some (-1, J, L) := by
    intro J hJ
    unfold f_X11_scales_67
    rw [isGood_n (hJ 3 (by omega)) (by omega), isCart_n (hJ 2 (by omega)) (by omega)]
    simp only [Option.bind_some, bit_ite]
  simp only [Option.bind_some, bit_ite]
  by_cases q1 : 0 ≤ a1.toInt ∧ a1.toInt < (v 3 : Int)
  · by_cases q2 : 0 ≤ a2.toInt ∧ a2.toInt < (v 2 : Int)
    · rw [if_pos q1, if_pos q2]
      obtain ⟨g, hg, rfl, -⟩ := ofI q1.1 q1.2
      obtain ⟨ca, hca, rfl, -⟩ := ofI q2.1 q2.2
      have gb := hw.goodb g hg
      obtain ⟨J1, b, h1, h2, h3⟩ := claw (L := L) hw hc hca hg
      have hm1 : MH J1 68 v := hm.frame (h2 68 (by omega))
      obtain ⟨J2, m1, m2, m3⟩ := layWays_dd (L := L) (lg := 0) hw hm1 hca gb.1.2 (by omega)
      have hm2 : MH J2 68 v := hm1.frame (m2 68 (by omega))
      obtain ⟨b', s1, s2⟩ := mscales (L := L) hw hm2 hca hg m3
      have := h3.uniq s2
      subst this
      refine ⟨nI b, J1, L, J2, L, by rw [h1, bndI_some], ?_, h.scr (fun k hk => by rw [m2 k (by omega), h2 k (by omega)])⟩
      rw [hM J1 hm1, if_pos q1, if_pos q2, show (99 : Int32) + nI g = nI (99 + g) from n_add 99 g, ck_nI (by omega) (by omega), c_nI (by omega), hm1.n _ (by omega)]
      show bndV (f_X11_layWays_67 J1 L (nI ca) (nI (v (99 + g))) (nI 0)) _ = _
      rw [m1, bndV_some, s1]
    · rw [if_pos q1, if_neg q2]
      exact ⟨-1, I, L, I, L, rfl, by rw [hM I hm, if_pos q1, if_neg q2], h⟩
  · rw [if_neg q1]
    exact ⟨-1, I, L, I, L, rfl, by rw [hM I hm, if_neg q1], h⟩
end Law
