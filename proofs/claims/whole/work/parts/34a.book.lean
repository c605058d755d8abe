/-! book -/
theorem bc_tab10 : ∀ m, m < 1024 → f_J6_bitCount_0f7a4 (fun _ _ => 0) (fun _ _ => 0) (nI m) = some (nI (cb m 10)) := by decide +kernel
theorem bc_eq10 {I : mI} {L : mL} {m : Nat} (hm : m < 1024) : f_J6_bitCount_0f7a4 I L (nI m) = some (nI (cb m 10)) := bc_tab10 m hm
theorem low_tab10 : ∀ m, m < 1024 → m ≠ 0 → m &&& (m - 1) < 1024 ∧ cb (m &&& (m - 1)) 10 + 1 = cb m 10 := by decide +kernel
theorem cb0_tab10 : ∀ m, m < 1024 → cb m 10 = 0 → m = 0 := by decide +kernel
theorem bits_eq10 {I : mI} {L : mL} {m : Nat} (hm : m < 1024) : f_X11_bits I L (nI m) = some (nI (cb m 10)) := by
  have key : ∀ (t m c f : Nat), m < 1024 → cb m 10 = t → t < f → f_X11_bits_l4 I L f (nI c) (nI m) = some (nI (c + t)) := by
    intro t
    induction t with
    | zero =>
      intro m c f hm ht hf
      obtain ⟨f, rfl⟩ : ∃ j, f = j + 1 := ⟨f - 1, by omega⟩
      rw [f_X11_bits_l4, cb0_tab10 m hm ht, if_pos (show nI 0 = (0 : Int32) from rfl)]; rfl
    | succ t ih =>
      intro m c f hm ht hf
      obtain ⟨f, rfl⟩ : ∃ j, f = j + 1 := ⟨f - 1, by omega⟩
      have h0 : m ≠ 0 := fun z => by
        subst z
        have : cb 0 10 = 0 := by decide
        omega
      have tab := low_tab10 m hm h0
      obtain ⟨j, rfl⟩ : ∃ j, m = j + 1 := ⟨m - 1, by omega⟩
      rw [f_X11_bits_l4, if_neg (show ¬ nI (j + 1) = (0 : Int32) from fun z => h0 ((eq_nI (b := 0) (by omega) (by omega)).mp z)), lt_eq, lt_eq, inc_nI, nI_pred, and_nI]
      have := ih ((j + 1) &&& j) (c + 1) f tab.1 (by have := tab.2; rw [Nat.add_sub_cancel] at this; omega) (by omega)
      rw [this]; congr 2; omega
  unfold f_X11_bits
  have := key (cb m 10) m 0 fuel hm rfl (fuel_gt (by have := cb_le m 10; omega))
  rw [Nat.zero_add] at this
  exact this
def MS10 (m : Nat) (P : Nat → Prop) : Prop := m < 1024 ∧ ∀ y, m.testBit y = true ↔ P y
theorem MS10.uniq {m m' : Nat} {P : Nat → Prop} (h : MS10 m P) (g : MS10 m' P) : m = m' := by
  apply Nat.eq_of_testBit_eq
  intro i
  have := (h.2 i).trans (g.2 i).symm
  by_cases q : m.testBit i = true
  · rw [q, this.mp q]
  · have q' : ¬ m'.testBit i = true := fun z => q (this.mpr z)
    rw [show m.testBit i = false by simpa using q, show m'.testBit i = false by simpa using q']
theorem MS10.congr {m : Nat} {P Q : Nat → Prop} (h : MS10 m P) (e : ∀ y, P y ↔ Q y) : MS10 m Q := ⟨h.1, fun y => (h.2 y).trans (e y)⟩
theorem MS10.zero {m : Nat} {P : Nat → Prop} (h : MS10 m P) : m = 0 ↔ ∀ y, ¬ P y := by
  constructor
  · intro e y hy
    have := (h.2 y).mpr hy
    rw [e, Nat.zero_testBit] at this; cases this
  · intro e
    apply Nat.eq_of_testBit_eq
    intro i
    rw [Nat.zero_testBit]
    by_cases q : m.testBit i = true
    · exact absurd ((h.2 i).mp q) (e i)
    · simpa using q
theorem ms_full : MS10 1022 (fun y => 1 ≤ y ∧ y ≤ 9) := by
  refine ⟨by omega, fun y => ?_⟩
  by_cases h : y < 10
  · have : ∀ y, y < 10 → (Nat.testBit 1022 y = true ↔ 1 ≤ y ∧ y ≤ 9) := by decide
    exact this y h
  · rw [bit_out (n := 10) (by omega) (by omega)]
    exact ⟨fun z => (by cases z), fun z => absurd z.2 (by omega)⟩
/-- what is left of a season by the first k items -/
def FP (kd ms wk : Nat) (it : Nat → Int64) (k s y : Nat) : Prop := (1 ≤ y ∧ y ≤ 9) ∧ ∀ j, j < k → (wk + j) / 13 % 4 = s → 0 ≤ (it j).toInt → ((wt kd y ms : Nat) : Int) = (it j).toInt
def MK (J : mI) (c kd ms wk : Nat) (it : Nat → Int64) (k : Nat) : Prop := ∀ s, s < 4 → ∃ m, J c s = nI m ∧ MS10 m (FP kd ms wk it k s)
def Nz (kd ms wk : Nat) (it : Nat → Int64) (k : Nat) : Prop := ∀ s, s < 4 → ∃ y, FP kd ms wk it k s y
def Zr (kd ms wk : Nat) (it : Nat → Int64) (k : Nat) : Prop := ∃ s, s < 4 ∧ ∀ y, ¬ FP kd ms wk it k s y
section Book
variable {I J : mI} {L : mL} {v : mV} {kd ms wk : Nat} {it : Nat → Int64}
theorem FP.mono {k k' s y : Nat} (h : FP kd ms wk it k' s y) (hk : k ≤ k') : FP kd ms wk it k s y := ⟨h.1, fun j hj => h.2 j (by omega)⟩
theorem FP_hole {k s y : Nat} (h : ¬ ((wk + k) / 13 % 4 = s ∧ 0 ≤ (it k).toInt)) : FP kd ms wk it (k + 1) s y ↔ FP kd ms wk it k s y := by
  constructor
  · intro z; exact z.mono (by omega)
  · intro z
    refine ⟨z.1, fun j hj h1 h2 => ?_⟩
    by_cases e : j = k
    · subst e; exact absurd ⟨h1, h2⟩ h
    · exact z.2 j (by omega) h1 h2
theorem FP_item {k s y : Nat} (h1 : (wk + k) / 13 % 4 = s) (h2 : 0 ≤ (it k).toInt) : FP kd ms wk it (k + 1) s y ↔ FP kd ms wk it k s y ∧ ((wt kd y ms : Nat) : Int) = (it k).toInt := by
  constructor
  · intro z; exact ⟨z.mono (by omega), z.2 k (by omega) h1 h2⟩
  · intro z
    refine ⟨z.1.1, fun j hj h3 h4 => ?_⟩
    by_cases e : j = k
    · subst e; exact z.2
    · exact z.1.2 j (by omega) h3 h4
theorem Zr_nz {k k' : Nat} (h : Zr kd ms wk it k) (g : Nz kd ms wk it k') (hk : k ≤ k') : False := by
  obtain ⟨s, hs, h⟩ := h
  obtain ⟨y, hy⟩ := g s hs
  exact h y (hy.mono hk)
/-- pulls by which a weight would be so -/
theorem pulls_eq (hkd : kd ≤ 3) (hms : ms ≤ 99) (h1 : I 65 1 = nI kd) (h2 : I 65 2 = nI ms) (x : Int64) : ∃ m, f_X1_pullsFor_65 I L x = some (nI m) ∧ MS10 m (fun y => (1 ≤ y ∧ y ≤ 9) ∧ ((wt kd y ms : Nat) : Int) = x.toInt) := by
  unfold f_X1_pullsFor_65
  obtain ⟨m', m, ⟨i0, i1, i2⟩, hF⟩ := loop_inv (F := fun f k (m : Nat) => f_X1_pullsFor_65_l5 I L f x (nI m) (nI k)) (n := 10)
    (Inv := fun k m => 1 ≤ k ∧ m < 1024 ∧ ∀ y, m.testBit y = true ↔ (1 ≤ y ∧ y < k) ∧ ((wt kd y ms : Nat) : Int) = x.toInt)
    (fun f k m hk hI => by
      obtain ⟨i0, i1, i2⟩ := hI
      have wl := wt_le (k := kd) (p := k) (m := ms) (by omega)
      show ∃ m', _ ∧ f_X1_pullsFor_65_l5 I L (f + 1) x (nI m) (nI k) = f_X1_pullsFor_65_l5 I L f x (nI m') (nI (k + 1))
      rw [f_X1_pullsFor_65_l5, show (9 : Int32) = nI 9 from rfl, if_neg (by rw [lt_nI (by omega) (by omega)]; omega), h1, h2, weight_eq hkd (by omega) (by omega), Option.bind_some]
      simp only [lgc_eq, Int32.toInt_toInt64, t_nI (show wt kd k ms < 2147483648 by omega), lt_eq, inc_nI]
      by_cases q : ((wt kd k ms : Nat) : Int) = x.toInt
      · refine ⟨m ||| 2 ^ k, ⟨by omega, or_lt (n := 10) i1 (by omega), fun y => ?_⟩, by rw [if_pos q, shl_nI (by omega), or_nI]⟩
        rw [or_bit, Bool.or_eq_true, decide_eq_true_eq, i2 y]
        constructor
        · rintro (z | z)
          · exact ⟨⟨z.1.1, by omega⟩, z.2⟩
          · subst z; exact ⟨⟨i0, by omega⟩, q⟩
        · intro z
          by_cases e : k = y
          · exact Or.inr e
          · exact Or.inl ⟨⟨z.1.1, by omega⟩, z.2⟩
      · refine ⟨m, ⟨by omega, i1, fun y => ?_⟩, by rw [if_neg q]⟩
        rw [i2 y]
        constructor
        · intro z; exact ⟨⟨z.1.1, by omega⟩, z.2⟩
        · intro z
          have : y ≠ k := fun e => q (e ▸ z.2)
          exact ⟨⟨z.1.1, by omega⟩, z.2⟩)
    9 1 0 fuel (by omega) ⟨by omega, by omega, fun y => by rw [Nat.zero_testBit]; exact ⟨fun z => (by cases z), fun z => absurd z.1.2 (by omega)⟩⟩ (fuel_gt (by omega))
  have hF' : f_X1_pullsFor_65_l5 I L fuel x 0 1 = f_X1_pullsFor_65_l5 I L (m' + 1) x (nI m) (nI 10) := hF
  refine ⟨m, ?_, i1, fun y => (i2 y).trans ⟨fun z => ⟨⟨z.1.1, by omega⟩, z.2⟩, fun z => ⟨⟨z.1.1, by omega⟩, z.2⟩⟩⟩
  rw [hF', f_X1_pullsFor_65_l5, if_pos (by decide)]
theorem fill66_eq : ∃ J, f_J7_fill_53178_66 I L 1022 = some (J, L) ∧ (∀ k, k ≠ 66 → J k = I k) ∧ ∀ b, b < 4 → J 66 b = nI 1022 := by
  unfold f_J7_fill_53178_66
  obtain ⟨m', J, ⟨i1, i2⟩, hF⟩ := loop_inv (F := fun f k (J : mI) => f_J7_fill_53178_66_l5 f 1022 (nI k) 4 J L) (n := 4)
    (Inv := fun k J => (∀ c, c ≠ 66 → J c = I c) ∧ ∀ b, b < k → J 66 b = nI 1022)
    (fun f k J hk hI => by
      refine ⟨uI J 66 k 1022, ⟨fun c hc => by rw [uI_cell hc]; exact hI.1 c hc, fun b hb => ?_⟩, ?_⟩
      · rw [uI_at]
        by_cases e : b = k
        · rw [if_pos ⟨rfl, e⟩]; rfl
        · rw [if_neg (fun z => e z.2)]; exact hI.2 b (by omega)
      · show f_J7_fill_53178_66_l5 (f + 1) 1022 (nI k) 4 J L = _
        rw [f_J7_fill_53178_66_l5, show (4 : Int32) = nI 4 from rfl, if_neg (by rw [le_nI (by omega) (by omega)]; omega), ck_nI (by omega) (by omega), lt_eq, lt_eq, inc_nI, c_nI (by omega)])
    4 0 I fuel (by omega) ⟨fun _ _ => rfl, fun b hb => absurd hb (by omega)⟩ (fuel_gt (by omega))
  have hF' : f_J7_fill_53178_66_l5 fuel 1022 0 4 I L = f_J7_fill_53178_66_l5 (m' + 1) 1022 (nI 4) 4 J L := hF
  refine ⟨J, ?_, i1, i2⟩
  rw [hF', f_J7_fill_53178_66_l5, if_pos (by decide)]
theorem FP0 {s y : Nat} : FP kd ms wk it 0 s y ↔ (1 ≤ y ∧ y ≤ 9) := ⟨fun z => z.1, fun z => ⟨z, fun j hj => absurd hj (by omega)⟩⟩
theorem Nz0 : Nz kd ms wk it 0 := fun s _ => ⟨1, FP0.mpr (by omega)⟩
/-- the class reads -/
theorem cread {q i n : Nat} (hkd : kd ≤ 3) (hms : ms ≤ 99) (hwk : wk ≤ 9975) (h1 : I 65 1 = nI kd) (h2 : I 65 2 = nI ms) (h3 : I 65 3 = nI wk) (hM : MK I 66 kd ms wk (fun j => L (41 + q) (i + j)) 0) (hn : i + n ≤ 24) : ∃ J r, f_X1_readItems_65_w I L q (nI i) (nI n) = some (r, J, L) ∧ (∀ c, c ≠ 66 → J c = I c) ∧ ((r = -1 ∧ Nz kd ms wk (fun j => L (41 + q) (i + j)) n ∧ MK J 66 kd ms wk (fun j => L (41 + q) (i + j)) n) ∨ ∃ k, k < n ∧ r = nI k ∧ Nz kd ms wk (fun j => L (41 + q) (i + j)) k ∧ Zr kd ms wk (fun j => L (41 + q) (i + j)) (k + 1) ∧ MK J 66 kd ms wk (fun j => L (41 + q) (i + j)) (k + 1)) := by
  unfold f_X1_readItems_65_w
  have key : ∀ (d k f : Nat) (J : mI), k + d = n → d < f → (∀ c, c ≠ 66 → J c = I c) → Nz kd ms wk (fun j => L (41 + q) (i + j)) k → MK J 66 kd ms wk (fun j => L (41 + q) (i + j)) k → ∃ J' r, f_X1_readItems_65_w_l3 f q (nI i) (nI n) (nI k) J L = some (r, J', L) ∧ (∀ c, c ≠ 66 → J' c = I c) ∧ ((r = -1 ∧ Nz kd ms wk (fun j => L (41 + q) (i + j)) n ∧ MK J' 66 kd ms wk (fun j => L (41 + q) (i + j)) n) ∨ ∃ k, k < n ∧ r = nI k ∧ Nz kd ms wk (fun j => L (41 + q) (i + j)) k ∧ Zr kd ms wk (fun j => L (41 + q) (i + j)) (k + 1) ∧ MK J' 66 kd ms wk (fun j => L (41 + q) (i + j)) (k + 1)) := by
    intro d
    induction d with
    | zero =>
      intro k f J hk hf hJ hN hMk
      obtain ⟨f, rfl⟩ : ∃ j, f = j + 1 := ⟨f - 1, by omega⟩
      have : k = n := by omega
      subst this
      exact ⟨J, -1, by rw [f_X1_readItems_65_w_l3, if_pos (by rw [le_nI (by omega) (by omega)]; omega)], hJ, Or.inl ⟨rfl, hN, hMk⟩⟩
    | succ d ih =>
      intro k f J hk hf hJ hN hMk
      obtain ⟨f, rfl⟩ : ∃ j, f = j + 1 := ⟨f - 1, by omega⟩
      have hsl : (wk + k) / 13 % 4 < 4 := Nat.mod_lt _ (by omega)
      obtain ⟨m, em, hm⟩ := hMk _ hsl
      obtain ⟨p, ep, hp⟩ := pulls_eq (I := J) (L := L) hkd hms (by rw [hJ 65 (by omega)]; exact h1) (by rw [hJ 65 (by omega)]; exact h2) (L (41 + q) (i + k))
      have e3 : J 65 3 = nI wk := by rw [hJ 65 (by omega)]; exact h3
      rw [f_X1_readItems_65_w_l3, if_neg (by rw [le_nI (by omega) (by omega)]; omega), n_add, ck_nI (by omega) (by omega), c_nI (by omega), e3, n_add, seasonOf_eq (by omega), Option.bind_some, ck_nI hsl (by omega), ck_nI (by omega) (by omega), ep, Option.bind_some, ck_nI hsl (by omega), c_nI (by omega), em, and_nI]
      simp only [lt_eq, inc_nI, lgc_lt, z64]
      rw [uI_same, ck_nI hsl (by omega)]
      by_cases q0 : (L (41 + q) (i + k)).toInt < 0
      · rw [if_pos q0]
        refine ih (k + 1) f J (by omega) (by omega) hJ (fun s hs => ?_) (fun s hs => ?_)
        · obtain ⟨y, hy⟩ := hN s hs
          exact ⟨y, (FP_hole (fun z => by have := z.2; omega)).mpr hy⟩
        · obtain ⟨m, e, hm⟩ := hMk s hs
          exact ⟨m, e, hm.congr (fun y => (FP_hole (fun z => by have := z.2; omega)).symm)⟩
      · rw [if_neg q0]
        have hmp : MS10 (m &&& p) (FP kd ms wk (fun j => L (41 + q) (i + j)) (k + 1) ((wk + k) / 13 % 4)) := by
          refine ⟨Nat.lt_of_le_of_lt Nat.and_le_left hm.1, fun y => ?_⟩
          rw [Nat.testBit_and, Bool.and_eq_true, hm.2 y, hp.2 y, FP_item rfl (by show 0 ≤ (L (41 + q) (i + k)).toInt; omega)]
          exact ⟨fun z => ⟨z.1, z.2.2⟩, fun z => ⟨z.1, z.1.1, z.2⟩⟩
        have hMk' : MK (uI J 66 ((wk + k) / 13 % 4) (nI (m &&& p))) 66 kd ms wk (fun j => L (41 + q) (i + j)) (k + 1) := by
          intro s hs
          by_cases e : s = (wk + k) / 13 % 4
          · exact ⟨m &&& p, by rw [e, uI_same], by rw [e]; exact hmp⟩
          · obtain ⟨m', e', hm'⟩ := hMk s hs
            exact ⟨m', by rw [uI_at, if_neg (fun z => e z.2)]; exact e', hm'.congr (fun y => (FP_hole (fun z => e z.1.symm)).symm)⟩
        have hJ' : ∀ c, c ≠ 66 → uI J 66 ((wk + k) / 13 % 4) (nI (m &&& p)) c = I c := fun c hc => by rw [uI_cell hc]; exact hJ c hc
        by_cases z : m &&& p = 0
        · rw [if_pos (show nI (m &&& p) = 0 by rw [z]; rfl)]
          exact ⟨_, nI k, rfl, hJ', Or.inr ⟨k, by omega, rfl, hN, ⟨_, hsl, hmp.zero.mp z⟩, hMk'⟩⟩
        · have := hmp.1
          rw [if_neg (show ¬ nI (m &&& p) = 0 from fun y => z ((eq_nI (b := 0) (by omega) (by omega)).mp y))]
          refine ih (k + 1) f _ (by omega) (by omega) hJ' (fun s hs => ?_) hMk'
          by_cases e : s = (wk + k) / 13 % 4
          · subst e
            apply Classical.byContradiction
            intro y
            exact z (hmp.zero.mpr (fun x hx => y ⟨x, hx⟩))
          · obtain ⟨y, hy⟩ := hN s hs
            exact ⟨y, (FP_hole (fun z => e z.1.symm)).mpr hy⟩
  exact key n 0 fuel I (by omega) (fuel_gt (by omega)) (fun _ _ => rfl) Nz0 hM
end Book
