/-! book: the reference's side -/
section Mbook
variable {I J : mI} {L : mL} {v : mV} {ms wk : Nat} {it : Nat → Int64}
theorem and_m1 (m : Nat) (hm : m < 1024) : nI m &&& (-1) = nI m := by
  rw [m1_nI, and_nI, Nat.and_two_pow_sub_one_eq_mod, Nat.mod_eq_of_lt (by omega)]
/-- one item -/
theorem mb_item (hw : WF v) (hm : MH I 68 v) {p s k : Nat} (hp : p < v 0) (hms : ms ≤ 99) (hs : s < 4) (k32 : Int32 → Int32 → Int32 → Int32 → Int32 → Int32 → Int32 → mI → mL → rI) {x3 x4 x5 x6 x7 : Int32} {x : Int64} {m : Nat} (em : I 80 s = nI m) (hm10 : m < 1024) : ∃ J m', f_X11_layBook_67_l65 k32 fuel (nI p) (nI ms) x3 x4 x5 x6 x7 (nI s) x 1 I L = f_X11_layBook_67_b127 J L k32 (nI p) (nI ms) x3 x4 x5 x6 x7 (nI s) ∧ (∀ c, c ≠ 80 → J c = I c) ∧ (∀ r, r ≠ s → J 80 r = I 80 r) ∧ J 80 s = nI m' ∧ m' < 1024 ∧ ∀ y, m'.testBit y = true ↔ m.testBit y = true ∧ (0 ≤ x.toInt → (1 ≤ y ∧ y ≤ 9) → ((wt (v (6 + p)) y ms : Nat) : Int) = x.toInt) := by
  have sz := hw.sz
  have kb := hw.kindb p hp
  by_cases q : x.toInt < 0
  · refine ⟨I, m, ?_, fun _ _ => rfl, fun _ _ => rfl, em, hm10, fun y => ⟨fun z => ⟨z, fun h => absurd h (by omega)⟩, fun z => z.1⟩⟩
    rw [fuel_eq, f_X11_layBook_67_l65, if_neg (by decide), if_pos ((lgc_lt x 0).mpr (by rw [z64]; exact q))]
  · obtain ⟨f', st, ⟨i0, i1, i2, i3, i4, i5⟩, hF⟩ := loop_inv (F := fun f k (st : mI × Nat) => f_X11_layBook_67_l65 k32 f (nI p) (nI ms) x3 x4 x5 x6 x7 (nI s) x (nI k) st.1 L) (n := 10)
      (Inv := fun k st => 1 ≤ k ∧ (∀ c, c ≠ 80 → st.1 c = I c) ∧ (∀ r, r ≠ s → st.1 80 r = I 80 r) ∧ st.1 80 s = nI st.2 ∧ st.2 < 1024 ∧ ∀ y, st.2.testBit y = true ↔ m.testBit y = true ∧ ((1 ≤ y ∧ y < k) → ((wt (v (6 + p)) y ms : Nat) : Int) = x.toInt))
      (fun f k st hk hI => by
        obtain ⟨K, m1⟩ := st
        obtain ⟨i0, i1, i2, i3, i4, i5⟩ := hI
        replace i1 : ∀ c, c ≠ 80 → K c = I c := i1
        replace i2 : ∀ r, r ≠ s → K 80 r = I 80 r := i2
        replace i3 : K 80 s = nI m1 := i3
        replace i4 : m1 < 1024 := i4
        replace i5 : ∀ y, m1.testBit y = true ↔ m.testBit y = true ∧ ((1 ≤ y ∧ y < k) → ((wt (v (6 + p)) y ms : Nat) : Int) = x.toInt) := i5
        have hmK : MH K 68 v := hm.frame (i1 68 (by omega))
        have wl := wt_le (k := v (6 + p)) (p := k) (m := ms) (by omega)
        show ∃ st' : mI × Nat, _ ∧ f_X11_layBook_67_l65 k32 (f + 1) (nI p) (nI ms) x3 x4 x5 x6 x7 (nI s) x (nI k) K L = f_X11_layBook_67_l65 k32 f (nI p) (nI ms) x3 x4 x5 x6 x7 (nI s) x (nI (k + 1)) st'.1 L
        rw [f_X11_layBook_67_l65, show (10 : Int32) = nI 10 from rfl, if_neg (by rw [le_nI (by omega) (by omega)]; omega), if_neg (fun z => q (by have := (lgc_lt x 0).mp z; rw [z64] at this; exact this)), ck_nI hs (by omega), show (6 : Int32) + nI p = nI (6 + p) from n_add 6 p, ck_nI (by omega) (by omega), c_nI (by omega), hmK.n _ (by omega), weightBy_eq kb (by omega) (by omega), Option.bind_some, ck_nI hs (by omega), ck_nI hs (by omega), c_nI (by omega), i3, and_m1 m1 i4, shl_nI (by omega), wo_nI]
        simp only [lgc_eq, Int32.toInt_toInt64, t_nI (show wt (v (6 + p)) k ms < 2147483648 by omega), lt_eq, inc_nI]
        by_cases z : ((wt (v (6 + p)) k ms : Nat) : Int) = x.toInt
        · refine ⟨(uI K 80 s (nI m1), m1), ⟨by omega, fun c hc => (uI_cell hc).trans (i1 c hc), fun r hr => (show uI K 80 s (nI m1) 80 r = I 80 r by rw [uI_at, if_neg (fun y => hr y.2)]; exact i2 r hr), uI_same K 80 s (nI m1), i4, fun y => ?_⟩, by rw [if_pos z]⟩
          show m1.testBit y = true ↔ _
          rw [i5 y]
          constructor
          · intro w
            refine ⟨w.1, fun h => ?_⟩
            by_cases e : y = k
            · rw [e]; exact z
            · exact w.2 ⟨h.1, by omega⟩
          · intro w; exact ⟨w.1, fun h => w.2 ⟨h.1, by omega⟩⟩
        · refine ⟨(uI K 80 s (nI (mwo m1 (2 ^ k))), mwo m1 (2 ^ k)), ⟨by omega, fun c hc => (uI_cell hc).trans (i1 c hc), fun r hr => (show uI K 80 s (nI (mwo m1 (2 ^ k))) 80 r = I 80 r by rw [uI_at, if_neg (fun y => hr y.2)]; exact i2 r hr), uI_same K 80 s _, Nat.lt_of_le_of_lt (mwo_le _ _) i4, fun y => ?_⟩, by rw [if_neg z]⟩
          show (mwo m1 (2 ^ k)).testBit y = true ↔ _
          by_cases hy : y < 32
          · rw [mwo_bit hy, Nat.testBit_two_pow, Bool.and_eq_true, i5 y]
            constructor
            · intro w
              have ne : k ≠ y := by have := w.2; simpa using this
              exact ⟨w.1.1, fun h => w.1.2 ⟨h.1, by omega⟩⟩
            · intro w
              have ne : k ≠ y := fun e => z (e ▸ w.2 ⟨by omega, by omega⟩)
              exact ⟨⟨w.1, fun h => w.2 ⟨h.1, by omega⟩⟩, by simpa using ne⟩
          · rw [bit_out (n := 10) (Nat.lt_of_le_of_lt (mwo_le _ _) i4) (by omega), bit_out (n := 10) hm10 (by omega)]
            exact ⟨fun w => (by cases w), fun w => w.1⟩)
      9 1 (I, m) fuel (by omega) ⟨by omega, fun _ _ => rfl, fun _ _ => rfl, em, hm10, fun y => ⟨fun z => ⟨z, fun h => absurd h.2 (by omega)⟩, fun z => z.1⟩⟩ (fuel_gt (by omega))
    have hF' : f_X11_layBook_67_l65 k32 fuel (nI p) (nI ms) x3 x4 x5 x6 x7 (nI s) x 1 I L = f_X11_layBook_67_l65 k32 (f' + 1) (nI p) (nI ms) x3 x4 x5 x6 x7 (nI s) x (nI 10) st.1 L := hF
    refine ⟨st.1, st.2, ?_, i1, i2, i3, i4, fun y => (i5 y).trans ⟨fun w => ⟨w.1, fun _ h => w.2 ⟨h.1, by omega⟩⟩, fun w => ⟨w.1, fun h => w.2 (by omega) ⟨h.1, by omega⟩⟩⟩⟩
    rw [hF', f_X11_layBook_67_l65, if_pos (by decide)]
theorem mread (hw : WF v) (hm : MH I 68 v) {p fr n : Nat} (hp : p < v 0) (hms : ms ≤ 99) (hwk : wk ≤ 9975) (hn : fr + n ≤ 96) (hn24 : n ≤ 24) (hit : ∀ j, j < n → L 73 (fr + j) = it j) : ∃ J r, f_X11_layBook_67 I L (nI p) (nI ms) (nI wk) (nI fr) (nI n) = some (r, J, L) ∧ (∀ c, c ≠ 80 → J c = I c) ∧ MK J 80 (v (6 + p)) ms wk it n ∧ ((r = -4 ∧ Nz (v (6 + p)) ms wk it n) ∨ ∃ k, k < n ∧ r = nI k ∧ Nz (v (6 + p)) ms wk it k ∧ Zr (v (6 + p)) ms wk it (k + 1)) := by
  unfold f_X11_layBook_67
  obtain ⟨f', J0, ⟨i1, i2⟩, hF⟩ := loop_inv (F := fun f k (J : mI) => f_X11_layBook_67_l3 f (nI p) (nI ms) (nI wk) (nI fr) (nI n) (nI k) J L) (n := 4)
    (Inv := fun k J => (∀ c, c ≠ 80 → J c = I c) ∧ ∀ s, s < k → J 80 s = nI 1022)
    (fun f k J hk hI => by
      refine ⟨uI J 80 k 1022, ⟨fun c hc => by rw [uI_cell hc]; exact hI.1 c hc, fun b hb => ?_⟩, ?_⟩
      · rw [uI_at]
        by_cases e : b = k
        · rw [if_pos ⟨rfl, e⟩]; rfl
        · rw [if_neg (fun z => e z.2)]; exact hI.2 b (by omega)
      · show f_X11_layBook_67_l3 (f + 1) (nI p) (nI ms) (nI wk) (nI fr) (nI n) (nI k) J L = _
        rw [f_X11_layBook_67_l3, show (4 : Int32) = nI 4 from rfl, if_neg (by rw [le_nI (by omega) (by omega)]; omega), ck_nI (by omega) (by omega), lt_eq, lt_eq, inc_nI, c_nI (by omega)])
    4 0 I fuel (by omega) ⟨fun _ _ => rfl, fun b hb => absurd hb (by omega)⟩ (fuel_gt (by omega))
  have hF' : f_X11_layBook_67_l3 fuel (nI p) (nI ms) (nI wk) (nI fr) (nI n) 0 I L = f_X11_layBook_67_l3 (f' + 1) (nI p) (nI ms) (nI wk) (nI fr) (nI n) (nI 4) J0 L := hF
  rw [hF', f_X11_layBook_67_l3, if_pos (by decide)]
  obtain ⟨f2, st, ⟨j1, j2, j3⟩, hG⟩ := loop_inv (F := fun f k (st : mI × Int32) => f_X11_layBook_67_l32 f (nI p) (nI ms) (nI wk) (nI fr) (nI n) st.2 (nI k) st.1 L) (n := n)
    (Inv := fun k st => (∀ c, c ≠ 80 → st.1 c = I c) ∧ MK st.1 80 (v (6 + p)) ms wk it k ∧ ((st.2 = -4 ∧ Nz (v (6 + p)) ms wk it k) ∨ ∃ k', k' < k ∧ st.2 = nI k' ∧ Nz (v (6 + p)) ms wk it k' ∧ Zr (v (6 + p)) ms wk it (k' + 1)))
    (fun f k st hk hI => by
      obtain ⟨K, r⟩ := st
      obtain ⟨j1, j2, j3⟩ := hI
      replace j1 : ∀ c, c ≠ 80 → K c = I c := j1
      replace j2 : MK K 80 (v (6 + p)) ms wk it k := j2
      replace j3 : (r = -4 ∧ Nz (v (6 + p)) ms wk it k) ∨ ∃ k', k' < k ∧ r = nI k' ∧ Nz (v (6 + p)) ms wk it k' ∧ Zr (v (6 + p)) ms wk it (k' + 1) := j3
      have hsl : (wk + k) / 13 % 4 < 4 := Nat.mod_lt _ (by omega)
      obtain ⟨m, em, hmm⟩ := j2 _ hsl
      obtain ⟨K2, m2, l1, l2, l3, l4, l5, l6⟩ := mb_item (I := K) (L := L) (x3 := nI wk) (x4 := nI fr) (x5 := nI n) (x6 := r) (x7 := nI k) (x := it k) (k := k) hw (hm.frame (j1 68 (by omega))) hp hms hsl (f_X11_layBook_67_l32 f) em hmm.1
      have hm2 : MS10 m2 (FP (v (6 + p)) ms wk it (k + 1) ((wk + k) / 13 % 4)) := by
        refine ⟨l5, fun y => ?_⟩
        rw [l6 y, hmm.2 y]
        by_cases z : 0 ≤ (it k).toInt
        · rw [FP_item rfl z]
          exact ⟨fun w => ⟨w.1, w.2 z w.1.1⟩, fun w => ⟨w.1, fun _ _ => w.2⟩⟩
        · rw [FP_hole (fun w => z w.2)]
          exact ⟨fun w => w.1, fun w => ⟨w, fun h => absurd h z⟩⟩
      have hM2 : MK K2 80 (v (6 + p)) ms wk it (k + 1) := by
        intro s hs
        by_cases e : s = (wk + k) / 13 % 4
        · exact ⟨m2, by rw [e]; exact l4, by rw [e]; exact hm2⟩
        · obtain ⟨m', e', hm'⟩ := j2 s hs
          exact ⟨m', by rw [l3 s e]; exact e', hm'.congr (fun y => (FP_hole (fun z => e z.1.symm)).symm)⟩
      have hK2 : ∀ c, c ≠ 80 → K2 c = I c := fun c hc => by rw [l2 c hc, j1 c hc]
      have eF : f_X11_layBook_67_l32 (f + 1) (nI p) (nI ms) (nI wk) (nI fr) (nI n) r (nI k) K L = f_X11_layBook_67_b127 K2 L (f_X11_layBook_67_l32 f) (nI p) (nI ms) (nI wk) (nI fr) (nI n) r (nI k) (nI ((wk + k) / 13 % 4)) := by
        rw [f_X11_layBook_67_l32, if_neg (by rw [le_nI (by omega) (by omega)]; omega), n_add, show (13 : Int32) = nI 13 from rfl, div_nI (by omega) (by omega) (by omega), show (4 : Int32) = nI 4 from rfl, rem_nI (by omega) (by omega) (by omega), lt_eq, n_add, ck_nI (by omega) (by omega), lt_eq, c_nI (by omega), hit k hk]
        exact l1
      show ∃ st' : mI × Int32, _ ∧ f_X11_layBook_67_l32 (f + 1) (nI p) (nI ms) (nI wk) (nI fr) (nI n) r (nI k) K L = f_X11_layBook_67_l32 f (nI p) (nI ms) (nI wk) (nI fr) (nI n) st'.2 (nI (k + 1)) st'.1 L
      rw [eF]
      unfold f_X11_layBook_67_b127
      rw [ck_nI hsl (by omega), c_nI (by omega), l4]
      simp only [lt_eq, inc_nI]
      rcases j3 with ⟨rfl, hN⟩ | ⟨k', hk', rfl, hN, hZ⟩
      · rw [if_pos rfl]
        by_cases z : m2 = 0
        · rw [if_pos (show nI m2 = 0 by rw [z]; rfl)]
          exact ⟨(K2, nI k), ⟨hK2, hM2, Or.inr ⟨k, by omega, rfl, hN, _, hsl, hm2.zero.mp z⟩⟩, rfl⟩
        · rw [if_neg (show ¬ nI m2 = 0 from fun y => z ((eq_nI (b := 0) (by omega) (by omega)).mp y))]
          refine ⟨(K2, -4), ⟨hK2, hM2, Or.inl ⟨rfl, fun s hs => ?_⟩⟩, rfl⟩
          by_cases e : s = (wk + k) / 13 % 4
          · subst e
            apply Classical.byContradiction
            intro y
            exact z (hm2.zero.mpr (fun x hx => y ⟨x, hx⟩))
          · obtain ⟨y, hy⟩ := hN s hs
            exact ⟨y, (FP_hole (fun z => e z.1.symm)).mpr hy⟩
      · rw [if_neg (fun z => by
          have := congrArg Int32.toInt z
          rw [t_nI (by omega)] at this
          have q4 : (-4 : Int32).toInt = -4 := by decide
          omega)]
        exact ⟨(K2, nI k'), ⟨hK2, hM2, Or.inr ⟨k', by omega, rfl, hN, hZ⟩⟩, rfl⟩)
    n 0 (J0, -4) fuel (by omega) ⟨i1, fun s hs => ⟨1022, i2 s hs, ms_full.congr (fun y => FP0.symm)⟩, Or.inl ⟨rfl, Nz0⟩⟩ (fuel_gt (by omega))
  have hG' : f_X11_layBook_67_l32 fuel (nI p) (nI ms) (nI wk) (nI fr) (nI n) (-4) 0 J0 L = f_X11_layBook_67_l32 (f2 + 1) (nI p) (nI ms) (nI wk) (nI fr) (nI n) st.2 (nI n) st.1 L := hG
  exact ⟨st.1, st.2, by rw [hG', f_X11_layBook_67_l32, if_pos (by rw [le_nI (by omega) (by omega)]; omega)], j1, j2, j3⟩
/-- rows and what is sure, out of masks -/
def rwf (m : Nat → Nat) (s : Nat) (a : Int32) : Int32 := a * nI (cb (m s) 10)
def suf (m : Nat → Nat) (s : Nat) (a : Int32) : Int32 := if cb (m s) 10 = 1 then a ||| nI (2 ^ s) else a
theorem crows {m : Nat → Nat} (h : ∀ s, s < 4 → I 66 s = nI (m s) ∧ m s < 1024) : f_X1_fittingRows_65 I L = some (fold (rwf m) 4 0 (nI 1)) := by
  unfold f_X1_fittingRows_65
  refine loop_to' (F := fun f k a => f_X1_fittingRows_65_l4 I L f a (nI k)) (rwf m) (fun a => some a) 4 (fun f k a hk => ?_) (fun f a => ?_) (nI 1) (fuel_gt (by omega))
  · show f_X1_fittingRows_65_l4 I L (f + 1) a (nI k) = _
    rw [f_X1_fittingRows_65_l4, show (4 : Int32) = nI 4 from rfl, if_neg (by rw [le_nI (by omega) (by omega)]; omega), ck_nI (by omega) (by omega), c_nI (by omega), (h k hk).1, bc_eq10 (h k hk).2, Option.bind_some, lt_eq, lt_eq, inc_nI]; rfl
  · show f_X1_fittingRows_65_l4 I L (f + 1) a (nI 4) = _
    rw [f_X1_fittingRows_65_l4, if_pos (by decide)]
theorem csure {m : Nat → Nat} (h : ∀ s, s < 4 → I 66 s = nI (m s) ∧ m s < 1024) : f_X1_sureSeasons_65 I L = some (fold (suf m) 4 0 (nI 0)) := by
  unfold f_X1_sureSeasons_65
  refine loop_to' (F := fun f k a => f_X1_sureSeasons_65_l4 I L f a (nI k)) (suf m) (fun a => some a) 4 (fun f k a hk => ?_) (fun f a => ?_) (nI 0) (fuel_gt (by omega))
  · have cl := cb_le (m k) 10
    show f_X1_sureSeasons_65_l4 I L (f + 1) a (nI k) = _
    rw [f_X1_sureSeasons_65_l4, show (4 : Int32) = nI 4 from rfl, if_neg (by rw [le_nI (by omega) (by omega)]; omega), ck_nI (by omega) (by omega), c_nI (by omega), (h k hk).1, bc_eq10 (h k hk).2, Option.bind_some, shl_nI (by omega)]
    simp only [lt_eq, inc_nI]
    unfold suf
    by_cases q : cb (m k) 10 = 1
    · rw [if_pos q, if_pos (by rw [q]; rfl)]
    · rw [if_neg q, if_neg (show ¬ nI (cb (m k) 10) = 1 from fun z => q ((eq_nI (b := 1) (by omega) (by omega)).mp z))]
  · show f_X1_sureSeasons_65_l4 I L (f + 1) a (nI 4) = _
    rw [f_X1_sureSeasons_65_l4, if_pos (by decide)]
theorem mrows {m : Nat → Nat} (h : ∀ s, s < 4 → I 80 s = nI (m s) ∧ m s < 1024) {w r : Int32} : f_X11_book_67_l126 fuel w r 1 0 0 I L = if w = 0 then some (fold (rwf m) 4 0 (nI 1), I, L) else if w = 2 then some (r, I, L) else if fold (rwf m) 4 0 (nI 1) = 0 then some (-4, I, L) else some (fold (suf m) 4 0 (nI 0), I, L) := by
  have key : ∀ (d k f : Nat), k + d = 4 → d < f → f_X11_book_67_l126 f w r (fold (rwf m) k 0 (nI 1)) (fold (suf m) k 0 (nI 0)) (nI k) I L = if w = 0 then some (fold (rwf m) 4 0 (nI 1), I, L) else if w = 2 then some (r, I, L) else if fold (rwf m) 4 0 (nI 1) = 0 then some (-4, I, L) else some (fold (suf m) 4 0 (nI 0), I, L) := by
    intro d
    induction d with
    | zero =>
      intro k f hk hf
      obtain ⟨f, rfl⟩ : ∃ j, f = j + 1 := ⟨f - 1, by omega⟩
      have : k = 4 := by omega
      subst this
      rw [f_X11_book_67_l126, if_pos (by decide)]
    | succ d ih =>
      intro k f hk hf
      obtain ⟨f, rfl⟩ : ∃ j, f = j + 1 := ⟨f - 1, by omega⟩
      have cl := cb_le (m k) 10
      have ih' := ih (k + 1) f (by omega) (by omega)
      rw [fold_succ, fold_succ, Nat.zero_add] at ih'
      rw [f_X11_book_67_l126, show (4 : Int32) = nI 4 from rfl, if_neg (by rw [le_nI (by omega) (by omega)]; omega), ck_nI (by omega) (by omega), c_nI (by omega), (h k (by omega)).1, bits_eq10 (h k (by omega)).2, Option.bind_some, lt_eq, ck_nI (by omega) (by omega), Option.bind_some, shl_nI (by omega), show (0 : Int32) = nI 0 from rfl, orz]
      simp only [lt_eq, inc_nI]
      rw [show (nI 0 : Int32) = 0 from rfl]
      have e2 : suf m k (fold (suf m) k 0 (nI 0)) = if cb (m k) 10 = 1 then fold (suf m) k 0 (nI 0) ||| nI (2 ^ k) else fold (suf m) k 0 (nI 0) := rfl
      rw [e2] at ih'
      by_cases q : cb (m k) 10 = 1
      · rw [if_pos q] at ih'
        rw [if_pos (by rw [q]; rfl)]
        exact ih'
      · rw [if_neg q] at ih'
        rw [if_neg (show ¬ nI (cb (m k) 10) = 1 from fun z => q ((eq_nI (b := 1) (by omega) (by omega)).mp z))]
        exact ih'
  exact key 4 0 fuel (by omega) (fuel_gt (by omega))
theorem rw_val (m : Nat → Nat) : fold (rwf m) 4 0 (nI 1) = nI (1 * cb (m 0) 10 * cb (m 1) 10 * cb (m 2) 10 * cb (m 3) 10) := by
  show rwf m 3 (rwf m 2 (rwf m 1 (rwf m 0 (nI 1)))) = _
  unfold rwf
  rw [n_mul, n_mul, n_mul, n_mul]
theorem rw_zero {m : Nat → Nat} (h : ∃ s, s < 4 ∧ m s = 0) : fold (rwf m) 4 0 (nI 1) = 0 := by
  rw [rw_val]
  obtain ⟨s, hs, e⟩ := h
  have c0 : cb 0 10 = 0 := by decide
  rcases (show s = 0 ∨ s = 1 ∨ s = 2 ∨ s = 3 by omega) with rfl | rfl | rfl | rfl <;> rw [e, c0] <;> simp <;> rfl
theorem rw_pos {m : Nat → Nat} (h : ∀ s, s < 4 → m s ≠ 0 ∧ m s < 1024) : ¬ fold (rwf m) 4 0 (nI 1) = 0 := by
  rw [rw_val]
  have c : ∀ s, s < 4 → 1 ≤ cb (m s) 10 ∧ cb (m s) 10 ≤ 10 := by
    intro s hs
    refine ⟨?_, cb_le _ _⟩
    have : cb (m s) 10 ≠ 0 := fun z => (h s hs).1 (cb0_tab10 _ (h s hs).2 z)
    omega
  have h0 := c 0 (by omega)
  have h1 := c 1 (by omega)
  have h2 := c 2 (by omega)
  have h3 := c 3 (by omega)
  have l1 : 1 * cb (m 0) 10 * cb (m 1) 10 ≤ 10 * 10 := Nat.mul_le_mul (by omega) h1.2
  have l2 : 1 * cb (m 0) 10 * cb (m 1) 10 * cb (m 2) 10 ≤ 10 * 10 * 10 := Nat.mul_le_mul l1 h2.2
  have l3 : 1 * cb (m 0) 10 * cb (m 1) 10 * cb (m 2) 10 * cb (m 3) 10 ≤ 10 * 10 * 10 * 10 := Nat.mul_le_mul l2 h3.2
  have p1 : 0 < 1 * cb (m 0) 10 * cb (m 1) 10 * cb (m 2) 10 * cb (m 3) 10 := Nat.mul_pos (Nat.mul_pos (Nat.mul_pos (by omega) (by omega)) (by omega)) (by omega)
  intro z
  have := (eq_nI (b := 0) (by omega) (by omega)).mp z
  omega
theorem MK.pick {c kd k : Nat} (h : MK I c kd ms wk it k) : ∃ m : Nat → Nat, ∀ s, s < 4 → I c s = nI (m s) ∧ MS10 (m s) (FP kd ms wk it k s) := by
  obtain ⟨m0, h0⟩ := h 0 (by omega)
  obtain ⟨m1, h1⟩ := h 1 (by omega)
  obtain ⟨m2, h2⟩ := h 2 (by omega)
  obtain ⟨m3, h3⟩ := h 3 (by omega)
  refine ⟨fun s => if s = 0 then m0 else if s = 1 then m1 else if s = 2 then m2 else m3, fun s hs => ?_⟩
  rcases (show s = 0 ∨ s = 1 ∨ s = 2 ∨ s = 3 by omega) with rfl | rfl | rfl | rfl
  · exact h0
  · exact h1
  · exact h2
  · exact h3
theorem st_book {a1 a2 a3 a4 a5 a6 a7 a8 : Int32} (h : Rel I L) : St_book Rel I L a1 a2 a3 a4 a5 a6 a7 a8 := by
  obtain ⟨⟨v, hw, hm, hc⟩, hr2⟩ := id h
  have sz := hw.sz
  have hs := h.2.2.2
  unfold St_book f_X10_book_0
  rw [hasParish_n hc.c0 (by omega), within_l 1 99 (by decide) (by decide), within_l 0 9975 (by decide) (by decide), isLaneC_n, within_l 1 24 (by decide) (by decide), within_l 0 2 (by decide) (by decide)]
  have hM : ∀ J : mI, MH J 68 v → f_X11_book_67 J L a1 a2 a3 a4 a5 a6 a7 a8 = if 0 ≤ a1.toInt ∧ a1.toInt < (v 0 : Int) then (if 1 ≤ a2.toInt ∧ a2.toInt ≤ 99 then (if 0 ≤ a3.toInt ∧ a3.toInt ≤ 9975 then (if 0 ≤ a4.toInt ∧ a4.toInt ≤ 3 then (if 0 ≤ a5.toInt ∧ a5.toInt ≤ 2 then (if 1 ≤ a7.toInt ∧ a7.toInt ≤ 24 then (if 0 ≤ a8.toInt ∧ a8.toInt ≤ 2 then ((f_X11_finds_67 J L a4 a5 a6 a7).bind (fun r8 => if 0 ≤ r8 then (bndI (f_X11_layBook_67 J L a1 a2 a3 ((24 * a4) + a6) a7) (fun r9 Ir9 Lr9 => f_X11_book_67_l126 fuel a8 r9 1 0 0 Ir9 Lr9)) else (some (r8, J, L)))) else some (-1, J, L)) else some (-1, J, L)) else some (-1, J, L)) else some (-1, J, L)) else some (-1, J, L)) else some (-1, J, L)) else some (-1, J, L) := by
    intro J hJ
    unfold f_X11_book_67
    rw [isParish_n (hJ 0 (by omega)) (by omega), in_l 1 99 (by decide) (by decide), in_l 0 9975 (by decide) (by decide), isSheetM_n, isLaneM_n, in_l 1 24 (by decide) (by decide), in_l 0 2 (by decide) (by decide)]
    simp only [Option.bind_some, bit_ite]
  simp only [Option.bind_some, bit_ite]
  by_cases p1 : 0 ≤ a1.toInt ∧ a1.toInt < (v 0 : Int)
  · rw [if_pos p1]
    by_cases p2 : 1 ≤ a2.toInt ∧ a2.toInt ≤ 99
    · rw [if_pos p2]
      by_cases p3 : 0 ≤ a3.toInt ∧ a3.toInt ≤ 9975
      · rw [if_pos p3]
        by_cases h1 : 0 ≤ a4.toInt ∧ a4.toInt ≤ 3
        · by_cases h2 : 0 ≤ a5.toInt ∧ a5.toInt ≤ 2
          · rw [if_pos ⟨h1, h2⟩]
            by_cases h3 : 1 ≤ a7.toInt ∧ a7.toInt ≤ 24
            · rw [if_pos h3]
              by_cases h4 : 0 ≤ a8.toInt ∧ a8.toInt ≤ 2
              · rw [if_pos h4]
                obtain ⟨p, hp, rfl, -⟩ := ofI p1.1 p1.2
                obtain ⟨ms, hms, rfl, -⟩ := ofI (a := a2) (n := 100) (by omega) (by omega)
                obtain ⟨wk, hwk, rfl, -⟩ := ofI (a := a3) (n := 9976) (by omega) (by omega)
                obtain ⟨q, hq, rfl, -⟩ := ofI (a := a4) (n := 4) h1.1 (by omega)
                obtain ⟨n, hn25, rfl, gn⟩ := ofI (a := a7) (n := 25) (by omega) (by omega)
                obtain ⟨r, e1, e2, hr⟩ := fault_eq hq (hs q hq) a5 a6 (nI n)
                have kb := hw.kindb p hp
                rw [e1, Option.bind_some]
                rcases hr with hr | ⟨rfl, k7, i, m, n', rfl, em, him, hn, k8, k9, ⟨c, hc3, rfl, k4, k5⟩, k6⟩
                · rw [if_neg hr]
                  exact ⟨_, I, L, I, L, rfl, by rw [hM I hm, if_pos p1, if_pos p2, if_pos p3, if_pos h1, if_pos h2, if_pos h3, if_pos h4, e2 L, Option.bind_some, if_neg hr], h⟩
                · have em' : n = m := (eq_nI (by omega) (by omega)).mp em
                  subst em'
                  rw [if_pos (show (0 : Int32) ≤ 0 by decide), ck_nI (by omega) (by omega), c_nI (by omega), hc.kind hw p hp]
                  unfold f_X1_open_65
                  rw [lt_eq, lt_eq, lt_eq]
                  obtain ⟨J1, g1, g2, g3⟩ := fill66_eq (I := uI (uI (uI I 65 1 (nI (v (6 + p)))) 65 2 (nI ms)) 65 3 (nI wk)) (L := L)
                  rw [g1, bndV_some, bndV_some, ck_nI hq (by omega), c_nI (by omega)]
                  obtain ⟨J2, r, d1, d2, d3⟩ := cread (I := J1) (L := L) (kd := v (6 + p)) (ms := ms) (wk := wk) (q := q) (i := i) (n := n) kb (by omega) (by omega) (by rw [g2 65 (by omega), uI_at, if_neg (by omega), uI_at, if_neg (by omega), uI_same]) (by rw [g2 65 (by omega), uI_at, if_neg (by omega), uI_same]) (by rw [g2 65 (by omega), uI_same]) (fun s hs => ⟨1022, g3 s hs, ms_full.congr (fun y => FP0.symm)⟩) (by omega)
                  have hf : ∀ k, k < 65 ∨ 66 < k → J2 k = I k := fun k hk => by rw [d2 k (by omega), g2 k (by omega), uI_cell (by omega), uI_cell (by omega), uI_cell (by omega)]
                  have hm2 : MH J2 68 v := hm.frame (hf 68 (by omega))
                  obtain ⟨J3, r', y1, y2, y3, y4⟩ := mread (I := J2) (L := L) (it := fun j => L (41 + q) (i + j)) (fr := 24 * q + i) (n := n) hw hm2 hp (show ms ≤ 99 by omega) (show wk ≤ 9975 by omega) (by omega) (by omega) (fun j hj => by rw [k6 (i + j) (by omega)]; congr 1; omega)
                  rw [d1, bndI_some]
                  have eM : f_X11_book_67 J2 L (nI p) (nI ms) (nI wk) (nI q) (nI c) (nI i) (nI n) a8 = f_X11_book_67_l126 fuel a8 r' 1 0 0 J3 L := by
                    have e2' : f_X11_finds_67 J2 L (nI q) (nI c) (nI i) (nI n) = some 0 := by
                      have : f_X11_finds_67 J2 L (nI q) (nI c) (nI i) (nI n) = f_X11_finds_67 I L (nI q) (nI c) (nI i) (nI n) := by
                        unfold f_X11_finds_67; rw [hf 72 (by omega), hf 71 (by omega)]
                      rw [this]; exact e2 L
                    rw [hM J2 hm2, if_pos p1, if_pos p2, if_pos p3, if_pos h1, if_pos h2, if_pos h3, if_pos h4, e2', Option.bind_some, if_pos (show (0 : Int32) ≤ 0 by decide), show (24 : Int32) * nI q = nI (24 * q) from n_mul 24 q, n_add, y1, bndI_some]
                  have hR : Rel J3 L := h.scr (fun k hk => by rw [y2 k (by omega), hf k (by omega)])
                  obtain ⟨mm, hmm⟩ := y3.pick
                  have hm80 : ∀ s, s < 4 → J3 80 s = nI (mm s) ∧ mm s < 1024 := fun s hs => ⟨(hmm s hs).1, (hmm s hs).2.1⟩
                  rw [mrows hm80] at eM
                  have wcase : a8 = 0 ∨ a8 = 1 ∨ a8 = 2 := by
                    obtain ⟨u, hu, rfl, -⟩ := ofI (a := a8) (n := 3) (by omega) (by omega)
                    rcases (show u = 0 ∨ u = 1 ∨ u = 2 by omega) with rfl | rfl | rfl
                    · exact Or.inl rfl
                    · exact Or.inr (Or.inl rfl)
                    · exact Or.inr (Or.inr rfl)
                  rcases d3 with ⟨rfl, dN, dM⟩ | ⟨k, dk, rfl, dN, dZ, dM⟩
                  · -- none is false
                    have yN : r' = -4 := by
                      rcases y4 with ⟨e, -⟩ | ⟨k', hk', -, -, yZ⟩
                      · exact e
                      · exact (Zr_nz yZ dN (by omega)).elim
                    subst yN
                    have h66 : ∀ s, s < 4 → J2 66 s = nI (mm s) ∧ mm s < 1024 := by
                      intro s hs
                      obtain ⟨m', e', hm'⟩ := dM s hs
                      rw [← hm'.uniq (hmm s hs).2]
                      exact ⟨e', hm'.1⟩
                    have pos : ¬ fold (rwf mm) 4 0 (nI 1) = 0 := rw_pos (fun s hs => ⟨fun z => by
                      obtain ⟨y, hy⟩ := dN s hs
                      exact ((hmm s hs).2.zero.mp z) y hy, (hmm s hs).2.1⟩)
                    rw [crows h66, csure h66, Option.bind_some, Option.bind_some]
                    rcases wcase with rfl | rfl | rfl
                    · rw [if_pos rfl] at eM ⊢
                      exact ⟨_, J2, L, J3, L, rfl, eM, hR⟩
                    · rw [if_neg (by decide), if_neg (by decide), if_neg pos] at eM
                      rw [if_neg (by decide), if_pos rfl, if_neg (by decide)]
                      exact ⟨_, J2, L, J3, L, rfl, eM, hR⟩
                    · rw [if_neg (by decide), if_pos rfl] at eM
                      rw [if_neg (by decide), if_neg (by decide), if_neg (by decide)]
                      exact ⟨_, J2, L, J3, L, rfl, eM, hR⟩
                  · have yK : r' = nI k := by
                      rcases y4 with ⟨e, yN⟩ | ⟨k', hk', e, yN, yZ⟩
                      · exact (Zr_nz dZ yN (by omega)).elim
                      · rw [e]
                        congr 1
                        apply Classical.byContradiction
                        intro ne
                        by_cases lt' : k < k'
                        · exact Zr_nz dZ yN (by omega)
                        · exact Zr_nz yZ dN (by omega)
                    subst yK
                    obtain ⟨mc, hmc⟩ := dM.pick
                    have h66 : ∀ s, s < 4 → J2 66 s = nI (mc s) ∧ mc s < 1024 := fun s hs => ⟨(hmc s hs).1, (hmc s hs).2.1⟩
                    obtain ⟨s0, hs0, hz0⟩ := dZ
                    have zc : fold (rwf mc) 4 0 (nI 1) = 0 := rw_zero ⟨s0, hs0, (hmc s0 hs0).2.zero.mpr hz0⟩
                    have zm : fold (rwf mm) 4 0 (nI 1) = 0 := rw_zero ⟨s0, hs0, (hmm s0 hs0).2.zero.mpr (fun y hy => hz0 y (hy.mono (by omega)))⟩
                    rw [crows h66, Option.bind_some, zc]
                    rw [zm] at eM
                    have ge : (0 : Int32) ≤ nI k := ge0_nI (by omega)
                    rcases wcase with rfl | rfl | rfl
                    · rw [if_pos rfl] at eM ⊢
                      exact ⟨_, J2, L, J3, L, rfl, eM, hR⟩
                    · rw [if_neg (by decide), if_neg (by decide), if_pos rfl] at eM
                      rw [if_neg (by decide), if_pos rfl, if_pos ge]
                      exact ⟨_, J2, L, J3, L, rfl, eM, hR⟩
                    · rw [if_neg (by decide), if_pos rfl] at eM
                      rw [if_neg (by decide), if_neg (by decide), if_pos ge]
                      exact ⟨_, J2, L, J3, L, rfl, eM, hR⟩
              · rw [if_neg h4]
                exact ⟨-1, I, L, I, L, rfl, by rw [hM I hm, if_pos p1, if_pos p2, if_pos p3, if_pos h1, if_pos h2, if_pos h3, if_neg h4], h⟩
            · rw [if_neg h3]
              exact ⟨-1, I, L, I, L, rfl, by rw [hM I hm, if_pos p1, if_pos p2, if_pos p3, if_pos h1, if_pos h2, if_neg h3], h⟩
          · rw [if_neg (fun z => h2 z.2)]
            exact ⟨-1, I, L, I, L, rfl, by rw [hM I hm, if_pos p1, if_pos p2, if_pos p3, if_pos h1, if_neg h2], h⟩
        · rw [if_neg (fun z => h1 z.1)]
          exact ⟨-1, I, L, I, L, rfl, by rw [hM I hm, if_pos p1, if_pos p2, if_pos p3, if_neg h1], h⟩
      · rw [if_neg p3]
        exact ⟨-1, I, L, I, L, rfl, by rw [hM I hm, if_pos p1, if_pos p2, if_neg p3], h⟩
    · rw [if_neg p2]
      exact ⟨-1, I, L, I, L, rfl, by rw [hM I hm, if_pos p1, if_neg p2], h⟩
  · rw [if_neg p1]
    exact ⟨-1, I, L, I, L, rfl, by rw [hM I hm, if_neg p1], h⟩
end Mbook
