/-! ways: the class's side -/
section Trace
variable {I J : mI} {L : mL} {n B c lg t : Nat} {T : Nat → Nat → Nat} {W : Nat → Nat} {D : Nat → Nat → Nat}
/-- what a tracing holds -/
def TR (I : mI) (n B c lg : Nat) (T : Nat → Nat → Nat) (W : Nat → Nat) (D : Nat → Nat → Nat) : Prop := RT I n B c lg T W ∧ ∀ a b, a < n → b < n → I 50 (a * 8 + b) = nI (cF (D a b))
abbrev tG (c lg : Nat) (T : Nat → Nat → Nat) (W : Nat → Nat) (D : Nat → Nat → Nat) (t : Nat) : Nat → Nat → Prop := Tg (eE T) (wc c lg T W) D t
theorem TR.frame (h : TR I n B c lg T W D) (hf : ∀ k, k ≠ 53 → k ≠ 54 → k ≠ 48 → J k = I k) (h8 : ∀ j, 8 ≤ j → J 48 j = I 48 j) : TR J n B c lg T W D := by
  obtain ⟨⟨h1, h2, h3, h4, h5, h6⟩, h7⟩ := h
  refine ⟨⟨by rw [h8 8 (by omega)]; exact h1, by rw [h8 9 (by omega)]; exact h2, by rw [h8 10 (by omega)]; exact h3, by rw [h8 11 (by omega)]; exact h4, fun a b ha hb => by rw [hf 49 (by omega) (by omega) (by omega)]; exact h5 a b ha hb, fun a ha => by rw [hf 51 (by omega) (by omega) (by omega)]; exact h6 a ha⟩, fun a b ha hb => by rw [hf 50 (by omega) (by omega) (by omega)]; exact h7 a b ha hb⟩
theorem next_b (h : TR I n B c lg T W D) (hB : RB n B c lg T W) (hD : FW n n (oO B W) (eE T) (wc c lg T W) D) {a : Nat} (ha : a < n) (ht : t < n) (k2 : Int32 → Int32 → mI → mL → rV) (h0 : I 53 a = nI 0) : ∃ J m, f_X5_findNext_48_l32 k2 fuel (nI t) (nI a) (nI (cF (D a t))) 0 I L = k2 (nI t) (nI (a + 1)) J L ∧ (∀ k, k ≠ 53 → J k = I k) ∧ (∀ x, x ≠ a → J 53 x = I 53 x) ∧ J 53 a = nI m ∧ MS m (fun p => p < n ∧ tG c lg T W D t a p) := by
  have b1 := hB.1
  have p8 : 2 ^ n ≤ 2 ^ 8 := Nat.pow_le_pow_right (by omega) b1
  obtain ⟨f', st, ⟨i1, i2, i3, i4⟩, hF⟩ := loop_inv (F := fun f k (st : mI × Nat) => f_X5_findNext_48_l32 k2 f (nI t) (nI a) (nI (cF (D a t))) (nI k) st.1 L) (n := n)
    (Inv := fun k st => (∀ k, k ≠ 53 → st.1 k = I k) ∧ (∀ x, x ≠ a → st.1 53 x = I 53 x) ∧ st.1 53 a = nI st.2 ∧ MS st.2 (fun p => p < k ∧ tG c lg T W D t a p))
    (fun f k st hk hI => by
      obtain ⟨K, m⟩ := st
      obtain ⟨i1, i2, i3, i4⟩ := hI
      replace i1 : ∀ k, k ≠ 53 → K k = I k := i1
      replace i2 : ∀ x, x ≠ a → K 53 x = I 53 x := i2
      replace i3 : K 53 a = nI m := i3
      replace i4 : MS m (fun p => p < k ∧ tG c lg T W D t a p) := i4
      have hK : TR K n B c lg T W D := h.frame (fun k a _ _ => i1 k a) (fun j _ => by rw [i1 48 (by omega)])
      have d1 := hD.1 a t ha ht
      have d2 := hD.1 k t hk ht
      have wl := wc_le hB ha hk
      have skip : ¬ tG c lg T W D t a k → ∃ st' : mI × Nat, ((∀ k, k ≠ 53 → st'.1 k = I k) ∧ (∀ x, x ≠ a → st'.1 53 x = I 53 x) ∧ st'.1 53 a = nI st'.2 ∧ MS st'.2 (fun p => p < k + 1 ∧ tG c lg T W D t a p)) ∧ f_X5_findNext_48_l32 k2 f (nI t) (nI a) (nI (cF (D a t))) (nI (k + 1)) K L = f_X5_findNext_48_l32 k2 f (nI t) (nI a) (nI (cF (D a t))) (nI (k + 1)) st'.1 L := fun z => ⟨(K, m), ⟨i1, i2, i3, i4.keep z⟩, rfl⟩
      show ∃ st' : mI × Nat, _ ∧ f_X5_findNext_48_l32 k2 (f + 1) (nI t) (nI a) (nI (cF (D a t))) (nI k) K L = f_X5_findNext_48_l32 k2 f (nI t) (nI a) (nI (cF (D a t))) (nI (k + 1)) st'.1 L
      have cl : cF (D a t) ≤ 536870912 := by unfold cF; split <;> omega
      have cl2 : cF (D k t) ≤ 536870912 := by unfold cF; split <;> omega
      rw [f_X5_findNext_48_l32, hK.1.1, if_neg (by rw [le_nI (by omega) (by omega)]; omega), show (536870912 : Int32) = nI 536870912 from rfl]
      simp only [lt_eq, inc_nI]
      by_cases q1 : D a t < 100000000
      · have e1 : cF (D a t) = D a t := by unfold cF; rw [if_pos q1]
        rw [if_neg (by rw [e1, le_nI (by omega) (by omega)]; omega), show nI a * 8 = nI (a * 8) from n_mul a 8, n_add, ck_nI (by omega) (by omega), c_nI (by omega), hK.1.2.2.2.2.1 a k ha hk]
        by_cases q2 : T a k = 0
        · rw [q2, if_pos (by decide)]
          exact skip (fun z => z.1 q2)
        · have t10 := hB.2.2.2.2.1 a k ha hk
          rw [if_neg (by
            obtain ⟨u, eu⟩ : ∃ u, T a k = u + 1 := ⟨T a k - 1, by omega⟩
            rw [eu, nI_pred]
            intro z
            have := congrArg Int32.toInt z
            rw [t_nI (by omega)] at this
            have q : (-1 : Int32).toInt = -1 := by decide
            omega), roadCost_eq hK.1 hB ha hk q2, Option.bind_some, show nI k * 8 = nI (k * 8) from n_mul k 8, n_add, ck_nI (by omega) (by omega), c_nI (by omega), hK.2 k t hk ht, n_add, ck_nI (by omega) (by omega), ck_nI (by omega) (by omega), c_nI (by omega), i3, shl_nI (by omega), or_nI]
          by_cases q3 : D k t < 100000000 ∧ wc c lg T W a k + D k t = D a t
          · have e2 : cF (D k t) = D k t := by unfold cF; rw [if_pos q3.1]
            rw [if_pos (by rw [e1, e2, q3.2])]
            refine ⟨(uI K 53 a (nI (m ||| 2 ^ k)), m ||| 2 ^ k), ⟨fun c hc => (uI_cell hc).trans (i1 c hc), fun x hx => (show uI K 53 a (nI (m ||| 2 ^ k)) 53 x = I 53 x by rw [uI_at, if_neg (fun z => hx z.2)]; exact i2 x hx), uI_same K 53 a _, i4.add ⟨q2, q3.1, q1, q3.2⟩ (by omega)⟩, rfl⟩
          · rw [if_neg (fun z => by
              have z' := (eq_nI (by omega) (by omega)).mp z
              rw [e1] at z'
              unfold cF at z'
              by_cases y : D k t < 100000000
              · rw [if_pos y] at z'; exact q3 ⟨y, z'⟩
              · rw [if_neg y] at z'; omega)]
            exact skip (fun z => q3 ⟨z.2.1, z.2.2.2⟩)
      · have e1 : cF (D a t) = 536870912 := by unfold cF; rw [if_neg q1]
        rw [if_pos (by rw [e1, le_nI (by omega) (by omega)]; omega)]
        exact skip (fun z => q1 z.2.2.1))
    n 0 (I, 0) fuel (by omega) ⟨fun _ _ => rfl, fun _ _ => rfl, h0, MS.zero⟩ (fuel_gt (by omega))
  have hF' : f_X5_findNext_48_l32 k2 fuel (nI t) (nI a) (nI (cF (D a t))) 0 I L = f_X5_findNext_48_l32 k2 (f' + 1) (nI t) (nI a) (nI (cF (D a t))) (nI n) st.1 L := hF
  refine ⟨st.1, st.2, ?_, i1, i2, i3, i4⟩
  rw [hF', f_X5_findNext_48_l32, i1 48 (by omega), h.1.1, if_pos (by rw [le_nI (by omega) (by omega)]; omega), lt_eq, inc_nI]
/-- the sets of tight steps are laid -/
def NXs (J : mI) (n : Nat) (tg : Nat → Nat → Prop) : Prop := ∀ a, a < n → ∃ m, J 53 a = nI m ∧ MS m (fun p => p < n ∧ tg a p)
theorem next_eq (h : TR I n B c lg T W D) (hB : RB n B c lg T W) (hD : FW n n (oO B W) (eE T) (wc c lg T W) D) (ht : t < n) : ∃ J, f_X5_findNext_48 I L (nI t) = some (J, L) ∧ (∀ k, k ≠ 53 → J k = I k) ∧ NXs J n (tG c lg T W D t) := by
  have b1 := hB.1
  unfold f_X5_findNext_48
  obtain ⟨f', J, ⟨i1, i2⟩, hF⟩ := loop_inv (F := fun f k (J : mI) => f_X5_findNext_48_l2 f (nI t) (nI k) J L) (n := n)
    (Inv := fun k J => (∀ k, k ≠ 53 → J k = I k) ∧ ∀ a, a < k → ∃ m, J 53 a = nI m ∧ MS m (fun p => p < n ∧ tG c lg T W D t a p))
    (fun f k J hk hI => by
      obtain ⟨i1, i2⟩ := hI
      have f0 : ∀ c, c ≠ 53 → uI J 53 k 0 c = I c := fun c hc => by rw [uI_cell hc]; exact i1 c hc
      have hK : TR (uI J 53 k 0) n B c lg T W D := h.frame (fun k a _ _ => f0 k a) (fun j _ => by rw [f0 48 (by omega)])
      obtain ⟨J2, m, j1, j2, j3, j4, j5⟩ := next_b (L := L) hK hB hD hk ht (f_X5_findNext_48_l2 f) (uI_same _ _ _ _)
      refine ⟨J2, ⟨fun c hc => by rw [j2 c hc, f0 c hc], fun a ha => ?_⟩, ?_⟩
      · by_cases e : a = k
        · subst e; exact ⟨m, j4, j5⟩
        · obtain ⟨m', e1, e2⟩ := i2 a (by omega)
          exact ⟨m', by rw [j3 a e, uI_at, if_neg (fun z => e z.2)]; exact e1, e2⟩
      · show f_X5_findNext_48_l2 (f + 1) (nI t) (nI k) J L = _
        rw [f_X5_findNext_48_l2, i1 48 (by omega), h.1.1, if_neg (by rw [le_nI (by omega) (by omega)]; omega), ck_nI (by omega) (by omega), lt_eq, c_nI (by omega), show nI k * 8 = nI (k * 8) from n_mul k 8, n_add, ck_nI (by omega) (by omega), lt_eq, c_nI (by omega), hK.2 k t hk ht]
        exact j1)
    n 0 I fuel (by omega) ⟨fun _ _ => rfl, fun a ha => absurd ha (by omega)⟩ (fuel_gt (by omega))
  have hF' : f_X5_findNext_48_l2 fuel (nI t) 0 I L = f_X5_findNext_48_l2 (f' + 1) (nI t) (nI n) J L := hF
  refine ⟨J, ?_, i1, i2⟩
  rw [hF', f_X5_findNext_48_l2, i1 48 (by omega), h.1.1, if_pos (by rw [le_nI (by omega) (by omega)]; omega)]
theorem cb_mono_n {a m n : Nat} (h : ∀ i, i < n → a.testBit i = true → m.testBit i = true) : cb a n ≤ cb m n := by
  induction n with
  | zero => exact Nat.le_refl 0
  | succ n ih =>
    show cb a n + (if a.testBit n = true then 1 else 0) ≤ cb m n + (if m.testBit n = true then 1 else 0)
    have := ih (fun i hi => h i (by omega))
    by_cases q : a.testBit n = true
    · rw [if_pos q, if_pos (h n (by omega) q)]; omega
    · rw [if_neg q]; omega
theorem cb_lt_n {a m n x : Nat} (h : ∀ i, i < n → a.testBit i = true → m.testBit i = true) (hx : x < n) (h1 : m.testBit x = true) (h2 : ¬ a.testBit x = true) : cb a n < cb m n := by
  induction n with
  | zero => omega
  | succ n ih =>
    show cb a n + (if a.testBit n = true then 1 else 0) < cb m n + (if m.testBit n = true then 1 else 0)
    by_cases e : x = n
    · subst e
      have := cb_mono_n (n := x) (fun i hi => h i (by omega))
      rw [if_neg h2, if_pos h1]; omega
    · have := ih (fun i hi => h i (by omega)) (by omega)
      by_cases q : a.testBit n = true
      · rw [if_pos q, if_pos (h n (by omega) q)]; omega
      · rw [if_neg q]; omega
/-- one round of what is seen -/
theorem reach_b {tg : Nat → Nat → Prop} (hn : n ≤ 8) (h8 : I 48 8 = nI n) (hN : NXs I n tg) {A S : Nat} (hA : A < 256) (hS : S < 256) (P : Nat → Prop) (hP : ∀ x, x < n → S.testBit x = true → P x) (hstep : ∀ x y, x < n → y < n → P x → tg x y → A.testBit y = true → P y) (k8 : Int32 → Int32 → Int32 → Int32 → Option Int32) {x2 x5 : Int32} : ∃ S', f_X5_reaches_48_l20 I L k8 fuel x2 (nI A) (nI S) x5 0 = k8 x2 (nI A) (nI S') (x5 + 1) ∧ S' < 256 ∧ (∀ i, S.testBit i = true → S'.testBit i = true) ∧ (∀ x, x < n → S'.testBit x = true → P x) ∧ ∀ x y, x < n → S.testBit x = true → y < n → tg x y → A.testBit y = true → S'.testBit y = true := by
  obtain ⟨f', S', ⟨i1, i2, i3, i4⟩, hF⟩ := loop_inv (F := fun f k (S : Nat) => f_X5_reaches_48_l20 I L k8 f x2 (nI A) (nI S) x5 (nI k)) (n := n)
    (Inv := fun k S' => S' < 256 ∧ (∀ i, S.testBit i = true → S'.testBit i = true) ∧ (∀ x, x < n → S'.testBit x = true → P x) ∧ ∀ x y, x < k → S.testBit x = true → y < n → tg x y → A.testBit y = true → S'.testBit y = true)
    (fun f k S1 hk hI => by
      obtain ⟨i1, i2, i3, i4⟩ := hI
      obtain ⟨m, e, hm⟩ := hN k hk
      show ∃ S2, _ ∧ f_X5_reaches_48_l20 I L k8 (f + 1) x2 (nI A) (nI S1) x5 (nI k) = f_X5_reaches_48_l20 I L k8 f x2 (nI A) (nI S2) x5 (nI (k + 1))
      rw [f_X5_reaches_48_l20, h8, if_neg (by rw [le_nI (by omega) (by omega)]; omega), ck_nI (by omega) (by omega), c_nI (by omega), e, and_nI, or_nI]
      simp only [lt_eq, inc_nI]
      by_cases q : S1.testBit k = true
      · rw [if_neg (fun z => by rw [bit0 (by omega) (by omega), q] at z; cases z)]
        have mb : ∀ i, (S1 ||| (m &&& A)).testBit i = true ↔ S1.testBit i = true ∨ ((i < n ∧ tg k i) ∧ A.testBit i = true) := by
          intro i
          rw [Nat.testBit_or, Nat.testBit_and, Bool.or_eq_true, Bool.and_eq_true, hm.2 i]
        refine ⟨S1 ||| (m &&& A), ⟨Nat.or_lt_two_pow (n := 8) i1 (Nat.lt_of_le_of_lt Nat.and_le_left hm.1), fun i hi => (mb i).mpr (Or.inl (i2 i hi)), fun x hx z => ?_, fun x y hx hSx hy ht' hAy => ?_⟩, rfl⟩
        · rcases (mb x).mp z with w | w
          · exact i3 x hx w
          · exact hstep k x hk hx (i3 k hk q) w.1.2 w.2
        · by_cases e : x = k
          · subst e; exact (mb y).mpr (Or.inr ⟨⟨hy, ht'⟩, hAy⟩)
          · exact (mb y).mpr (Or.inl (i4 x y (by omega) hSx hy ht' hAy))
      · rw [if_pos (by rw [bit0 (by omega) (by omega)]; simpa using q)]
        refine ⟨S1, ⟨i1, i2, i3, fun x y hx hSx hy ht' hAy => ?_⟩, rfl⟩
        by_cases e : x = k
        · subst e; exact absurd (i2 x hSx) q
        · exact i4 x y (by omega) hSx hy ht' hAy)
    n 0 S fuel (by omega) ⟨hS, fun _ z => z, hP, fun x y hx => absurd hx (by omega)⟩ (fuel_gt (by omega))
  have hF' : f_X5_reaches_48_l20 I L k8 fuel x2 (nI A) (nI S) x5 0 = f_X5_reaches_48_l20 I L k8 (f' + 1) x2 (nI A) (nI S') x5 (nI n) := hF
  refine ⟨S', ?_, i1, i2, i3, i4⟩
  rw [hF', f_X5_reaches_48_l20, h8, if_pos (by rw [le_nI (by omega) (by omega)]; omega), lt_eq]
  rfl
theorem reach_eq {tg : Nat → Nat → Prop} (hn : n ≤ 8) (h8 : I 48 8 = nI n) (hN : NXs I n tg) {A p : Nat} (hA : A < 256) (hp : p < n) (ht : t < n) : ∃ r, f_X5_reaches_48 I L (nI p) (nI t) (nI A) = some r ∧ ((r = 1 ∧ Rc n t tg A p) ∨ (r = 0 ∧ ¬ Rc n t tg A p)) := by
  unfold f_X5_reaches_48
  rw [lt_eq, shl_nI (by omega)]
  obtain ⟨f', S, ⟨i1, i2, i3, i4⟩, hF⟩ := loop_inv (F := fun f k (S : Nat) => f_X5_reaches_48_l8 I L f (nI t) (nI A) (nI S) (nI k)) (n := n)
    (Inv := fun k S => S < 256 ∧ S.testBit p = true ∧ (∀ x, x < n → S.testBit x = true → Rc n t tg A x → Rc n t tg A p) ∧ ((∀ x y, x < n → S.testBit x = true → y < n → tg x y → A.testBit y = true → S.testBit y = true) ∨ k + 1 ≤ cb S n))
    (fun f k S hk hI => by
      obtain ⟨i1, i2, i3, i4⟩ := hI
      obtain ⟨S', s1, s2, s3, s4, s5⟩ := reach_b (I := I) (L := L) (x2 := nI t) (x5 := nI k) hn h8 hN hA i1 (fun x => (Rc n t tg A x → Rc n t tg A p) ∧ ((∀ x y, x < n → S.testBit x = true → y < n → tg x y → A.testBit y = true → S.testBit y = true) → S.testBit x = true)) (fun x hx z => ⟨i3 x hx z, fun _ => z⟩) (fun x y hx hy hPx htg hAy => ⟨fun ⟨j, hj⟩ => hPx.1 ⟨j + 1, Or.inr ⟨y, hy, hAy, htg, hj⟩⟩, fun cl => cl x y hx (hPx.2 cl) hy htg hAy⟩) (f_X5_reaches_48_l8 I L f)
      refine ⟨S', ⟨s2, s3 p i2, fun x hx z => (s4 x hx z).1, ?_⟩, ?_⟩
      · by_cases cl : ∀ x y, x < n → S.testBit x = true → y < n → tg x y → A.testBit y = true → S.testBit y = true
        · have same : ∀ x, x < n → S'.testBit x = true → S.testBit x = true := by
            intro x hx z
            exact (s4 x hx z).2 cl
          left
          intro x y hx hSx hy htg hAy
          exact s3 y (cl x y hx (same x hx hSx) hy htg hAy)
        · right
          have ge : k + 1 ≤ cb S n := by
            rcases i4 with z | z
            · exact absurd z cl
            · exact z
          have : ∃ y, y < n ∧ S'.testBit y = true ∧ ¬ S.testBit y = true := by
            apply Classical.byContradiction
            intro z
            apply cl
            intro x y hx hSx hy htg hAy
            apply Classical.byContradiction
            intro w
            exact z ⟨y, hy, s5 x y hx hSx hy htg hAy, w⟩
          obtain ⟨y, y1, y2, y3⟩ := this
          have := cb_lt_n (fun i _ hi => s3 i hi) y1 y2 y3
          omega
      · show f_X5_reaches_48_l8 I L (f + 1) (nI t) (nI A) (nI S) (nI k) = _
        rw [f_X5_reaches_48_l8, h8, if_neg (by rw [le_nI (by omega) (by omega)]; omega), s1]
        show f_X5_reaches_48_l8 I L f (nI t) (nI A) (nI S') (nI k + 1) = _
        rw [show nI k + 1 = nI (k + 1) from n_add k 1])
    n 0 (2 ^ p) fuel (by omega) ⟨Nat.lt_of_lt_of_le (Nat.pow_lt_pow_right (by omega) (show p < 8 by omega)) (by omega), Nat.testBit_two_pow_self, fun x hx z hr => by
      rw [Nat.testBit_two_pow, decide_eq_true_eq] at z
      rw [z]; exact hr, Or.inr (by
      have := cb_lt_n (a := 0) (m := 2 ^ p) (n := n) (x := p) (fun i _ hi => by rw [Nat.zero_testBit] at hi; cases hi) hp Nat.testBit_two_pow_self (by rw [Nat.zero_testBit]; simp)
      omega)⟩ (fuel_gt (by omega))
  have hF' : f_X5_reaches_48_l8 I L fuel (nI t) (nI A) (nI (2 ^ p)) 0 = f_X5_reaches_48_l8 I L (f' + 1) (nI t) (nI A) (nI S) (nI n) := hF
  have closed : ∀ x y, x < n → S.testBit x = true → y < n → tg x y → A.testBit y = true → S.testBit y = true := by
    rcases i4 with z | z
    · exact z
    · have := cb_le S n; omega
  have iff : S.testBit t = true ↔ Rc n t tg A p := by
    constructor
    · intro z; exact i3 t ht z ⟨0, rfl⟩
    · rintro ⟨k, hk⟩
      have key : ∀ k x, x < n → S.testBit x = true → Wk n t tg k A x → S.testBit t = true := by
        intro k
        induction k with
        | zero => intro x hx hS h; have h' : x = t := h; rw [← h']; exact hS
        | succ k ih =>
          intro x hx hS h
          rcases h with h | ⟨y, h1, h2, h3, h4⟩
          · rw [← h]; exact hS
          · exact ih y h1 (closed x y hx hS h1 h3 h2) h4
      exact key k p hp i2 hk
  rw [hF', f_X5_reaches_48_l8, h8, if_pos (by rw [le_nI (by omega) (by omega)]; omega)]
  by_cases q : S.testBit t = true
  · exact ⟨1, by rw [if_neg (fun z => by rw [bit0 (by omega) (by omega), q] at z; cases z)], Or.inl ⟨rfl, iff.mp q⟩⟩
  · exact ⟨0, by rw [if_pos (by rw [bit0 (by omega) (by omega)]; simpa using q)], Or.inr ⟨rfl, fun z => q (iff.mpr z)⟩⟩
/-- the first step -/
theorem first_eq {tg : Nat → Nat → Prop} (hn : n ≤ 8) (h8 : I 48 8 = nI n) (hN : NXs I n tg) {A a : Nat} (hA : A < 256) (ha : a < n) (ht : t < n) {p : Nat} (hp : LG n t tg A a p) : f_X5_firstStep_48 I L (nI a) (nI t) (nI A) = some (nI p) := by
  obtain ⟨m, e, hm⟩ := hN a ha
  have ml := Nat.lt_of_le_of_lt (Nat.and_le_left (n := m) (m := A)) hm.1
  unfold f_X5_firstStep_48
  rw [ck_nI (by omega) (by omega), c_nI (by omega), e, and_nI, lt_eq]
  have pn := hp.1.1
  have key : ∀ (d k f : Nat), k + d = p → d < f → f_X5_firstStep_48_l13 I L f (nI t) (nI A) (nI (m &&& A)) (nI k) = some (nI p) := by
    intro d
    induction d with
    | zero =>
      intro k f hk hf
      obtain ⟨f, rfl⟩ : ∃ j, f = j + 1 := ⟨f - 1, by omega⟩
      have : k = p := by omega
      subst this
      have hb : (m &&& A).testBit k = true := by rw [Nat.testBit_and, (hm.2 k).mpr ⟨pn, hp.1.2.2.1⟩, hp.1.2.1]; rfl
      obtain ⟨r, r1, r2⟩ := reach_eq (I := I) (L := L) hn h8 hN hA pn ht
      rw [f_X5_firstStep_48_l13, h8, if_neg (by rw [le_nI (by omega) (by omega)]; omega), if_neg (fun z => by rw [bit0 (by omega) (by omega), hb] at z; cases z), r1, Option.bind_some]
      rcases r2 with ⟨rfl, -⟩ | ⟨-, z⟩
      · rw [if_neg (by decide)]
      · exact absurd hp.1.2.2.2 z
    | succ d ih =>
      intro k f hk hf
      obtain ⟨f, rfl⟩ : ∃ j, f = j + 1 := ⟨f - 1, by omega⟩
      have kn : k < n := by omega
      have ih' := ih (k + 1) f (by omega) (by omega)
      obtain ⟨r, r1, r2⟩ := reach_eq (I := I) (L := L) hn h8 hN hA kn ht
      rw [f_X5_firstStep_48_l13, h8, if_neg (by rw [le_nI (by omega) (by omega)]; omega), r1, Option.bind_some, lt_eq, inc_nI]
      by_cases hb : (m &&& A).testBit k = true
      · rw [if_neg (fun z => by rw [bit0 (by omega) (by omega), hb] at z; cases z)]
        have hb' := hb
        rw [Nat.testBit_and, Bool.and_eq_true, hm.2 k] at hb'
        rcases r2 with ⟨-, z⟩ | ⟨rfl, -⟩
        · exact absurd ⟨hb'.2, hb'.1.2, z⟩ (hp.2 k (by omega))
        · rw [if_pos rfl]; exact ih'
      · rw [if_pos (by rw [bit0 (by omega) (by omega)]; simpa using hb)]; exact ih'
  exact key p 0 fuel (by omega) (fuel_gt (by omega))
theorem trace_eq (h : RT I n B c lg T W) (hB : RB n B c lg T W) (hD : FW n n (oO B W) (eE T) (wc c lg T W) D) {s : Nat} (hs : s < n) (ht : t < n) : ∃ J, (∀ k, k < 48 ∨ 66 < k → J k = I k) ∧ ((¬ D s t < 100000000 ∧ f_X5_trace_48 I L (nI s) (nI t) = some (0, J, L)) ∨ (D s t < 100000000 ∧ f_X5_trace_48 I L (nI s) (nI t) = some (1, J, L) ∧ J 50 (s * 8 + t) = nI (D s t) ∧ ∃ l, l < n ∧ J 48 7 = nI (l + 1) ∧ (gq n t (tG c lg T W D t) s l).1 = t ∧ (∀ j, j < l → (gq n t (tG c lg T W D t) s j).1 ≠ t) ∧ ∀ j, j ≤ l → J 54 j = nI (gq n t (tG c lg T W D t) s j).1)) := by
  have b1 := hB.1
  have p8 : 2 ^ n ≤ 2 ^ 8 := Nat.pow_le_pow_right (by omega) b1
  have p0 : 0 < 2 ^ n := Nat.two_pow_pos n
  have d0 := hD.1 s t hs ht
  obtain ⟨J1, s1, s2, s3, s4⟩ := spreadAll_eq (L := L) h hB hD
  have h1 : TR J1 n B c lg T W D := by
    obtain ⟨g1, g2, g3, g4, g5, g6⟩ := h
    exact ⟨⟨by rw [s3 8 (by omega)]; exact g1, by rw [s3 9 (by omega)]; exact g2, by rw [s3 10 (by omega)]; exact g3, by rw [s3 11 (by omega)]; exact g4, fun a b ha hb => by rw [s2 49 (by omega) (by omega) (by omega)]; exact g5 a b ha hb, fun a ha => by rw [s2 51 (by omega) (by omega) (by omega)]; exact g6 a ha⟩, s4⟩
  have cl : cF (D s t) ≤ 536870912 := by unfold cF; split <;> omega
  unfold f_X5_trace_48
  rw [s1, bndV_some, show nI s * 8 = nI (s * 8) from n_mul s 8, n_add, ck_nI (by omega) (by omega), c_nI (by omega), s4 s t hs ht, show (536870912 : Int32) = nI 536870912 from rfl]
  by_cases q : D s t < 100000000
  · have e1 : cF (D s t) = D s t := by unfold cF; rw [if_pos q]
    obtain ⟨J2, n1, n2, n3⟩ := next_eq (L := L) h1 hB hD ht
    rw [if_pos (by rw [e1, lt_nI (by omega) (by omega)]; omega), n1, bndV_some, lt_eq, lt_eq, cl0]
    have e8 : J2 48 8 = nI n := by rw [n2 48 (by omega)]; exact h1.1.1
    have h0 : Rc n t (tG c lg T W D t) (2 ^ n - 1) s := tight_rc hD b1 hs ht q (wc_ok hB)
    have e8' : uI (uI J2 54 0 (nI s)) 48 7 1 48 8 = nI n := by rw [uI_at, if_neg (by omega), uI_cell (by omega)]; exact e8
    have ea : nI (2 ^ n) - 1 = nI (2 ^ n - 1) := by
      obtain ⟨j, ej⟩ : ∃ j, 2 ^ n = j + 1 := ⟨2 ^ n - 1, by omega⟩
      rw [ej, nI_pred, Nat.add_sub_cancel]
    rw [e8', shl_nI (by omega), shl_nI (by omega), ea, wo_nI, lt_eq]
    obtain ⟨l, l1, l2, l3⟩ := gq_end b1 hs h0
    have key : ∀ (d k f : Nat) (K : mI), k + d = l → d < f → (∀ c, c ≠ 48 → c ≠ 54 → K c = J2 c) → (∀ j, 8 ≤ j → K 48 j = J2 48 j) → K 48 7 = nI (k + 1) → (∀ j, j ≤ k → K 54 j = nI (gq n t (tG c lg T W D t) s j).1) → ∃ J, f_X5_trace_48_l60 f (nI t) (nI (gq n t (tG c lg T W D t) s k).2) (nI (gq n t (tG c lg T W D t) s k).1) (nI (k + 1)) K L = some (1, J, L) ∧ (∀ c, c ≠ 48 → c ≠ 54 → J c = J2 c) ∧ J 48 7 = nI (l + 1) ∧ ∀ j, j ≤ l → J 54 j = nI (gq n t (tG c lg T W D t) s j).1 := by
      intro d
      induction d with
      | zero =>
        intro k f K hk hf k1 k2 k3 k4
        obtain ⟨f, rfl⟩ : ∃ j, f = j + 1 := ⟨f - 1, by omega⟩
        have : k = l := by omega
        subst this
        refine ⟨K, ?_, k1, k3, k4⟩
        rw [f_X5_trace_48_l60, l2]
        simp only [if_true]
        split <;> rfl
      | succ d ih =>
        intro k f K hk hf k1 k2 k3 k4
        obtain ⟨f, rfl⟩ : ∃ j, f = j + 1 := ⟨f - 1, by omega⟩
        obtain ⟨o1, o2, o3, o4⟩ := gq_ok b1 hs h0 k (fun j hj => l3 j (by omega))
        have hne := l3 k (by omega)
        have lg' := gq_lg o1 hne
        have hNK : NXs K n (tG c lg T W D t) := fun a ha => by
          obtain ⟨m, m1, m2⟩ := n3 a ha
          exact ⟨m, by rw [k1 53 (by omega) (by omega)]; exact m1, m2⟩
        have k8 : K 48 8 = nI n := by rw [k2 8 (by omega)]; exact e8
        have pn := lg'.1.1
        rw [f_X5_trace_48_l60, k8, if_neg (by rw [le_nI (by omega) (by omega)]; omega), if_neg (fun z => hne ((eq_nI (by omega) (by omega)).mp z)), first_eq b1 k8 hNK o3 o2 ht lg', Option.bind_some, if_pos (ge0_nI (by omega)), shl_nI (by omega), wo_nI, lt_eq, ck_nI (by omega) (by omega), lt_eq, lt_eq, lt_eq, inc_nI, c_nI (by omega), show nI (k + 1) + 1 = nI (k + 1 + 1) from n_add _ 1, ← gq_2]
        refine ih (k + 1) f _ (by omega) (by omega) (fun c p q => by rw [uI_cell p, uI_cell q]; exact k1 c p q) (fun j hj => by rw [uI_at, if_neg (by omega), uI_cell (by omega)]; exact k2 j hj) (uI_same _ _ _ _) (fun j hj => ?_)
        rw [uI_cell (by omega), uI_at]
        by_cases e : j = k + 1
        · rw [if_pos ⟨rfl, e⟩, e]
        · rw [if_neg (fun z => e z.2)]; exact k4 j (by omega)
    obtain ⟨J, r1, r2, r3, r4⟩ := key l 0 fuel (uI (uI J2 54 0 (nI s)) 48 7 1) (by omega) (fuel_gt (by omega)) (fun c p q => by rw [uI_cell p, uI_cell q]) (fun j hj => by rw [uI_at, if_neg (by omega), uI_cell (by omega)]) (by rw [uI_same]; rfl) (fun j hj => by
      have : j = 0 := by omega
      subst this
      rw [uI_cell (by omega), uI_same]; rfl)
    refine ⟨J, fun k hk => by rw [r2 k (by omega) (by omega), n2 k (by omega), s2 k (by omega) (by omega) (by omega)], Or.inr ⟨q, r1, by rw [r2 50 (by omega) (by omega), n2 50 (by omega), s4 s t hs ht, e1], l, l1, r3, l2, l3, r4⟩⟩
  · have e1 : cF (D s t) = 536870912 := by unfold cF; rw [if_neg q]
    rw [e1, if_neg (by rw [lt_nI (by omega) (by omega)]; omega)]
    exact ⟨J1, fun k hk => s2 k (by omega) (by omega) (by omega), Or.inl ⟨q, rfl⟩⟩
end Trace
