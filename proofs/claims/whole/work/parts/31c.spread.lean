/-! how many of a mask -/
def cb (m : Nat) : Nat → Nat
  | 0 => 0
  | n + 1 => cb m n + (if m.testBit n = true then 1 else 0)
theorem cb_le (m : Nat) : ∀ n, cb m n ≤ n := by
  intro n
  induction n with
  | zero => exact Nat.le_refl 0
  | succ n ih => show cb m n + (if m.testBit n = true then 1 else 0) ≤ n + 1; split <;> omega
theorem cb_zero {m : Nat} : ∀ n, cb m n = 0 → ∀ b, b < n → ¬ m.testBit b = true := by
  intro n
  induction n with
  | zero => intro _ b hb; omega
  | succ n ih =>
    intro h b hb q
    have h' : cb m n + (if m.testBit n = true then 1 else 0) = 0 := h
    by_cases e : b = n
    · subst e; rw [if_pos q] at h'; omega
    · exact ih (by omega) b (by omega) q
theorem cb_wo {m p : Nat} (hp : m.testBit p = true) : ∀ n, n ≤ 32 → cb (mwo m (2 ^ p)) n + (if p < n then 1 else 0) = cb m n := by
  intro n
  induction n with
  | zero => intro _; rfl
  | succ n ih =>
    intro hn
    have := ih (by omega)
    show (cb (mwo m (2 ^ p)) n + (if (mwo m (2 ^ p)).testBit n = true then 1 else 0)) + (if p < n + 1 then 1 else 0) = cb m n + (if m.testBit n = true then 1 else 0)
    rw [mwo_bit (by omega), Nat.testBit_two_pow]
    by_cases e : p = n
    · subst e
      rw [if_neg (by omega)] at this
      simp [hp]; omega
    · by_cases q : p < n
      · rw [if_pos q] at this
        rw [if_pos (show p < n + 1 by omega)]
        simp [e]; omega
      · rw [if_neg q] at this
        rw [if_neg (show ¬ p < n + 1 by omega)]
        simp [e]; omega
section Spread
variable {I J : mI} {L : mL} {n B c lg : Nat} {T : Nat → Nat → Nat} {W : Nat → Nat}
theorem fill52_eq : ∃ J, f_J7_fill_53178_52 I L 536870912 = some (J, L) ∧ (∀ k, k ≠ 52 → J k = I k) ∧ ∀ b, b < 8 → J 52 b = nI 536870912 := by
  unfold f_J7_fill_53178_52
  obtain ⟨m', J, ⟨i1, i2⟩, hF⟩ := loop_inv (F := fun f k (J : mI) => f_J7_fill_53178_52_l5 f 536870912 (nI k) 8 J L) (n := 8)
    (Inv := fun k J => (∀ c, c ≠ 52 → J c = I c) ∧ ∀ b, b < k → J 52 b = nI 536870912)
    (fun f k J hk hI => by
      refine ⟨uI J 52 k (nI 536870912), ⟨fun c hc => by rw [uI_cell hc]; exact hI.1 c hc, fun b hb => ?_⟩, ?_⟩
      · rw [uI_at]
        by_cases e : b = k
        · rw [if_pos ⟨rfl, e⟩]
        · rw [if_neg (fun z => e z.2)]; exact hI.2 b (by omega)
      · show f_J7_fill_53178_52_l5 (f + 1) 536870912 (nI k) 8 J L = _
        rw [f_J7_fill_53178_52_l5]
        simp (disch := omega) only [ck_nI, c_nI, le_n, lt_n, eq_n, lt_eq, Option.bind_some, bndI_some, bndV_some, bndL_some, inc_nI, nI_1, n_add, n_mul, orz, addz, q0, q2, q3, q4, q5, q6, q7, q8, q9, q10, q13, q14, q15, q20, q24, q46, q48, q61, q76, q91, q95, q99, q100, q105, q111, q117, q123, q129, eq1, le1, ge1, lt1, gt1, cl1, show ¬ 8 ≤ k by omega, if_false]
        rfl)
    8 0 I fuel (by omega) ⟨fun _ _ => rfl, fun b hb => absurd hb (by omega)⟩ (fuel_gt (by omega))
  have hF' : f_J7_fill_53178_52_l5 fuel 536870912 0 8 I L = f_J7_fill_53178_52_l5 (m' + 1) 536870912 (nI 8) 8 J L := hF
  refine ⟨J, ?_, i1, i2⟩
  rw [hF', f_J7_fill_53178_52_l5, if_pos (by decide)]
theorem start_eq (h : RT I n B c lg T W) (hB : RB n B c lg T W) {s : Nat} (hs : s < n) : ∃ J m, f_X5_start_48 I L (nI s) = some (J, L) ∧ RF I J ∧ J 48 12 = nI m ∧ m < 256 ∧ (∀ b, b < n → (m.testBit b = true ↔ W b ≤ B)) ∧ ∀ b, b < n → J 52 b = nI (if W s ≤ B ∧ b = s then 0 else 536870912) := by
  have b1 := hB.1
  have hBB := hB.2.1
  have hWs := hB.2.2.2.2.2 s hs
  obtain ⟨J0, f1, f2, f3⟩ := fill52_eq (I := I) (L := L)
  unfold f_X5_start_48
  rw [f1, bndV_some, lt_eq]
  have r0 : RF I (uI J0 48 12 0) := by
    have : RF I J0 := ⟨fun k _ b => f2 k b, fun j _ => by rw [f2 48 (by omega)]⟩
    exact this.u48 (by omega) _
  obtain ⟨m', J, ⟨i1, ⟨m, i2, i3, i4⟩, i5⟩, hF⟩ := loop_inv (F := fun f k (J : mI) => f_X5_start_48_l16 f (nI s) (nI k) J L) (n := n)
    (Inv := fun k J => RF I J ∧ (∃ m, J 48 12 = nI m ∧ m < 256 ∧ ∀ b, (m.testBit b = true ↔ b < k ∧ W b ≤ B)) ∧ ∀ b, b < 8 → J 52 b = nI 536870912)
    (fun f k J hk hI => by
      obtain ⟨i1, ⟨m, i2, i3, i4⟩, i5⟩ := hI
      have hJ := h.frame i1
      have hWk := hB.2.2.2.2.2 k hk
      have e : f_X5_start_48_l16 (f + 1) (nI s) (nI k) J L = if B < W k then f_X5_start_48_l16 f (nI s) (nI (k + 1)) J L else f_X5_start_48_l16 f (nI s) (nI (k + 1)) (uI J 48 12 (nI (m ||| 2 ^ k))) L := by
        rw [f_X5_start_48_l16, hJ.1, hJ.2.1, i2, shl_nI (by omega), or_nI]
        simp (disch := omega) only [ck_nI, c_nI, le_n, lt_n, eq_n, lt_eq, Option.bind_some, bndI_some, bndV_some, bndL_some, inc_nI, nI_1, n_add, n_mul, orz, addz, q0, q2, q3, q4, q5, q6, q7, q8, q9, q10, q13, q14, q15, q20, q24, q46, q48, q61, q76, q91, q95, q99, q100, q105, q111, q117, q123, q129, eq1, le1, ge1, lt1, gt1, cl1, hJ.2.2.2.2.2 k hk, show ¬ n ≤ k by omega, if_false]
      show ∃ J', _ ∧ f_X5_start_48_l16 (f + 1) (nI s) (nI k) J L = _
      rw [e]
      by_cases q : B < W k
      · refine ⟨J, ⟨i1, ⟨m, i2, i3, fun b => ?_⟩, i5⟩, by rw [if_pos q]⟩
        rw [i4 b]
        constructor
        · intro z; exact ⟨by omega, z.2⟩
        · intro z
          have : b ≠ k := fun y => by subst y; omega
          exact ⟨by omega, z.2⟩
      · refine ⟨uI J 48 12 (nI (m ||| 2 ^ k)), ⟨i1.u48 (by omega) _, ⟨m ||| 2 ^ k, uI_same _ _ _ _, or_lt (n := 8) i3 (by omega), fun b => ?_⟩, fun b hb => by rw [uI_cell (by omega)]; exact i5 b hb⟩, by rw [if_neg q]⟩
        rw [or_bit, Bool.or_eq_true, decide_eq_true_eq, i4 b]
        constructor
        · rintro (z | z)
          · exact ⟨by omega, z.2⟩
          · subst z; exact ⟨by omega, by omega⟩
        · intro z
          by_cases y : k = b
          · exact Or.inr y
          · exact Or.inl ⟨by omega, z.2⟩)
    n 0 (uI J0 48 12 0) fuel (by omega) ⟨r0, ⟨0, uI_same _ _ _ _, by omega, fun b => by rw [Nat.zero_testBit]; exact ⟨fun z => (by cases z), fun z => absurd z.1 (by omega)⟩⟩, fun b hb => by rw [uI_cell (by omega)]; exact f3 b hb⟩ (fuel_gt (by omega))
  have hF' : f_X5_start_48_l16 fuel (nI s) 0 (uI J0 48 12 0) L = f_X5_start_48_l16 (m' + 1) (nI s) (nI n) J L := hF
  have hJ := h.frame i1
  have e : f_X5_start_48_l16 (m' + 1) (nI s) (nI n) J L = if B < W s then some (J, L) else some (uI J 52 s 0, L) := by
    rw [f_X5_start_48_l16, hJ.1, hJ.2.1]
    simp (disch := omega) only [ck_nI, c_nI, le_n, lt_n, eq_n, lt_eq, Option.bind_some, bndI_some, bndV_some, bndL_some, inc_nI, nI_1, n_add, n_mul, orz, addz, q0, q2, q3, q4, q5, q6, q7, q8, q9, q10, q13, q14, q15, q20, q24, q46, q48, q61, q76, q91, q95, q99, q100, q105, q111, q117, q123, q129, eq1, le1, ge1, lt1, gt1, cl1, hJ.2.2.2.2.2 s hs, show n ≤ n by omega, if_true]
  rw [hF', e]
  by_cases q : B < W s
  · refine ⟨J, m, by rw [if_pos q], i1, i2, i3, fun b hb => by rw [i4 b]; exact ⟨fun z => z.2, fun z => ⟨hb, z⟩⟩, fun b hb => ?_⟩
    rw [if_neg (by omega), i5 b (by omega)]
  · refine ⟨uI J 52 s 0, m, by rw [if_neg q], i1.u52 _ _, by rw [uI_cell (by omega)]; exact i2, i3, fun b hb => by rw [i4 b]; exact ⟨fun z => z.2, fun z => ⟨hb, z⟩⟩, fun b hb => ?_⟩
    rw [uI_at]
    by_cases z : b = s
    · rw [if_pos ⟨rfl, z⟩, if_pos ⟨by omega, z⟩]; rfl
    · rw [if_neg (fun y => z y.2), if_neg (fun y => z y.2), i5 b (by omega)]
/-- what is open, what an edge is -/
abbrev oO (B : Nat) (W : Nat → Nat) (a : Nat) : Prop := W a ≤ B
abbrev eE (T : Nat → Nat → Nat) (a b : Nat) : Prop := T a b ≠ 0
/-- the row from s on, as the class holds it -/
def RS (I : mI) (n B c lg : Nat) (T : Nat → Nat → Nat) (W : Nat → Nat) (s m : Nat) (C : Nat → Nat) : Prop := RT I n B c lg T W ∧ I 48 12 = nI m ∧ m < 256 ∧ (∀ b, b < n → I 52 b = nI (C b)) ∧ DJ n (oO B W) (eE T) (wc c lg T W) s (fun b => m.testBit b = true) C
theorem start_rs (h : RT I n B c lg T W) (hB : RB n B c lg T W) {s : Nat} (hs : s < n) : ∃ J m C, f_X5_start_48 I L (nI s) = some (J, L) ∧ RF I J ∧ RS J n B c lg T W s m C ∧ ∀ b, b < n → W b ≤ B → m.testBit b = true := by
  obtain ⟨J, m, h1, h2, h3, h4, h5, h6⟩ := start_eq (L := L) h hB hs
  refine ⟨J, m, fun b => if W s ≤ B ∧ b = s then 0 else 536870912, h1, h2, ⟨h.frame h2, h3, h4, h6, ?_⟩, fun b hb q => (h5 b hb).mpr q⟩
  refine DJ.start (fun q => ?_) (fun b hb q => ?_) h5
  · show (if W s ≤ B ∧ s = s then 0 else 536870912) = 0
    rw [if_pos ⟨q, rfl⟩]
  · show (if W s ≤ B ∧ b = s then 0 else 536870912) = 536870912
    rw [if_neg q]
theorem leave_rs {s m p : Nat} {C : Nat → Nat} (h : RS I n B c lg T W s m C) (hB : RB n B c lg T W) (hs : s < n) (hp : p < n) (hop : m.testBit p = true) (hmin : ∀ b, b < n → m.testBit b = true → C p ≤ C b) : ∃ J C', f_X5_leave_48 I L (nI p) = some (J, L) ∧ RF I J ∧ J 48 13 = I 48 13 ∧ RS J n B c lg T W s (mwo m (2 ^ p)) C' ∧ cb (mwo m (2 ^ p)) n + 1 = cb m n ∧ ∀ b, b < n → (mwo m (2 ^ p)).testBit b = (m.testBit b && decide (b ≠ p)) := by
  obtain ⟨h1, h2, h3, h4, h5⟩ := h
  have b1 := hB.1
  obtain ⟨J, j1, j2, j3, j4, j5⟩ := leave_eq (L := L) h1 hB h2 h3 h4 h5.1 hp
  have hbit : ∀ b, b < n → (mwo m (2 ^ p)).testBit b = (m.testBit b && decide (b ≠ p)) := by
    intro b hb
    rw [mwo_bit (by omega), Nat.testBit_two_pow]
    by_cases e : p = b
    · subst e; simp
    · simp [e, Ne.symm e]
  have hcb := cb_wo hop n (by omega)
  rw [if_pos hp] at hcb
  refine ⟨J, _, j1, j2, ?_, ⟨h1.frame j2, j3, Nat.lt_of_le_of_lt (mwo_le _ _) h3, j4, ?_⟩, hcb, hbit⟩
  · exact j5 13 (by omega)
  · refine h5.step hs hp hop hmin (fun b hb => ?_) (fun b hb => ?_)
    · show (mwo m (2 ^ p)).testBit b = true ↔ m.testBit b = true ∧ b ≠ p
      rw [hbit b hb]; simp
    · unfold Cn
      by_cases q : (mwo m (2 ^ p)).testBit b = true ∧ T p b ≠ 0
      · exact Or.inl ⟨q.1, q.2, by rw [if_pos q]⟩
      · exact Or.inr ⟨q, by rw [if_neg q]⟩
/-- the least costs from s on -/
theorem spread_eq (h : RT I n B c lg T W) (hB : RB n B c lg T W) {s : Nat} (hs : s < n) {D : Nat → Nat → Nat} (hD : FW n n (oO B W) (eE T) (wc c lg T W) D) : ∃ J, f_X5_spread_48 I L (nI s) = some (J, L) ∧ RF I J ∧ ∀ b, b < n → J 52 b = nI (if D s b < 100000000 then D s b else 536870912) := by
  have b1 := hB.1
  obtain ⟨J0, m0, C0, s1, s2, s3, -⟩ := start_rs (L := L) h hB hs
  unfold f_X5_spread_48
  rw [s1, bndV_some]
  have key : ∀ (d k f : Nat) (J : mI) (m : Nat) (C : Nat → Nat), k + d = n → d < f → cb m n ≤ d → RF I J → RS J n B c lg T W s m C → ∃ J', f_X5_spread_48_l7 f (nI k) J L = some (J', L) ∧ RF I J' ∧ ∀ b, b < n → J' 52 b = nI (if D s b < 100000000 then D s b else 536870912) := by
    intro d
    induction d with
    | zero =>
      intro k f J m C hk hf hcb hRF hRS
      obtain ⟨f, rfl⟩ : ∃ j, f = j + 1 := ⟨f - 1, by omega⟩
      obtain ⟨g1, g2, g3, g4, g5⟩ := hRS
      refine ⟨J, ?_, hRF, fun b hb => ?_⟩
      · rw [f_X5_spread_48_l7, g1.1, if_pos (by rw [le_nI (by omega) (by omega)]; omega)]
      · rw [g4 b hb, g5.done (wc_ok hB) hD b1 hs (fun x hx q => absurd q (cb_zero n (by omega) x hx)) b hb]
    | succ d ih =>
      intro k f J m C hk hf hcb hRF hRS
      obtain ⟨f, rfl⟩ : ∃ j, f = j + 1 := ⟨f - 1, by omega⟩
      obtain ⟨g1, g2, g3, g4, g5⟩ := id hRS
      have e : f_X5_spread_48_l7 (f + 1) (nI k) J L = ((f_X5_nearest_48 J L).bind (fun r3 => if 0 ≤ r3 then (bndV (f_X5_leave_48 J L r3) (fun Ir4 Lr4 => f_X5_spread_48_l7 f (nI (k + 1)) Ir4 Lr4)) else (some (J, L)))) := by
        rw [f_X5_spread_48_l7, g1.1]
        simp (disch := omega) only [ck_nI, c_nI, le_n, lt_n, eq_n, lt_eq, Option.bind_some, bndI_some, bndV_some, bndL_some, inc_nI, nI_1, n_add, n_mul, orz, addz, q0, q2, q3, q4, q5, q6, q7, q8, q9, q10, q13, q14, q15, q20, q24, q46, q48, q61, q76, q91, q95, q99, q100, q105, q111, q117, q123, q129, eq1, le1, ge1, lt1, gt1, cl1, show ¬ n ≤ k by omega, if_false]
        rfl
      rw [e]
      obtain ⟨r, r1, r2⟩ := nearest_eq (L := L) g1 hB g2 g3 g4 g5.1
      rw [r1, Option.bind_some]
      rcases r2 with ⟨rfl, r3⟩ | ⟨p, hp, rfl, r3, r4, r5⟩
      · refine ⟨J, by rw [if_neg (by decide)], hRF, fun b hb => ?_⟩
        rw [g4 b hb, g5.done (wc_ok hB) hD b1 hs r3 b hb]
      · rw [if_pos (ge0_nI (by omega))]
        obtain ⟨J', C', l1, l2, -, l3, l4, -⟩ := leave_rs (L := L) hRS hB hs hp r3 r5
        rw [l1, bndV_some]
        exact ih (k + 1) f J' _ C' (by omega) (by omega) (by omega) (hRF.trans l2) l3
  exact key n 0 fuel J0 m0 C0 (by omega) (fuel_gt (by omega)) (cb_le _ _) s2 s3
end Spread
