/-! parts, pure -/
section Mono
variable {v : mV}
theorem wc_mono {c lg lg' : Nat} {T : Nat → Nat → Nat} {W : Nat → Nat} (h : ∀ i, lg.testBit i = true → lg'.testBit i = true) (a b : Nat) : wc c lg' T W a b ≤ wc c lg T W a b := by
  unfold wc
  by_cases q : lg.testBit a = true ∧ lg.testBit b = true
  · rw [if_pos q, if_pos ⟨h a q.1, h b q.2⟩]; omega
  · rw [if_neg q]; split <;> omega
theorem nti_none {ca lg g : Nat} (e : mkv v ca lg g = none) : nti v ca lg g = nI 0 := by unfold nti; rw [e]
theorem nti_some {ca lg g p : Nat} (e : mkv v ca lg g = some p) : nti v ca lg g = nI (v (105 + g) * wV v p (v (99 + g))) - nI (DD v ca (v (99 + g)) lg (v (111 + g)) p) := by unfold nti; rw [e]
theorem ntv_le (hw : WF v) {ca lg g p : Nat} (hg : g < v 3) (hp : p < v 0) : ntv v ca lg g p ≤ 8910 := by
  have gb := hw.goodb g hg
  have h2 := wV_le hw hp (m := v (99 + g))
  have h3 : v (105 + g) * wV v p (v (99 + g)) ≤ 9 * 990 := Nat.mul_le_mul gb.2.1.2 (by omega)
  have e : ntv v ca lg g p = ((v (105 + g) * wV v p (v (99 + g)) : Nat) : Int) - (DD v ca (v (99 + g)) lg (v (111 + g)) p : Nat) := rfl
  omega
theorem nti_t (hw : WF v) {ca lg g : Nat} (hca : ca < v 2) (hg : g < v 3) (hlg : lg < 256) : -256000 ≤ (nti v ca lg g).toInt ∧ (nti v ca lg g).toInt ≤ 8910 := by
  cases e : mkv v ca lg g with
  | none => rw [nti_none e, t_nI (by omega)]; omega
  | some p =>
    have hp := mkv_lt e
    have n := net_t hw hca hg hlg hp.1 hp.2
    have := ntv_le hw (ca := ca) (lg := lg) hg hp.1
    rw [nti_some e, n.1]; omega
theorem nti_mono (hw : WF v) {ca lg lg' g : Nat} (hca : ca < v 2) (hg : g < v 3) (hlg : lg < 256) (hlg' : lg' < 256) (h : ∀ i, lg.testBit i = true → lg'.testBit i = true) : (nti v ca lg g).toInt ≤ (nti v ca lg' g).toInt := by
  have gb := hw.goodb g hg
  have F := DD_ok hw hca gb.1.2 hlg
  have F' := DD_ok hw hca gb.1.2 hlg'
  have le := FW.le F F' hw.1 (fun a b _ _ _ => wc_mono h a b)
  have hs := gb.2.2.1
  rcases mkf_spec (ntv v ca lg g) (DD v ca (v (99 + g)) lg (v (111 + g))) (v 0) with ⟨e, h1⟩ | ⟨p, e, h1⟩
  · have hO : ¬ wV v (v (111 + g)) (v (99 + g)) ≤ v (91 + ca) := fun q => h1 _ hs (by have := F.2.2.1 _ hs q; omega)
    have e' : mkv v ca lg' g = none := mkf_none (fun b hb q => by have := F'.2.1 (v (111 + g)) b hs hb (fun z => hO z.1); omega)
    rw [nti_none (show mkv v ca lg g = none from e), nti_none e']; omega
  · have hd := le (v (111 + g)) p hs h1.1
    have r1 : DD v ca (v (99 + g)) lg (v (111 + g)) p < 100000000 := h1.2.1
    rcases mkf_spec (ntv v ca lg' g) (DD v ca (v (99 + g)) lg' (v (111 + g))) (v 0) with ⟨e', h1'⟩ | ⟨p', e', h1'⟩
    · exact absurd (show DD v ca (v (99 + g)) lg' (v (111 + g)) p < 100000000 by omega) (h1' p h1.1)
    · have b := h1'.2.2 p h1.1 (show DD v ca (v (99 + g)) lg' (v (111 + g)) p < 100000000 by omega)
      rw [nti_some (show mkv v ca lg g = some p from e), nti_some (show mkv v ca lg' g = some p' from e'), (net_t hw hca hg hlg h1.1 r1).1, (net_t hw hca hg hlg' h1'.1 h1'.2.1).1]
      have x1 : ntv v ca lg g p = ((v (105 + g) * wV v p (v (99 + g)) : Nat) : Int) - (DD v ca (v (99 + g)) lg (v (111 + g)) p : Nat) := rfl
      have x2 : ntv v ca lg' g p = ((v (105 + g) * wV v p (v (99 + g)) : Nat) : Int) - (DD v ca (v (99 + g)) lg' (v (111 + g)) p : Nat) := rfl
      omega
theorem add_t {a b : Int32} (h1 : -2147483648 ≤ a.toInt + b.toInt) (h2 : a.toInt + b.toInt < 2147483648) : (a + b).toInt = a.toInt + b.toInt := by
  rw [Int32.toInt_add]; exact Int.bmod_eq_of_le (by omega) (by omega)
theorem subI_t {a b : Int32} (h1 : -2147483648 ≤ a.toInt - b.toInt) (h2 : a.toInt - b.toInt < 2147483648) : (a - b).toInt = a.toInt - b.toInt := by
  rw [Int32.toInt_sub]; exact Int.bmod_eq_of_le (by omega) (by omega)
theorem tot_t (hw : WF v) {ca lg : Nat} (hca : ca < v 2) (hlg : lg < 256) : ∀ k, k ≤ v 3 → -(256000 * (k : Int)) ≤ (tot v ca lg k).toInt ∧ (tot v ca lg k).toInt ≤ 8910 * (k : Int) := by
  have sz := hw.sz
  intro k
  induction k with
  | zero => intro _; show -(256000 * ((0 : Nat) : Int)) ≤ (nI 0).toInt ∧ (nI 0).toInt ≤ 8910 * ((0 : Nat) : Int); rw [t_nI (by omega)]; omega
  | succ k ih =>
    intro hk
    have i := ih (by omega)
    have n := nti_t hw hca (show k < v 3 by omega) hlg
    show -(256000 * ((k + 1 : Nat) : Int)) ≤ (tot v ca lg k + nti v ca lg k).toInt ∧ (tot v ca lg k + nti v ca lg k).toInt ≤ 8910 * ((k + 1 : Nat) : Int)
    rw [add_t (by omega) (by omega)]; omega
theorem tot_mono (hw : WF v) {ca lg lg' : Nat} (hca : ca < v 2) (hlg : lg < 256) (hlg' : lg' < 256) (h : ∀ i, lg.testBit i = true → lg'.testBit i = true) : ∀ k, k ≤ v 3 → (tot v ca lg k).toInt ≤ (tot v ca lg' k).toInt := by
  have sz := hw.sz
  intro k
  induction k with
  | zero => intro _; exact Int.le_refl _
  | succ k ih =>
    intro hk
    have i := ih (by omega)
    have n1 := nti_t hw hca (show k < v 3 by omega) hlg
    have n2 := nti_t hw hca (show k < v 3 by omega) hlg'
    have t1 := tot_t hw hca hlg k (by omega)
    have t2 := tot_t hw hca hlg' k (by omega)
    have m := nti_mono hw hca (show k < v 3 by omega) hlg hlg' h
    show (tot v ca lg k + nti v ca lg k).toInt ≤ (tot v ca lg' k + nti v ca lg' k).toInt
    rw [add_t (by omega) (by omega), add_t (by omega) (by omega)]; omega
/-- how much more by one more -/
noncomputable def df (v : mV) (ca p c : Nat) : Int32 := tot v ca (c ||| 2 ^ p) (v 3) - tot v ca c (v 3)
theorem df_t (hw : WF v) {ca p c : Nat} (hca : ca < v 2) (hp : p < 8) (hc : c < 256) : ∃ z : Nat, (df v ca p c).toInt = z ∧ z ≤ 1600000 := by
  have sz := hw.sz
  have hc' : c ||| 2 ^ p < 256 := or_lt (n := 8) hc hp
  have t1 := tot_t hw hca hc (v 3) (by omega)
  have t2 := tot_t hw hca hc' (v 3) (by omega)
  have m := tot_mono hw hca hc hc' (fun i hi => by rw [or_bit, hi]; rfl) (v 3) (by omega)
  have e : (df v ca p c).toInt = (tot v ca (c ||| 2 ^ p) (v 3)).toInt - (tot v ca c (v 3)).toInt := subI_t (by omega) (by omega)
  exact ⟨(df v ca p c).toInt.toNat, by omega, by omega⟩
end Mono
/-! longs -/
theorem l_mul {a b : Int64} {x y : Nat} (ha : a.toInt = x) (hb : b.toInt = y) (h : x * y < 9223372036854775808) : (a * b).toInt = (x * y : Nat) := by
  rw [Int64.toInt_mul, ha, hb, ← Int.natCast_mul]; exact Int.bmod_eq_of_le (by omega) (by omega)
theorem lo_add {a b : Int64} {x y : Nat} (ha : a.toInt = x) (hb : b.toInt = y) (h : x + y < 9223372036854775808) : (a + b).toInt = (x + y : Nat) := by
  rw [Int64.toInt_add, ha, hb, ← Int.natCast_add]; exact Int.bmod_eq_of_le (by omega) (by omega)
theorem l_div {a b : Int64} {x y : Nat} (ha : a.toInt = x) (hb : b.toInt = y) : (a / b).toInt = (x / y : Nat) := by
  have h1 : x / y ≤ x := Nat.div_le_self x y
  have h2 := Int64.toInt_lt a
  rw [Int64.toInt_div, ha, hb, ← Int.ofNat_tdiv]
  generalize x / y = q at *
  exact Int.bmod_eq_of_le (by omega) (by omega)
theorem l_mod {a b : Int64} {x y : Nat} (ha : a.toInt = x) (hb : b.toInt = y) : (a - a / b * b).toInt = (x % y : Nat) := by
  have h2 := Int64.toInt_lt a
  have h3 := Nat.div_mul_le_self x y
  have h4 : x / y * y + x % y = x := by rw [Nat.mul_comm]; exact Nat.div_add_mod x y
  have e := l_mul (l_div ha hb) hb (by omega)
  rw [Int64.toInt_sub, ha, e]
  rw [show (x : Int) - ((x / y * y : Nat) : Int) = ((x % y : Nat) : Int) by omega]
  exact Int.bmod_eq_of_le (by omega) (by omega)
theorem two_mod {y r : Nat} (h0 : 0 < r) (h : r < y) : 2 * (y % r) < y := by
  have h1 := Nat.div_add_mod y r
  have h2 := Nat.mod_lt y h0
  have h3 : r * 1 ≤ r * (y / r) := Nat.mul_le_mul_left r (Nat.div_pos (by omega) h0)
  omega
theorem gcd_step (x y : Nat) : Nat.gcd x y = Nat.gcd y (x % y) := by
  rw [Nat.gcd_comm x y, Nat.gcd_rec y x, Nat.gcd_comm]
theorem z64l (b : Int64) {y : Nat} (h : b.toInt = y) : lg_cmp b 0 = 0 ↔ y = 0 := by
  rw [lgc_eq, h, z64]; omega
theorem nzL_t {b : Int64} {y : Nat} (h : b.toInt = y) (h0 : y ≠ 0) : nzL b = true := by
  unfold nzL
  by_cases q : b = 0
  · rw [q, z64] at h; omega
  · simp [q]
/-- the class's common divisor -/
theorem cgcd {I : mI} {L : mL} : ∀ (j x y k f : Nat) (X Y : Int64), X.toInt = x → Y.toInt = y → y < 2 ^ j → k + 2 * j ≤ 100 → 2 * j < f → ∃ G : Int64, f_X4_commonDivisor_l9 I L f X Y (nI k) = some G ∧ G.toInt = (Nat.gcd x y : Nat) := by
  have stop : ∀ (x k f : Nat) (X Y : Int64), X.toInt = x → Y.toInt = (0 : Nat) → ∃ G : Int64, f_X4_commonDivisor_l9 I L (f + 1) X Y (nI k) = some G ∧ G.toInt = (Nat.gcd x 0 : Nat) := by
    intro x k f X Y hX hY
    refine ⟨X, ?_, by rw [hX, Nat.gcd_zero_right]⟩
    rw [f_X4_commonDivisor_l9]
    split
    · rfl
    · rw [if_pos ((z64l Y hY).mpr rfl)]
  have step : ∀ (x y k f : Nat) (X Y : Int64), X.toInt = x → Y.toInt = y → y ≠ 0 → k < 100 → f_X4_commonDivisor_l9 I L (f + 1) X Y (nI k) = f_X4_commonDivisor_l9 I L f Y (X - X / Y * Y) (nI (k + 1)) := by
    intro x y k f X Y hX hY h0 hk
    rw [f_X4_commonDivisor_l9, show (100 : Int32) = nI 100 from rfl, if_neg (by rw [le_nI (by omega) (by omega)]; omega), if_neg (fun z => h0 ((z64l Y hY).mp z)), ck_t (nzL_t hY h0), lt_eq, lt_eq, inc_nI]
  intro j
  induction j with
  | zero =>
    intro x y k f X Y hX hY hy hk hf
    have : y = 0 := by omega
    subst this
    obtain ⟨f, rfl⟩ : ∃ i, f = i + 1 := ⟨f - 1, by omega⟩
    exact stop x k f X Y hX hY
  | succ j ih =>
    intro x y k f X Y hX hY hy hk hf
    have pj : 2 ^ (j + 1) = 2 ^ j * 2 := Nat.pow_succ 2 j
    obtain ⟨f, rfl⟩ : ∃ i, f = i + 1 := ⟨f - 1, by omega⟩
    by_cases h0 : y = 0
    · subst h0; exact stop x k f X Y hX hY
    · rw [step x y k f X Y hX hY h0 (by omega), gcd_step x y]
      have hR := l_mod hX hY
      obtain ⟨f, rfl⟩ : ∃ i, f = i + 1 := ⟨f - 1, by omega⟩
      have hlt := Nat.mod_lt x (show 0 < y by omega)
      generalize x % y = r at *
      by_cases h1 : r = 0
      · subst h1; exact stop y (k + 1) f Y _ hY hR
      · rw [step y r (k + 1) f Y _ hY hR h1 (by omega), gcd_step y r]
        have h2 := two_mod (show 0 < r by omega) hlt
        exact ih r (y % r) (k + 2) f _ _ hR (l_mod hY hR) (by omega) (by omega) (by omega)
/-- the reference's -/
theorem mgcd {I : mI} {L : mL} : ∀ (j x y f : Nat) (X Y : Int64), X.toInt = x → Y.toInt = y → y < 2 ^ j → 2 * j < f → (x ≠ 0 ∨ y ≠ 0) → ∃ G : Int64, G.toInt = (Nat.gcd x y : Nat) ∧ f_X11_layPart_67_l169 f X Y I L = some (1, I, uL (uL L 67 15 (L 67 15 / G)) 67 16 ((L 67 16) / G)) := by
  have stop : ∀ (x f : Nat) (X Y : Int64), X.toInt = x → Y.toInt = (0 : Nat) → x ≠ 0 → ∃ G : Int64, G.toInt = (Nat.gcd x 0 : Nat) ∧ f_X11_layPart_67_l169 (f + 1) X Y I L = some (1, I, uL (uL L 67 15 (L 67 15 / G)) 67 16 ((L 67 16) / G)) := by
    intro x f X Y hX hY h0
    refine ⟨X, by rw [hX, Nat.gcd_zero_right], ?_⟩
    rw [f_X11_layPart_67_l169, if_pos ((z64l Y hY).mpr rfl), ck_t (nzL_t hX h0), lt_eq, ck_t (nzL_t hX h0), lt_eq, uL_at, if_neg (by omega)]
  have step : ∀ (x y f : Nat) (X Y : Int64), X.toInt = x → Y.toInt = y → y ≠ 0 → f_X11_layPart_67_l169 (f + 1) X Y I L = f_X11_layPart_67_l169 f Y (X - X / Y * Y) I L := by
    intro x y f X Y hX hY h0
    rw [f_X11_layPart_67_l169, if_neg (fun z => h0 ((z64l Y hY).mp z)), ck_t (nzL_t hY h0), lt_eq]
  intro j
  induction j with
  | zero =>
    intro x y f X Y hX hY hy hf h0
    have : y = 0 := by omega
    subst this
    obtain ⟨f, rfl⟩ : ∃ i, f = i + 1 := ⟨f - 1, by omega⟩
    exact stop x f X Y hX hY (by omega)
  | succ j ih =>
    intro x y f X Y hX hY hy hf hne
    have pj : 2 ^ (j + 1) = 2 ^ j * 2 := Nat.pow_succ 2 j
    obtain ⟨f, rfl⟩ : ∃ i, f = i + 1 := ⟨f - 1, by omega⟩
    by_cases h0 : y = 0
    · subst h0; exact stop x f X Y hX hY (by omega)
    · rw [step x y f X Y hX hY h0, gcd_step x y]
      have hR := l_mod hX hY
      obtain ⟨f, rfl⟩ : ∃ i, f = i + 1 := ⟨f - 1, by omega⟩
      have hlt := Nat.mod_lt x (show 0 < y by omega)
      generalize x % y = r at *
      by_cases h1 : r = 0
      · subst h1; exact stop y f Y _ hY hR h0
      · rw [step y r f Y _ hY hR h1, gcd_step y r]
        have h2 := two_mod (show 0 < r by omega) hlt
        exact ih r (y % r) f _ _ hR (l_mod hY hR) (by omega) (by omega) (Or.inl h1)
theorem ord_tab : ∀ k, k < 9 → 1 ≤ (ordL (nI k)).toInt ∧ (ordL (nI k)).toInt ≤ 40320 := by decide +kernel
theorem ord_step : ∀ k, k < 8 → ordL (nI k) * (nI (k + 1)).toInt64 = ordL (nI (k + 1)) := by decide +kernel
theorem orders_eq {I : mI} {L : mL} {n : Nat} (hn : n < 9) : f_X11_orders I L (nI n) = some (ordL (nI n)) := by
  have key : ∀ (d k f : Nat), k + d = n → d < f → f_X11_orders_l4 I L f (nI n) (ordL (nI k)) (nI (k + 1)) = some (ordL (nI n)) := by
    intro d
    induction d with
    | zero =>
      intro k f hk hf
      obtain ⟨f, rfl⟩ : ∃ i, f = i + 1 := ⟨f - 1, by omega⟩
      have : k = n := by omega
      subst this
      rw [f_X11_orders_l4, if_pos (by rw [lt_nI (by omega) (by omega)]; omega)]
    | succ d ih =>
      intro k f hk hf
      obtain ⟨f, rfl⟩ : ∃ i, f = i + 1 := ⟨f - 1, by omega⟩
      rw [f_X11_orders_l4, if_neg (by rw [lt_nI (by omega) (by omega)]; omega), lt_eq, lt_eq, inc_nI, ord_step k (by omega)]
      exact ih (k + 1) f (by omega) (by omega)
  unfold f_X11_orders
  by_cases h : n = 0
  · subst h
    rw [fuel_eq, f_X11_orders_l4, if_pos (by decide)]; rfl
  · exact key (n - 1) 1 fuel (by omega) (fuel_gt (by omega))
