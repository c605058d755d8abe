/-! ways: the reference's side -/
section Path
variable {I J K : mI} {L : mL} {v : mV} {ca ms t G : Nat}
abbrev tV (v : mV) (ca ms t : Nat) : Nat → Nat → Prop := tG (v (95 + ca)) 0 (rd v) (fun p => wV v p ms) (DD v ca ms 0) t
/-- used and left -/
def UA (n U A : Nat) : Prop := U < 256 ∧ A < 256 ∧ ∀ p, p < n → (U.testBit p = true ↔ ¬ A.testBit p = true)
theorem dec_nI (j : Nat) (h : j < 1000) : nI (j + 1) + Int32.ofInt (-1) = nI j := by
  apply Int32.toInt_inj.mp
  have e : (Int32.ofInt (-1)).toInt = -1 := by decide
  rw [add_t (by rw [e, t_nI (by omega)]; omega) (by rw [e, t_nI (by omega)]; omega), e, t_nI (by omega), t_nI (by omega)]
  omega
theorem scan (hw : WF v) (hm : MH K 68 v) (hca : ca < v 2) (hms : ms ≤ 99) (hD : MD K v ca ms 0) (ht : t < v 0) (hG : G ≤ 256000) {d U A a : Nat} (hd : d ≤ 7) (ha : a < v 0) (hat : a ≠ t) (hda : DD v ca ms 0 a t < 100000000) (hdG : DD v ca ms 0 a t ≤ G) (h76 : K 76 d = nI a) (h77 : K 77 d = nI (G - DD v ca ms 0 a t)) (hU : UA (v 0) U A) (k39 : Int32 → Int32 → Int32 → Int32 → Int32 → Int32 → Int32 → mI → mL → rI) : ∀ (e k f : Nat), k + e = v 0 → e + 1 < f → (∃ p, k ≤ p ∧ p < v 0 ∧ A.testBit p = true ∧ tV v ca ms t a p ∧ (∀ q, k ≤ q → q < p → ¬ (A.testBit q = true ∧ tV v ca ms t a q)) ∧ f_X11_layPath_67_l72 k39 f (nI ca) (nI ms) (nI t) (nI G) (nI d) (nI U) (nI k) 0 K L = k39 (nI ca) (nI ms) (nI t) (nI G) (nI (d + 1)) (nI (U ||| 2 ^ p)) (-1) (uI (uI K 76 (d + 1) (nI p)) 77 (d + 1) (nI (G - DD v ca ms 0 p t))) L) ∨ ((∀ q, k ≤ q → q < v 0 → ¬ (A.testBit q = true ∧ tV v ca ms t a q)) ∧ f_X11_layPath_67_l72 k39 f (nI ca) (nI ms) (nI t) (nI G) (nI d) (nI U) (nI k) 0 K L = k39 (nI ca) (nI ms) (nI t) (nI G) (nI d + Int32.ofInt (-1)) (nI (mwo U (2 ^ a))) (nI a) K L) := by
  have sz := hw.sz
  have F := DD_ok hw hca hms (show 0 < 256 by omega)
  have hB := hw.rb hca hms (show 0 < 256 by omega)
  have hOa : wV v a ms ≤ v (91 + ca) := by
    apply Classical.byContradiction
    intro z
    have := F.2.1 a t ha ht (fun y => z y.1)
    omega
  intro e
  induction e with
  | zero =>
    intro k f hk hf
    obtain ⟨f, rfl⟩ : ∃ j, f = j + 1 := ⟨f - 1, by omega⟩
    refine Or.inr ⟨fun q h1 h2 => absurd h2 (by omega), ?_⟩
    rw [f_X11_layPath_67_l72, cl0, hm.n 0 (by omega), if_pos (by rw [le_nI (by omega) (by omega)]; omega)]
    unfold f_X11_layPath_67_b249
    rw [if_pos rfl, ck_nI (by omega) (by omega), lt_eq, ck_nI (by omega) (by omega), c_nI (by omega), h76, shl_nI (by omega), wo_nI, lt_eq, lt_eq]
  | succ e ih =>
    intro k f hk hf
    obtain ⟨f, rfl⟩ : ∃ j, f = j + 1 := ⟨f - 1, by omega⟩
    obtain ⟨f, rfl⟩ : ∃ j, f = j + 1 := ⟨f - 1, by omega⟩
    have kn : k < v 0 := by omega
    have dk := DD_le hw hca hms (show 0 < 256 by omega) kn ht
    have wl := wc_le hB ha kn
    have skip : ¬ (A.testBit k = true ∧ tV v ca ms t a k) → ∀ X, X = f_X11_layPath_67_l72 k39 (f + 1) (nI ca) (nI ms) (nI t) (nI G) (nI d) (nI U) (nI (k + 1)) 0 K L → (∃ p, k ≤ p ∧ p < v 0 ∧ A.testBit p = true ∧ tV v ca ms t a p ∧ (∀ q, k ≤ q → q < p → ¬ (A.testBit q = true ∧ tV v ca ms t a q)) ∧ X = k39 (nI ca) (nI ms) (nI t) (nI G) (nI (d + 1)) (nI (U ||| 2 ^ p)) (-1) (uI (uI K 76 (d + 1) (nI p)) 77 (d + 1) (nI (G - DD v ca ms 0 p t))) L) ∨ ((∀ q, k ≤ q → q < v 0 → ¬ (A.testBit q = true ∧ tV v ca ms t a q)) ∧ X = k39 (nI ca) (nI ms) (nI t) (nI G) (nI d + Int32.ofInt (-1)) (nI (mwo U (2 ^ a))) (nI a) K L) := by
      intro hn X hX
      rw [hX]
      rcases ih (k + 1) (f + 1) (by omega) (by omega) with ⟨p, h1, h2, h3, h4, h5, h6⟩ | ⟨h1, h2⟩
      · refine Or.inl ⟨p, by omega, h2, h3, h4, fun q q1 q2 => ?_, h6⟩
        by_cases z : q = k
        · subst z; exact hn
        · exact h5 q (by omega) q2
      · refine Or.inr ⟨fun q q1 q2 => ?_, h2⟩
        by_cases z : q = k
        · subst z; exact hn
        · exact h1 q (by omega) q2
    have b211n : ∀ x, f_X11_layPath_67_b211 K L k39 (f_X11_layPath_67_l72 k39 (f + 1)) (nI ca) (nI ms) (nI t) (nI G) (nI d) (nI U) (nI k) x 0 = f_X11_layPath_67_l72 k39 (f + 1) (nI ca) (nI ms) (nI t) (nI G) (nI d) (nI U) (nI (k + 1)) 0 K L := by
      intro x; unfold f_X11_layPath_67_b211; rw [if_pos rfl, lt_eq, inc_nI]
    have b210 : ∀ x, f_X11_layPath_67_b210 K L k39 (f_X11_layPath_67_l72 k39 (f + 1)) (nI ca) (nI ms) (nI t) (nI G) (nI d) (nI U) (nI k) x = f_X11_layPath_67_l72 k39 (f + 1) (nI ca) (nI ms) (nI t) (nI G) (nI d) (nI U) (nI (k + 1)) 0 K L := by
      intro x; unfold f_X11_layPath_67_b210; exact b211n x
    have b141 : f_X11_layPath_67_b141 K L k39 (f_X11_layPath_67_l72 k39 (f + 1)) (nI ca) (nI ms) (nI t) (nI G) (nI d) (nI U) (nI k) = f_X11_layPath_67_l72 k39 (f + 1) (nI ca) (nI ms) (nI t) (nI G) (nI d) (nI U) (nI (k + 1)) 0 K L := by
      unfold f_X11_layPath_67_b141 f_X11_layPath_67_b142
      rw [if_pos rfl]
      unfold f_X11_layPath_67_b178
      rw [if_pos rfl]; exact b210 _
    obtain ⟨x, x1, x2⟩ := roadOf_rd (L := L) hw hm ha kn
    rw [f_X11_layPath_67_l72, cl0, hm.n 0 (by omega), if_neg (by rw [le_nI (by omega) (by omega)]; omega), if_pos rfl, ck_nI (by omega) (by omega), c_nI (by omega), h76, if_neg (fun z => hat ((eq_nI (by omega) (by omega)).mp z)), bears_eq hw hm hca hms kn, Option.bind_some, ck_nI (by omega) (by omega), x1, Option.bind_some, b141]
    have hUk := hU.2.2 k kn
    by_cases q1 : A.testBit k = true
    · have nu : ¬ U.testBit k = true := fun z => hUk.mp z q1
      rw [if_pos (by have := hU.1; rw [bit0 (by omega) (by omega)]; simpa using nu)]
      by_cases q2 : wV v k ms ≤ v (91 + ca)
      · rw [if_pos q2, if_neg (by decide)]
        by_cases q3 : rd v a k = 0
        · rw [if_pos (x2.mpr q3)]
          exact skip (fun z => z.2.1 q3) _ rfl
        · rw [if_neg (fun z => q3 (x2.mp z))]
          unfold f_X11_layPath_67_b142
          rw [if_neg (by decide), ck_nI (by omega) (by omega), ck_nI (by omega) (by omega), c_nI (by omega), h76, h77]
          show (∃ p, _) ∨ _
          have ec := costOf_eq (I := K) (L := L) (lg := 0) hw hm hca hms (by omega) ha kn
          rw [if_neg q3] at ec
          rw [show (0 : Int32) = nI 0 from rfl, ec, Option.bind_some, n_add]
          unfold f_X11_layPath_67_b178
          rw [if_neg (show ¬ (1 : Int32) = 0 by decide), show (8 : Int32) * nI k = nI (8 * k) from n_mul 8 k, n_add, ck_nI (by omega) (by omega), c_nI (by omega), hD k t kn ht, n_add, b210]
          have tri := F.2.2.2.1 a t k ha ht kn
          have edg := F.2.2.2.2.1 a k ha kn hOa q2 q3
          have dab := F.1 a k ha kn
          by_cases q4 : tV v ca ms t a k
          · have e4 := q4.2.2.2
            have d4 := q4.2.1
            rw [if_neg (by rw [lt_nI (by omega) (by omega)]; omega)]
            refine Or.inl ⟨k, Nat.le_refl _, kn, q1, q4, fun q h1 h2 => absurd h2 (by omega), ?_⟩
            unfold f_X11_layPath_67_b211
            rw [if_neg (by decide), show nI d + 1 = nI (d + 1) from n_add d 1, ck_nI (by omega) (by omega), lt_eq, ck_nI (by omega) (by omega), lt_eq, c_nI (by omega), f_X11_layPath_67_l72]
            have hm' : uI (uI K 76 (d + 1) (nI k)) 77 (d + 1) (nI (G - DD v ca ms 0 a t + wc (v (95 + ca)) 0 (rd v) (fun p => wV v p ms) a k)) 68 = K 68 := by rw [uI_cell (by omega), uI_cell (by omega)]
            rw [cl0, hm', hm.n 0 (by omega), if_neg (by rw [le_nI (by omega) (by omega)]; omega), if_neg (show ¬ (1 : Int32) = 0 by decide)]
            unfold f_X11_layPath_67_b249
            rw [if_neg (show ¬ (1 : Int32) = 0 by decide), lt_eq, inc_nI, ck_nI (by omega) (by omega), c_nI (by omega), uI_cell (show 76 ≠ 77 by omega), uI_same, shl_nI (by omega), or_nI, lt_eq, show G - DD v ca ms 0 a t + wc (v (95 + ca)) 0 (rd v) (fun p => wV v p ms) a k = G - DD v ca ms 0 k t by omega]
          · rw [if_pos (by
              rw [lt_nI (by omega) (by omega)]
              apply Classical.byContradiction
              intro z
              exact q4 ⟨q3, by omega, hda, by omega⟩)]
            exact skip (fun z => q4 z.2) _ rfl
      · rw [if_neg q2, if_pos rfl]
        refine skip (fun z => q2 ?_) _ rfl
        have hz := z.2.2.1
        apply Classical.byContradiction
        intro y
        have := F.2.1 k t kn ht (fun w => y w.1)
        omega
    · have nu : U.testBit k = true := hUk.mpr q1
      rw [if_neg (fun z => by have := hU.1; rw [bit0 (by omega) (by omega), nu] at z; cases z)]
      exact skip (fun z => q1 z.1) _ rfl
/-- how long a vain search may be -/
def Fm : Nat → Nat
  | 0 => 1
  | m + 1 => (m + 1) * (1 + Fm m) + 1
/-- what the search holds -/
def SR (K : mI) (v : mV) (ca ms : Nat) : Prop := MH K 68 v ∧ MD K v ca ms 0
theorem SR.frame (h : SR I v ca ms) (hf : ∀ c, c ≠ 76 → c ≠ 77 → J c = I c) : SR J v ca ms := ⟨h.1.frame (hf 68 (by omega) (by omega)), fun x y hx hy => by rw [hf 75 (by omega) (by omega)]; exact h.2 x y hx hy⟩
theorem l39_go (hw : WF v) (hr : SR K v ca ms) {d U a k : Nat} {x8 : Int32} (hx : x8 + 1 = nI k) (hd : d ≤ 7) (ha : a < v 0) (ht : t < v 0) (hat : a ≠ t) (h76 : K 76 d = nI a) (f : Nat) : f_X11_layPath_67_l39 (f + 1) (nI ca) (nI ms) (nI t) (nI G) (nI d) (nI U) x8 K L = f_X11_layPath_67_l72 (f_X11_layPath_67_l39 f) fuel (nI ca) (nI ms) (nI t) (nI G) (nI d) (nI U) (nI k) 0 K L := by
  have sz := hw.sz
  rw [f_X11_layPath_67_l39, ck_nI (by omega) (by omega), c_nI (by omega), h76, if_neg (fun z => hat ((eq_nI (by omega) (by omega)).mp z)), hx, lt_eq]
/-- the same, kept up to d -/
def Kp (K K' : mI) (d : Nat) : Prop := (∀ c, c ≠ 76 → c ≠ 77 → K' c = K c) ∧ ∀ j, j ≤ d → K' 76 j = K 76 j ∧ K' 77 j = K 77 j
theorem Kp.trans {K1 K2 K3 : mI} {d e : Nat} (h : Kp K1 K2 d) (g : Kp K2 K3 e) (hde : d ≤ e) : Kp K1 K3 d := ⟨fun c a b => (g.1 c a b).trans (h.1 c a b), fun j hj => ⟨(g.2 j (by omega)).1.trans (h.2 j hj).1, (g.2 j (by omega)).2.trans (h.2 j hj).2⟩⟩
theorem Kp.push (K : mI) (d : Nat) (x y : Int32) : Kp K (uI (uI K 76 (d + 1) x) 77 (d + 1) y) d := ⟨fun c a b => by rw [uI_cell b, uI_cell a], fun j hj => by
  refine ⟨?_, ?_⟩
  · rw [uI_cell (by omega), uI_at, if_neg (by omega)]
  · rw [uI_at, if_neg (by omega), uI_cell (by omega)]⟩
theorem cb_step {A k p n : Nat} (hk : k ≤ p) (hp : p < n) (hb : A.testBit p = true) : cb A k + 1 ≤ cb A (p + 1) ∧ cb A (p + 1) ≤ cb A n := by
  have mono : ∀ a b, a ≤ b → cb A a ≤ cb A b := by
    intro a b hab
    obtain ⟨d, rfl⟩ : ∃ d, b = a + d := ⟨b - a, by omega⟩
    clear hab
    induction d with
    | zero => exact Nat.le_refl _
    | succ d ih =>
      show cb A a ≤ cb A (a + d) + (if A.testBit (a + d) = true then 1 else 0)
      omega
  have e : cb A (p + 1) = cb A p + 1 := by
    show cb A p + (if A.testBit p = true then 1 else 0) = cb A p + 1
    rw [if_pos hb]
  have h1 := mono k p hk
  have h2 := mono (p + 1) n (by omega)
  omega
/-- a search in vain comes back -/
theorem vain (hw : WF v) (hca : ca < v 2) (hms : ms ≤ 99) (ht : t < v 0) (hG : G ≤ 256000) : ∀ (m r d U A a k : Nat) (x8 : Int32) (K : mI) (f : Nat), SR K v ca ms → cb A (v 0) = m → cb A (v 0) ≤ cb A k + r → x8 + 1 = nI k → k ≤ v 0 → d + 1 + m < 8 → a < v 0 → a ≠ t → DD v ca ms 0 a t < 100000000 → DD v ca ms 0 a t ≤ G → K 76 (d + 1) = nI a → K 77 (d + 1) = nI (G - DD v ca ms 0 a t) → UA (v 0) U A → (∀ p, k ≤ p → p < v 0 → A.testBit p = true → tV v ca ms t a p → ¬ Rc (v 0) t (tV v ca ms t) A p) → r * (1 + Fm (m - 1)) + 1 ≤ f → ∃ f' U' K', f_X11_layPath_67_l39 f (nI ca) (nI ms) (nI t) (nI G) (nI (d + 1)) (nI U) x8 K L = f_X11_layPath_67_l39 f' (nI ca) (nI ms) (nI t) (nI G) (nI d) (nI U') (nI a) K' L ∧ f ≤ f' + (r * (1 + Fm (m - 1)) + 1) ∧ Kp K K' (d + 1) ∧ U' < 256 ∧ (∀ p, p < v 0 → (U'.testBit p = true ↔ U.testBit p = true ∧ p ≠ a)) := by
  have sz := hw.sz
  intro m
  induction m with
  | zero =>
    intro r d U A a k x8 K f hr hcb hr' hx hk hd ha hat hda hdG h76 h77 hU hbad hf
    obtain ⟨f, rfl⟩ : ∃ j, f = j + 1 := ⟨f - 1, by omega⟩
    rw [l39_go hw hr hx (by omega) ha ht hat h76]
    rcases scan (K := K) (L := L) hw hr.1 hca hms hr.2 ht hG (show d + 1 ≤ 7 by omega) ha hat hda hdG h76 h77 hU (f_X11_layPath_67_l39 f) (v 0 - k) k fuel (by omega) (fuel_gt (by omega)) with ⟨p, h1, h2, h3, -⟩ | ⟨h1, h2⟩
    · exact absurd h3 (cb_zero (v 0) hcb p h2)
    · refine ⟨f, mwo U (2 ^ a), K, by rw [h2, dec_nI d (by omega)], by omega, ⟨fun _ _ _ => rfl, fun _ _ => ⟨rfl, rfl⟩⟩, Nat.lt_of_le_of_lt (mwo_le _ _) hU.1, fun p hp => wo_b (by omega)⟩
  | succ m ihm =>
    intro r
    induction r with
    | zero =>
      intro d U A a k x8 K f hr hcb hr' hx hk hd ha hat hda hdG h76 h77 hU hbad hf
      obtain ⟨f, rfl⟩ : ∃ j, f = j + 1 := ⟨f - 1, by omega⟩
      rw [l39_go hw hr hx (by omega) ha ht hat h76]
      rcases scan (K := K) (L := L) hw hr.1 hca hms hr.2 ht hG (show d + 1 ≤ 7 by omega) ha hat hda hdG h76 h77 hU (f_X11_layPath_67_l39 f) (v 0 - k) k fuel (by omega) (fuel_gt (by omega)) with ⟨p, h1, h2, h3, -⟩ | ⟨h1, h2⟩
      · have := cb_step h1 h2 h3; omega
      · refine ⟨f, mwo U (2 ^ a), K, by rw [h2, dec_nI d (by omega)], by omega, ⟨fun _ _ _ => rfl, fun _ _ => ⟨rfl, rfl⟩⟩, Nat.lt_of_le_of_lt (mwo_le _ _) hU.1, fun p hp => wo_b (by omega)⟩
    | succ r ihr =>
      intro d U A a k x8 K f hr hcb hr' hx hk hd ha hat hda hdG h76 h77 hU hbad hf
      have emul : (r + 1) * (1 + Fm (m + 1 - 1)) = r * (1 + Fm (m + 1 - 1)) + (1 + Fm (m + 1 - 1)) := Nat.succ_mul r _
      obtain ⟨f, rfl⟩ : ∃ j, f = j + 1 := ⟨f - 1, by omega⟩
      rw [l39_go hw hr hx (by omega) ha ht hat h76]
      rcases scan (K := K) (L := L) hw hr.1 hca hms hr.2 ht hG (show d + 1 ≤ 7 by omega) ha hat hda hdG h76 h77 hU (f_X11_layPath_67_l39 f) (v 0 - k) k fuel (by omega) (fuel_gt (by omega)) with ⟨p, h1, h2, h3, h4, h5, h6⟩ | ⟨h1, h2⟩
      · rw [h6]
        have bad := hbad p h1 h2 h3 h4
        have pt : p ≠ t := fun z => bad ⟨0, z⟩
        have cs := cb_step h1 h2 h3
        have cw := cb_wo h3 (v 0) (by omega)
        rw [if_pos h2] at cw
        have kp := Kp.push K (d + 1) (nI p) (nI (G - DD v ca ms 0 p t))
        have hU2 : UA (v 0) (U ||| 2 ^ p) (mwo A (2 ^ p)) := by
          refine ⟨or_lt (n := 8) hU.1 (by omega), Nat.lt_of_le_of_lt (mwo_le _ _) hU.2.1, fun q hq => ?_⟩
          rw [or_bit, Bool.or_eq_true, decide_eq_true_eq, wo_b (by omega), hU.2.2 q hq]
          constructor
          · rintro (z | z)
            · exact fun w => z w.1
            · exact fun w => w.2 z.symm
          · intro z
            by_cases e : p = q
            · exact Or.inr e
            · exact Or.inl (fun w => z ⟨w, Ne.symm e⟩)
        have mm : m * (1 + Fm (m - 1)) + 1 = Fm m := by
          cases m with
          | zero => show 0 * (1 + Fm (0 - 1)) + 1 = 1; omega
          | succ m => rfl
        have e1 : (m + 1 - 1) = m := by omega
        rw [e1] at hf emul ihr ⊢
        obtain ⟨f1, U1, K1, g1, g2, g3, g4, g5⟩ := ihm m (d + 1) (U ||| 2 ^ p) (mwo A (2 ^ p)) p 0 (-1) (uI (uI K 76 (d + 1 + 1) (nI p)) 77 (d + 1 + 1) (nI (G - DD v ca ms 0 p t))) f (hr.frame kp.1) (by omega) (by show cb (mwo A (2 ^ p)) (v 0) ≤ 0 + m; omega) (by decide) (by omega) (by omega) h2 pt h4.2.1 (by have := h4.2.2.2; omega) (by rw [uI_cell (by omega), uI_same]) (by rw [uI_same]) hU2 (fun q _ hq hb htq hR => by
          obtain ⟨j, hj⟩ := hR
          exact bad (Rc.back (by omega) ⟨j + 1, Or.inr ⟨q, hq, hb, htq, hj⟩⟩)) (by rw [mm]; omega)
        rw [g1]
        rw [mm] at g2
        have kp1 : Kp K K1 (d + 1) := kp.trans g3 (by omega)
        have hU1 : UA (v 0) U1 A := by
          refine ⟨g4, hU.2.1, fun q hq => ?_⟩
          rw [g5 q hq, or_bit, Bool.or_eq_true, decide_eq_true_eq, ← hU.2.2 q hq]
          constructor
          · rintro ⟨z | z, w⟩
            · exact z
            · exact absurd z.symm w
          · intro z
            exact ⟨Or.inl z, fun e => (hU.2.2 q hq).mp z (e ▸ h3)⟩
        obtain ⟨f2, U2, K2, j1, j2, j3, j4, j5⟩ := ihr d U1 A a (p + 1) (nI p) K1 f1 (hr.frame kp1.1) hcb (by omega) (n_add p 1) (by omega) hd ha hat hda hdG (by rw [(kp1.2 (d + 1) (by omega)).1]; exact h76) (by rw [(kp1.2 (d + 1) (by omega)).2]; exact h77) hU1 (fun q q1 q2 => hbad q (by omega) q2) (by omega)
        refine ⟨f2, U2, K2, j1, by omega, kp1.trans j3 (by omega), j4, fun q hq => ?_⟩
        rw [j5 q hq, hU1.2.2 q hq, ← hU.2.2 q hq]
      · refine ⟨f, mwo U (2 ^ a), K, by rw [h2, dec_nI d (by omega)], by omega, ⟨fun _ _ _ => rfl, fun _ _ => ⟨rfl, rfl⟩⟩, Nat.lt_of_le_of_lt (mwo_le _ _) hU.1, fun p hp => wo_b (by omega)⟩
/-- the search finds the first good step -/
theorem finds_lg (hw : WF v) (hca : ca < v 2) (hms : ms ≤ 99) (ht : t < v 0) (hG : G ≤ 256000) {d A a p : Nat} (hd : d + cb A (v 0) < 8) (hd7 : d ≤ 7) (ha : a < v 0) (hat : a ≠ t) (hda : DD v ca ms 0 a t < 100000000) (hdG : DD v ca ms 0 a t ≤ G) (hp : LG (v 0) t (tV v ca ms t) A a p) : ∀ (r U k : Nat) (x8 : Int32) (K : mI) (f : Nat), SR K v ca ms → cb A p ≤ cb A k + r → x8 + 1 = nI k → k ≤ p → K 76 d = nI a → K 77 d = nI (G - DD v ca ms 0 a t) → UA (v 0) U A → r * (1 + Fm (cb A (v 0) - 1)) + 1 ≤ f → ∃ f' U' K', f_X11_layPath_67_l39 f (nI ca) (nI ms) (nI t) (nI G) (nI d) (nI U) x8 K L = f_X11_layPath_67_l39 f' (nI ca) (nI ms) (nI t) (nI G) (nI (d + 1)) (nI U') (-1) K' L ∧ f ≤ f' + (r * (1 + Fm (cb A (v 0) - 1)) + 1) ∧ Kp K K' d ∧ K' 76 (d + 1) = nI p ∧ K' 77 (d + 1) = nI (G - DD v ca ms 0 p t) ∧ UA (v 0) U' (mwo A (2 ^ p)) := by
  have sz := hw.sz
  have pn := hp.1.1
  have pb := hp.1.2.1
  have up : ∀ U q, q < v 0 → A.testBit q = true → UA (v 0) U A → UA (v 0) (U ||| 2 ^ q) (mwo A (2 ^ q)) := by
    intro U q hq hb hU
    refine ⟨or_lt (n := 8) hU.1 (by omega), Nat.lt_of_le_of_lt (mwo_le _ _) hU.2.1, fun x hx => ?_⟩
    rw [or_bit, Bool.or_eq_true, decide_eq_true_eq, wo_b (by omega), hU.2.2 x hx]
    constructor
    · rintro (z | z)
      · exact fun w => z w.1
      · exact fun w => w.2 z.symm
    · intro z
      by_cases e : q = x
      · exact Or.inr e
      · exact Or.inl (fun w => z ⟨w, Ne.symm e⟩)
  intro r
  induction r with
  | zero =>
    intro U k x8 K f hr hcb hx hk h76 h77 hU hf
    obtain ⟨f, rfl⟩ : ∃ j, f = j + 1 := ⟨f - 1, by omega⟩
    rw [l39_go hw hr hx (by omega) ha ht hat h76]
    rcases scan (K := K) (L := L) hw hr.1 hca hms hr.2 ht hG hd7 ha hat hda hdG h76 h77 hU (f_X11_layPath_67_l39 f) (v 0 - k) k fuel (by omega) (fuel_gt (by omega)) with ⟨q, h1, h2, h3, h4, h5, h6⟩ | ⟨h1, -⟩
    · have : q = p := by
        apply Classical.byContradiction
        intro z
        by_cases l : q < p
        · have := cb_step h1 l h3; omega
        · exact h5 p hk (by omega) ⟨pb, hp.1.2.2.1⟩
      subst this
      exact ⟨f, _, _, h6, by omega, Kp.push K d _ _, by rw [uI_cell (by omega), uI_same], by rw [uI_same], up U q h2 h3 hU⟩
    · exact absurd ⟨pb, hp.1.2.2.1⟩ (h1 p hk pn)
  | succ r ih =>
    intro U k x8 K f hr hcb hx hk h76 h77 hU hf
    have emul : (r + 1) * (1 + Fm (cb A (v 0) - 1)) = r * (1 + Fm (cb A (v 0) - 1)) + (1 + Fm (cb A (v 0) - 1)) := Nat.succ_mul r _
    obtain ⟨f, rfl⟩ : ∃ j, f = j + 1 := ⟨f - 1, by omega⟩
    rw [l39_go hw hr hx (by omega) ha ht hat h76]
    rcases scan (K := K) (L := L) hw hr.1 hca hms hr.2 ht hG hd7 ha hat hda hdG h76 h77 hU (f_X11_layPath_67_l39 f) (v 0 - k) k fuel (by omega) (fuel_gt (by omega)) with ⟨q, h1, h2, h3, h4, h5, h6⟩ | ⟨h1, -⟩
    · by_cases e : q = p
      · subst e
        exact ⟨f, _, _, h6, by omega, Kp.push K d _ _, by rw [uI_cell (by omega), uI_same], by rw [uI_same], up U q h2 h3 hU⟩
      · have ql : q < p := by
          apply Classical.byContradiction
          intro z
          exact h5 p hk (by omega) ⟨pb, hp.1.2.2.1⟩
        have bad : ¬ Rc (v 0) t (tV v ca ms t) A q := fun z => hp.2 q ql ⟨h3, h4, z⟩
        have qt : q ≠ t := fun z => bad ⟨0, z⟩
        have cs := cb_step h1 ql h3
        have cs2 := cb_step (A := A) (n := v 0) (Nat.le_refl q) h2 h3
        have cw := cb_wo h3 (v 0) (by omega)
        rw [if_pos h2] at cw
        have kp := Kp.push K d (nI q) (nI (G - DD v ca ms 0 q t))
        obtain ⟨m, em⟩ : ∃ m, cb A (v 0) = m + 1 := ⟨cb A (v 0) - 1, by omega⟩
        have mm : m * (1 + Fm (m - 1)) + 1 = Fm m := by
          cases m with
          | zero => show 0 * (1 + Fm (0 - 1)) + 1 = 1; omega
          | succ m => rfl
        have e1 : cb A (v 0) - 1 = m := by omega
        rw [h6]
        rw [e1] at hf emul ih ⊢
        obtain ⟨f1, U1, K1, g1, g2, g3, g4, g5⟩ := vain (L := L) hw hca hms ht hG m m d (U ||| 2 ^ q) (mwo A (2 ^ q)) q 0 (-1) (uI (uI K 76 (d + 1) (nI q)) 77 (d + 1) (nI (G - DD v ca ms 0 q t))) f (hr.frame kp.1) (by omega) (by show cb (mwo A (2 ^ q)) (v 0) ≤ 0 + m; omega) (by decide) (by omega) (by omega) h2 qt h4.2.1 (by have := h4.2.2.2; omega) (by rw [uI_cell (by omega), uI_same]) (by rw [uI_same]) (up U q h2 h3 hU) (fun x _ hx hb htx hR => by
          obtain ⟨j, hj⟩ := hR
          exact bad (Rc.back (by omega) ⟨j + 1, Or.inr ⟨x, hx, hb, htx, hj⟩⟩)) (by rw [mm]; omega)
        rw [g1]
        rw [mm] at g2
        have kp1 : Kp K K1 d := kp.trans g3 (by omega)
        have hU1 : UA (v 0) U1 A := by
          refine ⟨g4, hU.2.1, fun x hx => ?_⟩
          rw [g5 x hx, or_bit, Bool.or_eq_true, decide_eq_true_eq, ← hU.2.2 x hx]
          constructor
          · rintro ⟨z | z, w⟩
            · exact z
            · exact absurd z.symm w
          · intro z
            exact ⟨Or.inl z, fun e => (hU.2.2 x hx).mp z (e ▸ h3)⟩
        obtain ⟨f2, U2, K2, j1, j2, j3, j4, j5, j6⟩ := ih U1 (q + 1) (nI q) K1 f1 (hr.frame kp1.1) (by
          have : cb A (q + 1) = cb A q + 1 := by
            show cb A q + (if A.testBit q = true then 1 else 0) = cb A q + 1
            rw [if_pos h3]
          omega) (n_add q 1) (by omega) (by rw [(kp1.2 d (by omega)).1]; exact h76) (by rw [(kp1.2 d (by omega)).2]; exact h77) hU1 (by omega)
        exact ⟨f2, U2, K2, j1, by omega, kp1.trans j3 (by omega), j4, j5, j6⟩
    · exact absurd ⟨pb, hp.1.2.2.1⟩ (h1 p hk pn)
end Path
