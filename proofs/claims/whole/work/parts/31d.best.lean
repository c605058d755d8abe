/-! the class's market -/
theorem sub_t {a b : Nat} (ha : a < 2147483648) (hb : b < 2147483648) : (nI a - nI b).toInt = (a : Int) - b := by
  rw [Int32.toInt_sub, t_nI ha, t_nI hb]
  exact Int.bmod_eq_of_le (by omega) (by omega)
def nt (pr : Nat) (W : Nat → Nat) (D : Nat → Nat → Nat) (s b : Nat) : Int := ((pr * W b : Nat) : Int) - (D s b : Nat)
/-- the first one of the most -/
def BM (n : Nat) (R : Nat → Prop) (N : Nat → Int) (p : Nat) : Prop := p < n ∧ R p ∧ ∀ b, b < n → R b → N b < N p ∨ (N b = N p ∧ p ≤ b)
theorem BM.uniq {n : Nat} {R : Nat → Prop} {N : Nat → Int} {p q : Nat} (h : BM n R N p) (g : BM n R N q) : p = q := by
  have h1 := h.2.2 q g.1 g.2.1
  have h2 := g.2.2 p h.1 h.2.1
  omega
section Best
variable {I J : mI} {L : mL} {n B c lg : Nat} {T : Nat → Nat → Nat} {W : Nat → Nat}
theorem heavy_eq (h : RT I n B c lg T W) (hB : RB n B c lg T W) : ∃ H, f_X5_heaviestOpen_48 I L = some (nI H) ∧ H ≤ 990 ∧ ∀ b, b < n → W b ≤ B → W b ≤ H := by
  have b1 := hB.1
  have hBB := hB.2.1
  unfold f_X5_heaviestOpen_48
  obtain ⟨m', H, ⟨i1, i2⟩, hF⟩ := loop_inv (F := fun f k (H : Nat) => f_X5_heaviestOpen_48_l4 I L f (nI H) (nI k)) (n := n)
    (Inv := fun k H => H ≤ 990 ∧ ∀ b, b < k → W b ≤ B → W b ≤ H)
    (fun f k H hk hI => by
      have hWk := hB.2.2.2.2.2 k hk
      have e : f_X5_heaviestOpen_48_l4 I L (f + 1) (nI H) (nI k) = if B < W k then f_X5_heaviestOpen_48_l4 I L f (nI H) (nI (k + 1)) else if W k ≤ H then f_X5_heaviestOpen_48_l4 I L f (nI H) (nI (k + 1)) else f_X5_heaviestOpen_48_l4 I L f (nI (W k)) (nI (k + 1)) := by
        have := hI.1
        rw [f_X5_heaviestOpen_48_l4, h.1, h.2.1]
        simp (disch := omega) only [ck_nI, c_nI, le_n, lt_n, eq_n, lt_eq, Option.bind_some, bndI_some, bndV_some, bndL_some, inc_nI, nI_1, n_add, n_mul, orz, addz, q0, q2, q3, q4, q5, q6, q7, q8, q9, q10, q13, q14, q15, q20, q24, q46, q48, q61, q76, q91, q95, q99, q100, q105, q111, q117, q123, q129, eq1, le1, ge1, lt1, gt1, cl1, h.2.2.2.2.2 k hk, show ¬ n ≤ k by omega, if_false]
      show ∃ H', _ ∧ f_X5_heaviestOpen_48_l4 I L (f + 1) (nI H) (nI k) = _
      rw [e]
      have up : ∀ H', H ≤ H' → (W k ≤ B → W k ≤ H') → ∀ b, b < k + 1 → W b ≤ B → W b ≤ H' := by
        intro H' h1 h2 b hb hbB
        by_cases q : b = k
        · subst q; exact h2 hbB
        · exact Nat.le_trans (hI.2 b (by omega) hbB) h1
      by_cases q : B < W k
      · exact ⟨H, ⟨hI.1, up H (Nat.le_refl _) (fun z => by omega)⟩, by rw [if_pos q]⟩
      · by_cases z : W k ≤ H
        · exact ⟨H, ⟨hI.1, up H (Nat.le_refl _) (fun _ => z)⟩, by rw [if_neg q, if_pos z]⟩
        · exact ⟨W k, ⟨hWk, up (W k) (by omega) (fun _ => Nat.le_refl _)⟩, by rw [if_neg q, if_neg z]⟩)
    n 0 0 fuel (by omega) ⟨by omega, fun b hb => absurd hb (by omega)⟩ (fuel_gt (by omega))
  have hF' : f_X5_heaviestOpen_48_l4 I L fuel 0 0 = f_X5_heaviestOpen_48_l4 I L (m' + 1) (nI H) (nI n) := hF
  refine ⟨H, ?_, i1, i2⟩
  rw [hF', f_X5_heaviestOpen_48_l4, h.1, if_pos (by rw [le_nI (by omega) (by omega)]; omega)]
/-- the best one of those that are settled -/
def BS (J : mI) (n B : Nat) (W : Nat → Nat) (D : Nat → Nat → Nat) (s m pr : Nat) (x : Int32) : Prop := (∀ b, b < n → W b ≤ B → ¬ m.testBit b = true → D s b < 100000000) ∧ ((x = -1 ∧ ∀ b, b < n → W b ≤ B → m.testBit b = true) ∨ ∃ p, x = nI p ∧ p < n ∧ W p ≤ B ∧ ¬ m.testBit p = true ∧ (J 48 13).toInt = nt pr W D s p ∧ ∀ b, b < n → W b ≤ B → ¬ m.testBit b = true → nt pr W D s b < nt pr W D s p ∨ (nt pr W D s b = nt pr W D s p ∧ p ≤ b))
/-- what it comes to, if nothing that is left is as good -/
theorem BS.out {D : Nat → Nat → Nat} {s m pr : Nat} {x : Int32} (h : BS J n B W D s m pr x) (hD : FW n n (oO B W) (eE T) (wc c lg T W) D) (hn : n ≤ 8) (hs : s < n) (hl : ∀ b, b < n → m.testBit b = true → D s b < 100000000 → ∃ p, x = nI p ∧ p < n ∧ nt pr W D s b < nt pr W D s p) : (x = -1 ∧ ∀ b, b < n → ¬ D s b < 100000000) ∨ ∃ p, x = nI p ∧ BM n (fun b => D s b < 100000000) (nt pr W D s) p ∧ (J 48 13).toInt = nt pr W D s p := by
  have op : ∀ b, b < n → D s b < 100000000 → W b ≤ B := by
    intro b hb q
    by_cases z : W b ≤ B
    · exact z
    · have := hD.2.1 s b hs hb (fun y => z y.2); omega
  rcases h with ⟨h0, ⟨rfl, h1⟩ | ⟨p, rfl, h1, h2, h3, h4, h5⟩⟩
  · refine Or.inl ⟨rfl, fun b hb q => ?_⟩
    obtain ⟨p, e, hp, -⟩ := hl b hb (h1 b hb (op b hb q)) q
    have := congrArg Int32.toInt e
    have q2 : (-1 : Int32).toInt = -1 := by decide
    rw [t_nI (by omega)] at this; omega
  · refine Or.inr ⟨p, rfl, ⟨h1, h0 p h1 h2 h3, fun b hb q => ?_⟩, h4⟩
    by_cases z : m.testBit b = true
    · obtain ⟨p', e, hp', y⟩ := hl b hb z q
      have : p = p' := (eq_nI (by omega) (by omega)).mp e
      subst this
      exact Or.inl y
    · exact h5 b hb (op b hb q) z
theorem BS.leave {J' : mI} {D : Nat → Nat → Nat} {s m m2 pr p : Nat} {x : Int32} (h : BS J n B W D s m pr x) (hn : n ≤ 8) (hp : p < n) (hO : W p ≤ B) (hb : m.testBit p = true) (hDp : D s p < 100000000) (hm : ∀ b, b < n → m2.testBit b = (m.testBit b && decide (b ≠ p))) {y : Int32} (hy : (y = nI p ∧ (J' 48 13).toInt = nt pr W D s p ∧ (x < 0 ∨ (J 48 13).toInt < nt pr W D s p ∨ (nt pr W D s p = (J 48 13).toInt ∧ nI p < x))) ∨ (y = x ∧ J' 48 13 = J 48 13 ∧ 0 ≤ x ∧ (nt pr W D s p < (J 48 13).toInt ∨ (nt pr W D s p = (J 48 13).toInt ∧ x ≤ nI p)))) : BS J' n B W D s m2 pr y := by
  have bits : ∀ b, b < n → (¬ m2.testBit b = true ↔ ¬ m.testBit b = true ∨ b = p) := by
    intro b hb'
    rw [hm b hb']
    by_cases e : b = p
    · simp [e]
    · simp [e]
  have b2p : ¬ m2.testBit p = true := (bits p hp).mpr (Or.inr rfl)
  refine ⟨fun b hb' hW q => ?_, Or.inr ?_⟩
  · rcases (bits b hb').mp q with z | rfl
    · exact h.1 b hb' hW z
    · exact hDp
  · rcases hy with ⟨rfl, y1, y2⟩ | ⟨rfl, y1, y2, y3⟩
    · refine ⟨p, rfl, hp, hO, b2p, y1, fun b hb' hW q => ?_⟩
      rcases (bits b hb').mp q with z | rfl
      · rcases h.2 with ⟨-, h1⟩ | ⟨p0, rfl, h1, h2, h3, h4, h5⟩
        · exact absurd (h1 b hb' hW) z
        · have := h5 b hb' hW z
          rcases y2 with y2 | y2 | ⟨y2, y3⟩
          · exact absurd y2 (by rw [show (0 : Int32) = nI 0 from rfl, lt_nI (by omega) (by omega)]; omega)
          · omega
          · rw [lt_nI (by omega) (by omega)] at y3
            omega
      · exact Or.inr ⟨rfl, Nat.le_refl _⟩
    · rcases h.2 with ⟨rfl, h1⟩ | ⟨p0, rfl, h1, h2, h3, h4, h5⟩
      · exact absurd y2 (by decide)
      · refine ⟨p0, rfl, h1, h2, (bits p0 h1).mpr (Or.inl h3), by rw [y1]; exact h4, fun b hb' hW q => ?_⟩
        rcases (bits b hb').mp q with z | rfl
        · exact h5 b hb' hW z
        · rcases y3 with y3 | ⟨y3, y4⟩
          · omega
          · rw [le_nI (by omega) (by omega)] at y4
            omega
theorem best_eq (h : RT I n B c lg T W) (hB : RB n B c lg T W) {s pr : Nat} (hs : s < n) (hpr : pr ≤ 9) {D : Nat → Nat → Nat} (hD : FW n n (oO B W) (eE T) (wc c lg T W) D) : ∃ r J, f_X5_bestPlace_48 I L (nI s) (nI pr) = some (r, J, L) ∧ RF I J ∧ ((r = -1 ∧ ∀ b, b < n → ¬ D s b < 100000000) ∨ ∃ p, r = nI p ∧ BM n (fun b => D s b < 100000000) (nt pr W D s) p ∧ (J 48 13).toInt = nt pr W D s p) := by
  have b1 := hB.1
  have hp8 : 2 ^ n ≤ 2 ^ 8 := Nat.pow_le_pow_right (by omega) (by omega)
  obtain ⟨J0, m0, C0, s1, s2, s3, s4⟩ := start_rs (L := L) h hB hs
  unfold f_X5_bestPlace_48
  rw [s1, bndV_some]
  obtain ⟨H, g1, g2, g3⟩ := heavy_eq (L := L) s3.1 hB
  have hPH : pr * H ≤ 9 * 990 := Nat.mul_le_mul hpr g2
  rw [g1, Option.bind_some, n_mul, lt_eq]
  have key : ∀ (d k f : Nat) (J : mI) (m : Nat) (C : Nat → Nat) (x : Int32), k + d = n → d < f → cb m n ≤ d → RF I J → RS J n B c lg T W s m C → BS J n B W D s m pr x → ∃ r J', f_X5_bestPlace_48_l18 f (nI pr) x (nI (pr * H)) (nI k) J L = some (r, J', L) ∧ RF I J' ∧ ((r = -1 ∧ ∀ b, b < n → ¬ D s b < 100000000) ∨ ∃ p, r = nI p ∧ BM n (fun b => D s b < 100000000) (nt pr W D s) p ∧ (J' 48 13).toInt = nt pr W D s p) := by
    intro d
    induction d with
    | zero =>
      intro k f J m C x hk hf hcb hRF hRS hBS
      obtain ⟨f, rfl⟩ : ∃ j, f = j + 1 := ⟨f - 1, by omega⟩
      refine ⟨x, J, ?_, hRF, hBS.out hD b1 hs (fun b hb q => absurd q (cb_zero n (by omega) b hb))⟩
      rw [f_X5_bestPlace_48_l18, hRS.1.1, if_pos (by rw [le_nI (by omega) (by omega)]; omega)]
    | succ d ih =>
      intro k f J m C x hk hf hcb hRF hRS hBS
      obtain ⟨f, rfl⟩ : ∃ j, f = j + 1 := ⟨f - 1, by omega⟩
      obtain ⟨t1, t2, t3, t4, t5⟩ := id hRS
      rw [f_X5_bestPlace_48_l18, t1.1, if_neg (by rw [le_nI (by omega) (by omega)]; omega)]
      obtain ⟨r, r1, r2⟩ := nearest_eq (L := L) t1 hB t2 t3 t4 t5.1
      rw [r1, Option.bind_some]
      rcases r2 with ⟨rfl, r3⟩ | ⟨p, hp, rfl, r3, r4, r5⟩
      · rw [if_pos (by decide)]
        refine ⟨x, J, rfl, hRF, hBS.out hD b1 hs (fun b hb q z => ?_)⟩
        have := t5.done (wc_ok hB) hD b1 hs r3 b hb
        rw [if_pos z, r3 b hb q] at this
        omega
      · rw [if_neg (by rw [show (0 : Int32) = nI 0 from rfl, lt_nI (by omega) (by omega)]; omega)]
        have hOp : W p ≤ B := t5.2.2.2.1 p hp r3
        have pick := t5.pick (wc_ok hB) hD b1 hs (m := C p) r5 (fun b hb q1 q2 => t5.2.2.2.2.2.1 b p hb hp q1 q2 r3)
        have hDp : D s p < 100000000 ∧ C p = D s p := by
          have := pick p hp
          have := hD.1 s p hs hp
          omega
        have hleft : ∀ b, b < n → m.testBit b = true → D s b < 100000000 → C p ≤ D s b := by
          intro b hb q z
          have := pick b hb
          have := r5 b hb q
          omega
        have hWp := hB.2.2.2.2.2 p hp
        have hPW : pr * W p ≤ 9 * 990 := Nat.mul_le_mul hpr hWp
        have hnet : (nI (pr * W p) - nI (C p)).toInt = nt pr W D s p := by
          rw [sub_t (by omega) (by omega), hDp.2]; rfl
        have b61 : ∃ r J', f_X5_bestPlace_48_b61 J L (f_X5_bestPlace_48_l18 f) (nI pr) x (nI (pr * H)) (nI k) (nI p) = some (r, J', L) ∧ RF I J' ∧ ((r = -1 ∧ ∀ b, b < n → ¬ D s b < 100000000) ∨ ∃ p, r = nI p ∧ BM n (fun b => D s b < 100000000) (nt pr W D s) p ∧ (J' 48 13).toInt = nt pr W D s p) := by
          have e1 : f_X5_bestPlace_48_b61 J L (f_X5_bestPlace_48_l18 f) (nI pr) x (nI (pr * H)) (nI k) (nI p) = if x < 0 then f_X5_bestPlace_48_b108 J L (f_X5_bestPlace_48_l18 f) (nI pr) (nI (pr * H)) (nI k) (nI p) (nI (pr * W p) - nI (C p)) else if (J 48 13) < nI (pr * W p) - nI (C p) then f_X5_bestPlace_48_b108 J L (f_X5_bestPlace_48_l18 f) (nI pr) (nI (pr * H)) (nI k) (nI p) (nI (pr * W p) - nI (C p)) else if nI (pr * W p) - nI (C p) = (J 48 13) then (if x ≤ nI p then f_X5_bestPlace_48_b117 J L (f_X5_bestPlace_48_l18 f) (nI pr) x (nI (pr * H)) (nI k) (nI p) else f_X5_bestPlace_48_b108 J L (f_X5_bestPlace_48_l18 f) (nI pr) (nI (pr * H)) (nI k) (nI p) (nI (pr * W p) - nI (C p))) else f_X5_bestPlace_48_b117 J L (f_X5_bestPlace_48_l18 f) (nI pr) x (nI (pr * H)) (nI k) (nI p) := by
            unfold f_X5_bestPlace_48_b61
            rw [ck_nI (by omega) (by omega), ck_nI (by omega) (by omega), c_nI (by omega), t1.2.2.2.2.2 p hp, t4 p hp, n_mul, lt_eq]
          have go108 : (x < 0 ∨ (J 48 13).toInt < nt pr W D s p ∨ (nt pr W D s p = (J 48 13).toInt ∧ nI p < x)) → ∃ r J', f_X5_bestPlace_48_b108 J L (f_X5_bestPlace_48_l18 f) (nI pr) (nI (pr * H)) (nI k) (nI p) (nI (pr * W p) - nI (C p)) = some (r, J', L) ∧ RF I J' ∧ ((r = -1 ∧ ∀ b, b < n → ¬ D s b < 100000000) ∨ ∃ p, r = nI p ∧ BM n (fun b => D s b < 100000000) (nt pr W D s) p ∧ (J' 48 13).toInt = nt pr W D s p) := by
            intro hcase
            unfold f_X5_bestPlace_48_b108 f_X5_bestPlace_48_b117
            rw [lt_eq]
            have hRS2 : RS (uI J 48 13 (nI (pr * W p) - nI (C p))) n B c lg T W s m C := ⟨t1.frame ((RF.refl J).u48 (by omega) _), by rw [uI_at, if_neg (by omega)]; exact t2, t3, fun b hb => by rw [uI_cell (by omega)]; exact t4 b hb, t5⟩
            obtain ⟨J', C', l1, l2, l5, l3, l4, l6⟩ := leave_rs (L := L) hRS2 hB hs hp r3 r5
            rw [l1, bndV_some, lt_eq, inc_nI]
            refine ih (k + 1) f J' _ C' (nI p) (by omega) (by omega) (by omega) ((hRF.u48 (by omega) _).trans l2) l3 (hBS.leave b1 hp hOp r3 hDp.1 l6 (Or.inl ⟨rfl, ?_, hcase⟩))
            rw [l5, uI_same]; exact hnet
          have go117 : (0 ≤ x ∧ (nt pr W D s p < (J 48 13).toInt ∨ (nt pr W D s p = (J 48 13).toInt ∧ x ≤ nI p))) → ∃ r J', f_X5_bestPlace_48_b117 J L (f_X5_bestPlace_48_l18 f) (nI pr) x (nI (pr * H)) (nI k) (nI p) = some (r, J', L) ∧ RF I J' ∧ ((r = -1 ∧ ∀ b, b < n → ¬ D s b < 100000000) ∨ ∃ p, r = nI p ∧ BM n (fun b => D s b < 100000000) (nt pr W D s) p ∧ (J' 48 13).toInt = nt pr W D s p) := by
            intro hcase
            unfold f_X5_bestPlace_48_b117
            obtain ⟨J', C', l1, l2, l5, l3, l4, l6⟩ := leave_rs (L := L) hRS hB hs hp r3 r5
            rw [l1, bndV_some, lt_eq, inc_nI]
            exact ih (k + 1) f J' _ C' x (by omega) (by omega) (by omega) (hRF.trans l2) l3 (hBS.leave b1 hp hOp r3 hDp.1 l6 (Or.inr ⟨rfl, l5, hcase⟩))
          rw [e1]
          by_cases q1 : x < 0
          · rw [if_pos q1]; exact go108 (Or.inl q1)
          · have q1' : 0 ≤ x := (nlt_le x 0).mp q1
            rw [if_neg q1]
            by_cases q2 : (J 48 13) < nI (pr * W p) - nI (C p)
            · rw [if_pos q2]
              rw [Int32.lt_iff_toInt_lt, hnet] at q2
              exact go108 (Or.inr (Or.inl q2))
            · rw [if_neg q2]
              rw [Int32.lt_iff_toInt_lt, hnet] at q2
              by_cases q3 : nI (pr * W p) - nI (C p) = (J 48 13)
              · rw [if_pos q3]
                have q4 : nt pr W D s p = (J 48 13).toInt := by rw [← hnet, q3]
                by_cases q5 : x ≤ nI p
                · rw [if_pos q5]; exact go117 ⟨q1', Or.inr ⟨q4, q5⟩⟩
                · rw [if_neg q5]
                  exact go108 (Or.inr (Or.inr ⟨q4, by rw [Int32.le_iff_toInt_le] at q5; rw [Int32.lt_iff_toInt_lt]; omega⟩))
              · rw [if_neg q3]
                have q4 : nt pr W D s p ≠ (J 48 13).toInt := fun z => q3 (Int32.toInt_inj.mp (by rw [hnet, z]))
                exact go117 ⟨q1', Or.inl (by omega)⟩
        by_cases q1 : x < 0
        · rw [if_pos q1]; exact b61
        · rw [if_neg q1, ck_nI (by omega) (by omega), c_nI (by omega), t4 p hp]
          by_cases q2 : (J 48 13) ≤ nI (pr * H) - nI (C p)
          · rw [if_pos q2]; exact b61
          · rw [if_neg q2]
            refine ⟨x, J, rfl, hRF, hBS.out hD b1 hs (fun b hb q z => ?_)⟩
            rw [Int32.le_iff_toInt_le, sub_t (by omega) (by omega)] at q2
            rcases hBS.2 with ⟨e, -⟩ | ⟨p0, e, h1, h2, h3, h4, h5⟩
            · exact absurd (by rw [e]; decide) q1
            · refine ⟨p0, e, h1, ?_⟩
              have hb2 := hleft b hb q z
              have hb3 := g3 b hb (t5.2.2.2.1 b hb q)
              have hb4 : pr * W b ≤ pr * H := Nat.mul_le_mul_left _ hb3
              rw [h4] at q2
              have e2 : nt pr W D s b = ((pr * W b : Nat) : Int) - (D s b : Nat) := rfl
              omega
  exact key n 0 fuel J0 m0 C0 (-1) (by omega) (fuel_gt (by omega)) (cb_le _ _) s2 s3 ⟨fun b hb q z => absurd (s4 b hb q) z, Or.inl ⟨rfl, s4⟩⟩
end Best
