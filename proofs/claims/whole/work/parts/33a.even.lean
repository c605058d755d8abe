/-! beam: the fewest stones -/
def sf (a : Nat) : Nat := (a + 5) / 6
/-- t is made even by r places to the right and l to the left -/
def Sol (t : Int) (lw rw r l : Nat) : Prop := t + ((rw * r : Nat) : Int) = ((l * lw : Nat) : Int) ∧ (lw = 0 → l = 0)
/-- n stones do it -/
def Rn (t : Int) (lw rw n : Nat) : Prop := ∃ a r l, a ≤ n ∧ a ≤ r ∧ r ≤ 6 * a ∧ Sol t lw rw r l ∧ (lw ≠ 0 → n - a ≤ l ∧ l ≤ 6 * (n - a))
/-- the least cost below 31 -/
def Bst (t : Int) (lw rw k b : Nat) : Prop := b ≤ 31 ∧ (b = 31 ∨ ∃ r l, r < k ∧ Sol t lw rw r l ∧ sf r + sf l = b) ∧ ∀ r l, r < k → Sol t lw rw r l → b ≤ sf r + sf l
theorem Rn.sol {t : Int} {lw rw n : Nat} (h : Rn t lw rw n) (hn : n ≤ 30) : ∃ r l, r < 181 ∧ Sol t lw rw r l ∧ sf r + sf l ≤ n := by
  obtain ⟨a, r, l, h1, h2, h3, h4, h5⟩ := h
  refine ⟨r, l, by omega, h4, ?_⟩
  unfold sf
  by_cases q : lw = 0
  · have := h4.2 q; omega
  · have := h5 q; omega
theorem sol_rn {t : Int} {lw rw r l : Nat} (h : Sol t lw rw r l) : Rn t lw rw (sf r + sf l) := by
  refine ⟨sf r, r, l, by omega, ?_, ?_, h, fun _ => ?_⟩ <;> unfold sf <;> omega
section Even
variable {I : mI} {L : mL}
theorem stones_eq {a : Nat} (h : a < 100000) : f_X0_stonesFor I L (nI a) = some (nI (sf a)) := by
  unfold f_X0_stonesFor sf
  rw [show nI a + 6 = nI (a + 5 + 1) from n_add a 6, nI_pred, show (6 : Int32) = nI 6 from rfl, div_nI (by omega) (by omega) (by omega)]
theorem rest_t {T : Int32} {t : Int} (hT : T.toInt = t) (ht : -50000 ≤ t ∧ t ≤ 50000) {rw r : Nat} (hrw : rw ≤ 10) (hr : r ≤ 180) : (T + nI rw * nI r).toInt = t + ((rw * r : Nat) : Int) := by
  have : rw * r ≤ 10 * 180 := Nat.mul_le_mul hrw hr
  rw [n_mul, add_t (by rw [hT, t_nI (by omega)]; omega) (by rw [hT, t_nI (by omega)]; omega), hT, t_nI (by omega)]
theorem few_eq {T : Int32} {t : Int} (hT : T.toInt = t) (ht : -50000 ≤ t ∧ t ≤ 50000) {lw rw : Nat} (hlw : lw ≤ 10) (hrw : rw ≤ 10) : ∃ b, f_X0_fewest I L T (nI lw) (nI rw) = some (nI b) ∧ Bst t lw rw 181 b := by
  unfold f_X0_fewest
  have key : ∀ (d k f b : Nat), k + d = 181 → d < f → Bst t lw rw k b → ∃ b', f_X0_fewest_l6 I L f T (nI lw) (nI rw) (nI b) (nI k) = some (nI b') ∧ Bst t lw rw 181 b' := by
    intro d
    induction d with
    | zero =>
      intro k f b hk hf hB
      obtain ⟨f, rfl⟩ : ∃ j, f = j + 1 := ⟨f - 1, by omega⟩
      have : k = 181 := by omega
      subst this
      exact ⟨b, by rw [f_X0_fewest_l6, if_pos (by decide)], hB⟩
    | succ d ih =>
      intro k f b hk hf hB
      obtain ⟨f, rfl⟩ : ∃ j, f = j + 1 := ⟨f - 1, by omega⟩
      have hb := hB.1
      have rt := rest_t hT ht hrw (show k ≤ 180 by omega)
      have hrk : rw * k ≤ 10 * 180 := Nat.mul_le_mul hrw (by omega)
      have sk : sf k ≤ 31 := by unfold sf; omega
      rw [f_X0_fewest_l6, show (180 : Int32) = nI 180 from rfl, if_neg (by rw [lt_nI (by omega) (by omega)]; omega), stones_eq (by omega), Option.bind_some]
      by_cases q0 : b ≤ sf k
      · rw [if_pos (by rw [le_nI (by omega) (by omega)]; exact q0)]
        refine ⟨b, rfl, hb, ?_, fun r l hr hS => ?_⟩
        · rcases hB.2.1 with e | ⟨r, l, h1, h2⟩
          · exact Or.inl e
          · exact Or.inr ⟨r, l, by omega, h2⟩
        · by_cases z : r < k
          · exact hB.2.2 r l z hS
          · have : sf k ≤ sf r := by unfold sf; omega
            omega
      · rw [if_neg (by rw [le_nI (by omega) (by omega)]; exact q0), lt_eq]
        have skip : (∀ l, ¬ Sol t lw rw k l) → Bst t lw rw (k + 1) b := by
          intro hn
          refine ⟨hb, ?_, fun r l hr hS => ?_⟩
          · rcases hB.2.1 with e | ⟨r, l, h1, h2⟩
            · exact Or.inl e
            · exact Or.inr ⟨r, l, by omega, h2⟩
          · by_cases z : r = k
            · subst z; exact absurd hS (hn l)
            · exact hB.2.2 r l (by omega) hS
        have take : ∀ l, Sol t lw rw k l → (∀ l', Sol t lw rw k l' → l' = l) → Bst t lw rw (k + 1) (if sf k + sf l < b then sf k + sf l else b) := by
          intro l hS hU
          refine ⟨by split <;> omega, ?_, fun r l' hr hS' => ?_⟩
          · by_cases z : sf k + sf l < b
            · rw [if_pos z]; exact Or.inr ⟨k, l, by omega, hS, rfl⟩
            · rw [if_neg z]
              rcases hB.2.1 with e | ⟨r, l, h1, h2⟩
              · exact Or.inl e
              · exact Or.inr ⟨r, l, by omega, h2⟩
          · by_cases z : r = k
            · subst z
              rw [hU l' hS']
              split <;> omega
            · have := hB.2.2 r l' (by omega) hS'
              split <;> omega
        have b43 : ∀ s : Nat, (lw = 0 → s = 0) → (0 ≤ (T + nI rw * nI k).toInt → lw ≠ 0 → s = (T + nI rw * nI k).toInt.toNat / lw) → ∀ S : Int32, (0 ≤ (T + nI rw * nI k).toInt → S = nI s) → ∃ b', f_X0_fewest_b43 I L (f_X0_fewest_l6 I L f) T (nI lw) (nI rw) (nI b) (nI k) (T + nI rw * nI k) S = some (nI b') ∧ Bst t lw rw 181 b' := by
          intro s hs0 hs1 S hS
          unfold f_X0_fewest_b43
          by_cases q1 : (T + nI rw * nI k) < 0
          · have q1' : (T + nI rw * nI k).toInt < 0 := by
              rw [Int32.lt_iff_toInt_lt] at q1
              have : (0 : Int32).toInt = 0 := by decide
              omega
            rw [if_pos q1, lt_eq, inc_nI]
            exact ih (k + 1) f b (by omega) (by omega) (skip (fun l hl => by have := hl.1; omega))
          · have q1' : 0 ≤ (T + nI rw * nI k).toInt := by
              rw [Int32.lt_iff_toInt_lt] at q1
              have : (0 : Int32).toInt = 0 := by decide
              omega
            rw [if_neg q1, hS q1', n_mul]
            generalize eR : (T + nI rw * nI k).toInt.toNat = R at *
            have hR : R ≤ 60000 := by omega
            have hsR : s * lw ≤ R := by
              by_cases z : lw = 0
              · rw [z]; omega
              · rw [hs1 q1' z]; exact Nat.div_mul_le_self R lw
            have sle : s ≤ R := by
              by_cases z : lw = 0
              · rw [hs0 z]; omega
              · rw [hs1 q1' z]; exact Nat.div_le_self R lw
            have eX : T + nI rw * nI k = nI R := by
              apply Int32.toInt_inj.mp
              rw [t_nI (by omega)]; omega
            have uni : ∀ l, Sol t lw rw k l → l * lw = R ∧ l = s := by
              intro l hl
              have h1 : l * lw = R := by have := hl.1; omega
              refine ⟨h1, ?_⟩
              by_cases z : lw = 0
              · rw [hl.2 z, hs0 z]
              · rw [hs1 q1' z, ← h1, Nat.mul_div_cancel l (by omega)]
            by_cases q2 : s * lw = R
            · rw [if_pos (by rw [eX, q2]), stones_eq (by omega), stones_eq (by omega), Option.bind_some, Option.bind_some, n_add, lt_eq, lt_eq, inc_nI]
              have sS : Sol t lw rw k s := ⟨by omega, hs0⟩
              have ss : sf s ≤ 20000 := by unfold sf; omega
              have := ih (k + 1) f _ (by omega) (by omega) (take s sS (fun l' hl' => (uni l' hl').2))
              rw [show (if nI (sf k + sf s) < nI b then nI (sf k + sf s) else nI b) = nI (if sf k + sf s < b then sf k + sf s else b) by
                by_cases z : sf k + sf s < b
                · rw [if_pos z, if_pos (by rw [lt_nI (by omega) (by omega)]; exact z)]
                · rw [if_neg z, if_neg (by rw [lt_nI (by omega) (by omega)]; exact z)]]
              exact this
            · rw [if_neg (fun z => q2 ((eq_nI (by omega) (by omega)).mp (by rw [z, eX]))), lt_eq, inc_nI]
              exact ih (k + 1) f b (by omega) (by omega) (skip (fun l hl => q2 (by rw [← (uni l hl).2]; exact (uni l hl).1)))
        by_cases z : lw = 0
        · rw [if_pos (show nI lw ≤ 0 by rw [z]; decide)]
          exact b43 0 (fun _ => rfl) (fun _ y => absurd z y) 0 (fun _ => rfl)
        · rw [if_neg (show ¬ nI lw ≤ 0 by rw [show (0 : Int32) = nI 0 from rfl, le_nI (by omega) (by omega)]; omega), ck_t (show nz (nI lw) = true by
            unfold nz
            have : ¬ nI lw = 0 := fun y => z ((eq_nI (b := 0) (by omega) (by omega)).mp y)
            simp [this])]
          refine b43 ((T + nI rw * nI k).toInt.toNat / lw) (fun y => absurd y z) (fun _ _ => rfl) _ (fun y => ?_)
          have eX : T + nI rw * nI k = nI (T + nI rw * nI k).toInt.toNat := by
            apply Int32.toInt_inj.mp
            rw [t_nI (by omega)]; omega
          rw [eX, div_nI (by omega) (by omega) (by omega), ← eX]
  exact key 181 0 fuel 31 (by omega) (fuel_gt (by omega)) ⟨Nat.le_refl _, Or.inl rfl, fun r l hr => absurd hr (by omega)⟩
/-- the reference: far places -/
theorem ev_c {T : Int32} {t : Int} (hT : T.toInt = t) (ht : -50000 ≤ t ∧ t ≤ 50000) {lw rw n a : Nat} (hlw : lw ≤ 10) (hrw : rw ≤ 10) (hn : n ≤ 30) (ha : a ≤ n) (k3 : Int32 → Int32 → Int32 → Int32 → Option Int32) (k13 : Int32 → Int32 → Int32 → Int32 → Int32 → Option Int32) : ((∃ r l, a ≤ r ∧ r ≤ 6 * a ∧ Sol t lw rw r l ∧ (lw ≠ 0 → n - a ≤ l ∧ l ≤ 6 * (n - a))) ∧ f_X11_evens_67_l24 I L k3 k13 fuel T (nI lw) (nI rw) (nI n) (nI a) (nI a) = some (nI n)) ∨ ((∀ r l, a ≤ r → r ≤ 6 * a → Sol t lw rw r l → ¬ (lw ≠ 0 → n - a ≤ l ∧ l ≤ 6 * (n - a))) ∧ f_X11_evens_67_l24 I L k3 k13 fuel T (nI lw) (nI rw) (nI n) (nI a) (nI a) = k13 T (nI lw) (nI rw) (nI n) (nI (a + 1))) := by
  have key : ∀ (d k f : Nat), k + d = 6 * a + 1 → d < f → a ≤ k → (∀ r l, a ≤ r → r < k → Sol t lw rw r l → ¬ (lw ≠ 0 → n - a ≤ l ∧ l ≤ 6 * (n - a))) → ((∃ r l, a ≤ r ∧ r ≤ 6 * a ∧ Sol t lw rw r l ∧ (lw ≠ 0 → n - a ≤ l ∧ l ≤ 6 * (n - a))) ∧ f_X11_evens_67_l24 I L k3 k13 f T (nI lw) (nI rw) (nI n) (nI a) (nI k) = some (nI n)) ∨ ((∀ r l, a ≤ r → r ≤ 6 * a → Sol t lw rw r l → ¬ (lw ≠ 0 → n - a ≤ l ∧ l ≤ 6 * (n - a))) ∧ f_X11_evens_67_l24 I L k3 k13 f T (nI lw) (nI rw) (nI n) (nI a) (nI k) = k13 T (nI lw) (nI rw) (nI n) (nI (a + 1))) := by
    intro d
    induction d with
    | zero =>
      intro k f hk hf hak hno
      obtain ⟨f, rfl⟩ : ∃ j, f = j + 1 := ⟨f - 1, by omega⟩
      refine Or.inr ⟨fun r l h1 h2 => hno r l h1 (by omega), ?_⟩
      rw [f_X11_evens_67_l24, show (6 : Int32) * nI a = nI (6 * a) from n_mul 6 a, if_pos (by rw [lt_nI (by omega) (by omega)]; omega), lt_eq, inc_nI]
    | succ d ih =>
      intro k f hk hf hak hno
      obtain ⟨f, rfl⟩ : ∃ j, f = j + 1 := ⟨f - 1, by omega⟩
      have rt := rest_t hT ht hrw (show k ≤ 180 by omega)
      have hrk : rw * k ≤ 10 * 180 := Nat.mul_le_mul hrw (by omega)
      have esub : nI n - nI a = nI (n - a) := by
        apply Int32.toInt_inj.mp
        rw [sub_t (by omega) (by omega), t_nI (by omega)]; omega
      have found : ∀ l, Sol t lw rw k l → (lw ≠ 0 → n - a ≤ l ∧ l ≤ 6 * (n - a)) → ∀ X : Option Int32, X = some (nI n) → ((∃ r l, a ≤ r ∧ r ≤ 6 * a ∧ Sol t lw rw r l ∧ (lw ≠ 0 → n - a ≤ l ∧ l ≤ 6 * (n - a))) ∧ X = some (nI n)) ∨ ((∀ r l, a ≤ r → r ≤ 6 * a → Sol t lw rw r l → ¬ (lw ≠ 0 → n - a ≤ l ∧ l ≤ 6 * (n - a))) ∧ X = k13 T (nI lw) (nI rw) (nI n) (nI (a + 1))) := fun l h1 h2 X hX => Or.inl ⟨⟨k, l, hak, by omega, h1, h2⟩, hX⟩
      have next : (∀ l, Sol t lw rw k l → ¬ (lw ≠ 0 → n - a ≤ l ∧ l ≤ 6 * (n - a))) → ∀ X : Option Int32, X = f_X11_evens_67_l24 I L k3 k13 f T (nI lw) (nI rw) (nI n) (nI a) (nI (k + 1)) → ((∃ r l, a ≤ r ∧ r ≤ 6 * a ∧ Sol t lw rw r l ∧ (lw ≠ 0 → n - a ≤ l ∧ l ≤ 6 * (n - a))) ∧ X = some (nI n)) ∨ ((∀ r l, a ≤ r → r ≤ 6 * a → Sol t lw rw r l → ¬ (lw ≠ 0 → n - a ≤ l ∧ l ≤ 6 * (n - a))) ∧ X = k13 T (nI lw) (nI rw) (nI n) (nI (a + 1))) := by
        intro hn' X hX
        rw [hX]
        refine ih (k + 1) f (by omega) (by omega) (by omega) (fun r l h1 h2 h3 => ?_)
        by_cases e : r = k
        · subst e; exact hn' l h3
        · exact hno r l h1 (by omega) h3
      have b101n : f_X11_evens_67_b101 I L k3 k13 (f_X11_evens_67_l24 I L k3 k13 f) T (nI lw) (nI rw) (nI n) (nI a) (nI k) 0 = f_X11_evens_67_l24 I L k3 k13 f T (nI lw) (nI rw) (nI n) (nI a) (nI (k + 1)) := by
        unfold f_X11_evens_67_b101; rw [if_pos rfl, lt_eq, inc_nI]
      have b101y : f_X11_evens_67_b101 I L k3 k13 (f_X11_evens_67_l24 I L k3 k13 f) T (nI lw) (nI rw) (nI n) (nI a) (nI k) 1 = some (nI n) := by
        unfold f_X11_evens_67_b101; rw [if_neg (by decide)]
      have b100 : f_X11_evens_67_b100 I L k3 k13 (f_X11_evens_67_l24 I L k3 k13 f) T (nI lw) (nI rw) (nI n) (nI a) (nI k) = f_X11_evens_67_l24 I L k3 k13 f T (nI lw) (nI rw) (nI n) (nI a) (nI (k + 1)) := by
        unfold f_X11_evens_67_b100; exact b101n
      rw [f_X11_evens_67_l24, show (6 : Int32) * nI a = nI (6 * a) from n_mul 6 a, if_neg (by rw [lt_nI (by omega) (by omega)]; omega), lt_eq, esub, show (6 : Int32) * nI (n - a) = nI (6 * (n - a)) from n_mul 6 _, lt_eq, b101n, b101y, b100]
      generalize T + nI rw * nI k = V at *
      by_cases z : lw = 0
      · subst z
        rw [if_pos (show nI 0 = (0 : Int32) from rfl)]
        by_cases q : V = 0
        · rw [if_pos q]
          have hV : V.toInt = 0 := by rw [q]; decide
          exact found 0 ⟨by omega, fun _ => rfl⟩ (fun y => absurd rfl y) _ rfl
        · rw [if_neg q]
          refine next (fun l hl _ => q ?_) _ rfl
          apply Int32.toInt_inj.mp
          have := hl.1
          rw [rt, this]; rw [Nat.mul_zero]; decide
      · have nzl : nz (nI lw) = true := by
          unfold nz
          have : ¬ nI lw = 0 := fun y => z ((eq_nI (b := 0) (by omega) (by omega)).mp y)
          simp [this]
        rw [if_neg (show ¬ nI lw = (0 : Int32) from fun y => z ((eq_nI (b := 0) (by omega) (by omega)).mp y)), ck_t nzl, ck_t nzl, in_eq, Int32.toInt_toInt64, Int32.toInt_toInt64, Int32.toInt_toInt64, t_nI (by omega), t_nI (by omega)]
        simp only [Option.bind_some, bit_ite]
        by_cases q : ∃ l, Sol t lw rw k l ∧ n - a ≤ l ∧ l ≤ 6 * (n - a)
        · obtain ⟨l, h1, h2, h3⟩ := q
          have hl10 : l * lw ≤ 180 * 10 := Nat.mul_le_mul (by omega) hlw
          have eV : V = nI (l * lw) := by
            apply Int32.toInt_inj.mp
            have := h1.1
            rw [rt, this, t_nI (by omega)]
          have ed : nI (l * lw) / nI lw = nI l := by rw [div_nI (by omega) (by omega) (by omega), Nat.mul_div_cancel l (by omega)]
          have em : nI (l * lw) - nI (l * lw) / nI lw * nI lw = 0 := by rw [rem_nI (by omega) (by omega) (by omega), Nat.mul_mod_left]; rfl
          rw [eV, if_pos em, ed, t_nI (by omega), if_pos ⟨by omega, by omega⟩]
          exact found l h1 (fun _ => ⟨h2, h3⟩) _ rfl
        · have nn : ∀ l, Sol t lw rw k l → ¬ (lw ≠ 0 → n - a ≤ l ∧ l ≤ 6 * (n - a)) := fun l hl hy => q ⟨l, hl, hy z⟩
          by_cases q2 : V - V / nI lw * nI lw = 0
          · rw [if_pos q2]
            by_cases q3 : ((n - a : Nat) : Int) ≤ (V / nI lw).toInt ∧ (V / nI lw).toInt ≤ ((6 * (n - a) : Nat) : Int)
            · exfalso
              obtain ⟨l, hl, el, -⟩ := ofI (a := V / nI lw) (n := 181) (by omega) (by omega)
              rw [el] at q2 q3
              rw [t_nI (by omega)] at q3
              have hl10 : l * lw ≤ 180 * 10 := Nat.mul_le_mul (by omega) hlw
              have eV : V = nI (l * lw) := by
                have := congrArg (fun y => y + nI l * nI lw) q2
                simp only [Int32.sub_add_cancel, Int32.zero_add] at this
                rw [this, n_mul]
              refine q ⟨l, ⟨?_, fun y => absurd y z⟩, by omega, by omega⟩
              rw [← rt, eV, t_nI (by omega)]
            · rw [if_neg q3]
              exact next nn _ rfl
          · rw [if_neg q2]
            exact next nn _ rfl
  exact key (5 * a + 1) a fuel (by omega) (fuel_gt (by omega)) (Nat.le_refl _) (fun r l h1 h2 => absurd h2 (by omega))
theorem ev_b {T : Int32} {t : Int} (hT : T.toInt = t) (ht : -50000 ≤ t ∧ t ≤ 50000) {lw rw n : Nat} (hlw : lw ≤ 10) (hrw : rw ≤ 10) (hn : n ≤ 30) (k3 : Int32 → Int32 → Int32 → Int32 → Option Int32) : (Rn t lw rw n ∧ f_X11_evens_67_l13 I L k3 fuel T (nI lw) (nI rw) (nI n) 0 = some (nI n)) ∨ (¬ Rn t lw rw n ∧ f_X11_evens_67_l13 I L k3 fuel T (nI lw) (nI rw) (nI n) 0 = k3 T (nI lw) (nI rw) (nI (n + 1))) := by
  have key : ∀ (d k f : Nat), k + d = n + 1 → d < f → (∀ a r l, a < k → a ≤ r → r ≤ 6 * a → Sol t lw rw r l → ¬ (lw ≠ 0 → n - a ≤ l ∧ l ≤ 6 * (n - a))) → (Rn t lw rw n ∧ f_X11_evens_67_l13 I L k3 f T (nI lw) (nI rw) (nI n) (nI k) = some (nI n)) ∨ (¬ Rn t lw rw n ∧ f_X11_evens_67_l13 I L k3 f T (nI lw) (nI rw) (nI n) (nI k) = k3 T (nI lw) (nI rw) (nI (n + 1))) := by
    intro d
    induction d with
    | zero =>
      intro k f hk hf hno
      obtain ⟨f, rfl⟩ : ∃ j, f = j + 1 := ⟨f - 1, by omega⟩
      refine Or.inr ⟨fun ⟨a, r, l, h1, h2, h3, h4, h5⟩ => hno a r l (by omega) h2 h3 h4 h5, ?_⟩
      rw [f_X11_evens_67_l13, if_pos (by rw [lt_nI (by omega) (by omega)]; omega), lt_eq, inc_nI]
    | succ d ih =>
      intro k f hk hf hno
      obtain ⟨f, rfl⟩ : ∃ j, f = j + 1 := ⟨f - 1, by omega⟩
      rw [f_X11_evens_67_l13, if_neg (by rw [lt_nI (by omega) (by omega)]; omega)]
      rcases ev_c (I := I) (L := L) hT ht hlw hrw hn (show k ≤ n by omega) k3 (f_X11_evens_67_l13 I L k3 f) with ⟨⟨r, l, h1, h2, h3, h4⟩, e⟩ | ⟨h1, e⟩
      · exact Or.inl ⟨⟨k, r, l, by omega, h1, h2, h3, h4⟩, e⟩
      · rw [e]
        refine ih (k + 1) f (by omega) (by omega) (fun a r l ha h2 h3 h4 => ?_)
        by_cases z : a = k
        · subst z; exact h1 r l h2 h3 h4
        · exact hno a r l (by omega) h2 h3 h4
  exact key (n + 1) 0 fuel (by omega) (fuel_gt (by omega)) (fun a r l ha => absurd ha (by omega))
theorem ev_eq {T : Int32} {t : Int} (hT : T.toInt = t) (ht : -50000 ≤ t ∧ t ≤ 50000) {lw rw : Nat} (hlw : lw ≤ 10) (hrw : rw ≤ 10) : (∃ n, n ≤ 30 ∧ f_X11_evens_67 I L T (nI lw) (nI rw) = some (nI n) ∧ Rn t lw rw n ∧ ∀ n', n' < n → ¬ Rn t lw rw n') ∨ (f_X11_evens_67 I L T (nI lw) (nI rw) = some (-4) ∧ ∀ n', n' ≤ 30 → ¬ Rn t lw rw n') := by
  unfold f_X11_evens_67
  have key : ∀ (d k f : Nat), k + d = 31 → d < f → (∀ n', n' < k → ¬ Rn t lw rw n') → (∃ n, n ≤ 30 ∧ f_X11_evens_67_l3 I L f T (nI lw) (nI rw) (nI k) = some (nI n) ∧ Rn t lw rw n ∧ ∀ n', n' < n → ¬ Rn t lw rw n') ∨ (f_X11_evens_67_l3 I L f T (nI lw) (nI rw) (nI k) = some (-4) ∧ ∀ n', n' ≤ 30 → ¬ Rn t lw rw n') := by
    intro d
    induction d with
    | zero =>
      intro k f hk hf hno
      obtain ⟨f, rfl⟩ : ∃ j, f = j + 1 := ⟨f - 1, by omega⟩
      refine Or.inr ⟨?_, fun n' h => hno n' (by omega)⟩
      rw [f_X11_evens_67_l3, show (30 : Int32) = nI 30 from rfl, if_pos (by rw [lt_nI (by omega) (by omega)]; omega)]
    | succ d ih =>
      intro k f hk hf hno
      obtain ⟨f, rfl⟩ : ∃ j, f = j + 1 := ⟨f - 1, by omega⟩
      rw [f_X11_evens_67_l3, show (30 : Int32) = nI 30 from rfl, if_neg (by rw [lt_nI (by omega) (by omega)]; omega)]
      rcases ev_b (I := I) (L := L) hT ht hlw hrw (show k ≤ 30 by omega) (f_X11_evens_67_l3 I L f) with ⟨h1, e⟩ | ⟨h1, e⟩
      · exact Or.inl ⟨k, by omega, e, h1, hno⟩
      · rw [e]
        refine ih (k + 1) f (by omega) (by omega) (fun n' h => ?_)
        by_cases z : n' = k
        · subst z; exact h1
        · exact hno n' (by omega)
  exact key 31 0 fuel (by omega) (fuel_gt (by omega)) (fun n' h => absurd h (by omega))
/-- both say the same -/
theorem even_same {T : Int32} {t : Int} (hT : T.toInt = t) (ht : -50000 ≤ t ∧ t ≤ 50000) {lw rw : Nat} (hlw : lw ≤ 10) (hrw : rw ≤ 10) : ∃ b e x, f_X0_fewest I L T (nI lw) (nI rw) = some b ∧ f_X11_evens_67 I L T (nI lw) (nI rw) = some e ∧ (if b ≤ 30 then some b else some (-1000004)) = some x ∧ (if e = -4 then some (-1000004) else some e) = some x := by
  obtain ⟨b, h1, h2, h3, h4⟩ := few_eq (I := I) (L := L) hT ht hlw hrw
  rcases ev_eq (I := I) (L := L) hT ht hlw hrw with ⟨n, hn, g1, g2, g3⟩ | ⟨g1, g2⟩
  · obtain ⟨r, l, k1, k2, k3⟩ := g2.sol hn
    have le := h4 r l k1 k2
    have : b = n := by
      apply Classical.byContradiction
      intro q
      rcases h3 with e | ⟨r', l', j1, j2, j3⟩
      · omega
      · exact g3 b (by omega) (j3 ▸ sol_rn j2)
    subst this
    refine ⟨nI b, nI b, nI b, h1, g1, by rw [if_pos (by rw [show (30 : Int32) = nI 30 from rfl, le_nI (by omega) (by omega)]; exact hn)], ?_⟩
    rw [if_neg (fun z => by
      have := congrArg Int32.toInt z
      rw [t_nI (by omega)] at this
      have q4 : (-4 : Int32).toInt = -4 := by decide
      omega)]
  · have : b = 31 := by
      rcases h3 with e | ⟨r', l', j1, j2, j3⟩
      · exact e
      · apply Classical.byContradiction
        intro q
        exact g2 b (by omega) (j3 ▸ sol_rn j2)
    subst this
    exact ⟨nI 31, -4, -1000004, h1, g1, by rw [if_neg (by decide)], by rw [if_pos rfl]⟩
end Even
