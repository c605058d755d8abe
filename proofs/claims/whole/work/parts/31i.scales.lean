/-! scales -/
theorem bc_tab : ∀ m, m < 256 → f_J6_bitCount_0f7a4 (fun _ _ => 0) (fun _ _ => 0) (nI m) = some (nI (cb m 8)) := by decide +kernel
theorem bc_eq {I : mI} {L : mL} {m : Nat} (hm : m < 256) : f_J6_bitCount_0f7a4 I L (nI m) = some (nI (cb m 8)) := bc_tab m hm
theorem low_tab : ∀ m, m < 256 → m ≠ 0 → m &&& (m - 1) < 256 ∧ cb (m &&& (m - 1)) 8 + 1 = cb m 8 := by decide +kernel
theorem cb0_tab : ∀ m, m < 256 → cb m 8 = 0 → m = 0 := by decide +kernel
theorem all_tab : ∀ n, n ≤ 8 → ∀ b, b < 2 ^ n - 1 → cb b 8 < cb (2 ^ n - 1) 8 := by decide +kernel
theorem bits_eq {I : mI} {L : mL} {m : Nat} (hm : m < 256) : f_X11_bits I L (nI m) = some (nI (cb m 8)) := by
  have key : ∀ (t m c f : Nat), m < 256 → cb m 8 = t → t < f → f_X11_bits_l4 I L f (nI c) (nI m) = some (nI (c + t)) := by
    intro t
    induction t with
    | zero =>
      intro m c f hm ht hf
      obtain ⟨f, rfl⟩ : ∃ j, f = j + 1 := ⟨f - 1, by omega⟩
      rw [f_X11_bits_l4, cb0_tab m hm ht, if_pos (show nI 0 = (0 : Int32) from rfl)]; rfl
    | succ t ih =>
      intro m c f hm ht hf
      obtain ⟨f, rfl⟩ : ∃ j, f = j + 1 := ⟨f - 1, by omega⟩
      have h0 : m ≠ 0 := fun z => by
        subst z
        have : cb 0 8 = 0 := by decide
        omega
      have tab := low_tab m hm h0
      obtain ⟨j, rfl⟩ : ∃ j, m = j + 1 := ⟨m - 1, by omega⟩
      rw [f_X11_bits_l4, if_neg (show ¬ nI (j + 1) = (0 : Int32) from fun z => h0 ((eq_nI (b := 0) (by omega) (by omega)).mp z)), lt_eq, lt_eq, inc_nI, nI_pred, and_nI]
      have := ih ((j + 1) &&& j) (c + 1) f tab.1 (by have := tab.2; rw [Nat.add_sub_cancel] at this; omega) (by omega)
      rw [this]; congr 2; omega
  unfold f_X11_bits
  have := key (cb m 8) m 0 fuel hm rfl (fuel_gt (by have := cb_le m 8; omega))
  rw [Nat.zero_add] at this
  exact this
theorem mask0 {m : Nat} (hm : m < 256) : m = 0 ↔ ∀ i, i < 8 → ¬ m.testBit i = true := by
  constructor
  · intro h i _; subst h; rw [Nat.zero_testBit]; simp
  · intro h
    apply Nat.eq_of_testBit_eq
    intro i
    rw [Nat.zero_testBit]
    by_cases q : i < 8
    · simpa using h i q
    · exact bit_out (n := 8) hm (by omega)
/-- what it is bought and sold for -/
def pd (v : mV) (g set p : Nat) : Nat := v (105 + g) * (if set.testBit p = true then 5 * v (99 + g) else wV v p (v (99 + g)))
/-- no gain from a to b -/
def QE (v : mV) (ca g set a b : Nat) : Prop := DD v ca (v (99 + g)) 0 a b < 100000000 → pd v g set b ≤ pd v g set a + DD v ca (v (99 + g)) 0 a b
def EndP (v : mV) (ca g set : Nat) : Prop := ∀ a b, a < v 0 → b < v 0 → QE v ca g set a b
/-- the fewest, the first of these -/
def IsB (E : Nat → Prop) (k b : Nat) : Prop := b < k ∧ E b ∧ ∀ s, s < k → E s → cb b 8 < cb s 8 ∨ (cb b 8 = cb s 8 ∧ b ≤ s)
theorem IsB.uniq {E : Nat → Prop} {k b b' : Nat} (h : IsB E k b) (g : IsB E k b') : b = b' := by
  have h1 := h.2.2 b' g.1 g.2.1
  have h2 := g.2.2 b h.1 h.2.1
  omega
/-- what one set more makes of it -/
theorem IsB.none {E : Nat → Prop} {k : Nat} (h : ∀ s, s < k → ¬ E s) (he : E k) : IsB E (k + 1) k := by
  refine ⟨by omega, he, fun s hs hE => ?_⟩
  by_cases q : s = k
  · subst q; exact Or.inr ⟨rfl, Nat.le_refl _⟩
  · exact absurd hE (h s (by omega))
theorem IsB.less {E : Nat → Prop} {k b : Nat} (h : IsB E k b) (hl : cb k 8 < cb b 8) (he : E k) : IsB E (k + 1) k := by
  refine ⟨by omega, he, fun s hs hE => ?_⟩
  by_cases q : s = k
  · subst q; exact Or.inr ⟨rfl, Nat.le_refl _⟩
  · have := h.2.2 s (by omega) hE; omega
theorem IsB.keep {E : Nat → Prop} {k b : Nat} (h : IsB E k b) (hl : cb b 8 ≤ cb k 8 ∨ ¬ E k) : IsB E (k + 1) b := by
  refine ⟨by have := h.1; omega, h.2.1, fun s hs hE => ?_⟩
  by_cases q : s = k
  · subst q
    rcases hl with hl | hl
    · have := h.1; omega
    · exact absurd hE hl
  · exact h.2.2 s (by omega) hE
section Scales
variable {I J : mI} {L : mL} {v : mV}
theorem pd_le (hw : WF v) {g set p : Nat} (hg : g < v 3) (hp : p < v 0) : pd v g set p ≤ 8910 := by
  have gb := hw.goodb g hg
  have h2 := wV_le hw hp (m := v (99 + g))
  unfold pd
  have : v (105 + g) * (if set.testBit p = true then 5 * v (99 + g) else wV v p (v (99 + g))) ≤ 9 * 990 := Nat.mul_le_mul gb.2.1.2 (by split <;> omega)
  omega
theorem paid_eq (hw : WF v) (hm : MH I 68 v) {g set p : Nat} (hg : g < v 3) (hp : p < v 0) (hs : set < 256) : f_X11_paid_67 I L (nI g) (nI p) (nI set) = some (nI (pd v g set p)) := by
  have sz := hw.sz
  have gb := hw.goodb g hg
  unfold f_X11_paid_67 pd
  rw [show (105 : Int32) + nI g = nI (105 + g) from n_add 105 g, show (99 : Int32) + nI g = nI (99 + g) from n_add 99 g, ck_nI (by omega) (by omega), c_nI (by omega), c_nI (by omega), hm.n _ (by omega), hm.n _ (by omega), ck_nI (by omega) (by omega), ck_nI (by omega) (by omega), mweight_eq hw hm hp (by omega), Option.bind_some, show (5 : Int32) = nI 5 from rfl, n_mul, n_mul, n_mul]
  by_cases q : set.testBit p = true
  · rw [if_pos ((bit1 (by omega) (by omega)).mpr q), if_pos q]
  · rw [if_neg (fun z => q ((bit1 (by omega) (by omega)).mp z)), if_neg q]
/-- the reference: is it ended -/
theorem isEnded_b (hw : WF v) (hm : MH I 68 v) {ca g a set : Nat} (hca : ca < v 2) (hg : g < v 3) (ha : a < v 0) (hs : set < 256) (hD : MD I v ca (v (99 + g)) 0) (k5 : Int32 → Int32 → Int32 → Int32 → Option Int32) {P : Prop} {x : Int32} (hx : (x = 1 ∧ P) ∨ (x = 0 ∧ ¬ P)) : ∃ y, f_X11_isEnded_67_l19 I L k5 fuel (nI g) (nI set) x (nI a) 0 = k5 (nI g) (nI set) y (nI (a + 1)) ∧ ((y = 1 ∧ P ∧ ∀ b, b < v 0 → QE v ca g set a b) ∨ (y = 0 ∧ ¬ (P ∧ ∀ b, b < v 0 → QE v ca g set a b))) := by
  have sz := hw.sz
  have gb := hw.goodb g hg
  obtain ⟨m', y, hI, hF⟩ := loop_inv (F := fun f k (x : Int32) => f_X11_isEnded_67_l19 I L k5 f (nI g) (nI set) x (nI a) (nI k)) (n := v 0)
    (Inv := fun k x => (x = 1 ∧ P ∧ ∀ b, b < k → QE v ca g set a b) ∨ (x = 0 ∧ ¬ (P ∧ ∀ b, b < k → QE v ca g set a b)))
    (fun f k x hk hI => by
      have dl := DD_le hw hca gb.1.2 (show 0 < 256 by omega) ha hk
      have p1 := pd_le hw (set := set) hg hk
      have p2 := pd_le hw (set := set) hg ha
      show ∃ x', _ ∧ f_X11_isEnded_67_l19 I L k5 (f + 1) (nI g) (nI set) x (nI a) (nI k) = f_X11_isEnded_67_l19 I L k5 f (nI g) (nI set) x' (nI a) (nI (k + 1))
      rw [f_X11_isEnded_67_l19, cl0, hm.n 0 (by omega), if_neg (by rw [le_nI (by omega) (by omega)]; omega)]
      rcases hI with ⟨rfl, h1, h2⟩ | ⟨rfl, h1⟩
      · rw [if_neg (by decide), show (8 : Int32) * nI a = nI (8 * a) from n_mul 8 a, n_add, ck_nI (by omega) (by omega), c_nI (by omega), hD a k ha hk, paid_eq hw hm hg hk hs, paid_eq hw hm hg ha hs, Option.bind_some, Option.bind_some, ck_nI (by omega) (by omega), show (100000000 : Int32) = nI 100000000 from rfl]
        simp only [lt_eq, inc_nI]
        have up : QE v ca g set a k → ∀ b, b < k + 1 → QE v ca g set a b := by
          intro q b hb
          by_cases z : b = k
          · subst z; exact q
          · exact h2 b (by omega)
        by_cases q : DD v ca (v (99 + g)) 0 a k < 100000000
        · rw [if_neg (by rw [le_nI (by omega) (by omega)]; omega)]
          by_cases z : pd v g set k ≤ pd v g set a + DD v ca (v (99 + g)) 0 a k
          · exact ⟨1, Or.inl ⟨rfl, h1, up (fun _ => z)⟩, by rw [if_neg (by rw [Int32.lt_iff_toInt_lt, t_nI (by omega), sub_t (by omega) (by omega)]; omega)]⟩
          · exact ⟨0, Or.inr ⟨rfl, fun w => z (w.2 k (by omega) q)⟩, by rw [if_pos (by rw [Int32.lt_iff_toInt_lt, t_nI (by omega), sub_t (by omega) (by omega)]; omega)]⟩
        · exact ⟨1, Or.inl ⟨rfl, h1, up (fun w => absurd w q)⟩, by rw [if_pos (by rw [le_nI (by omega) (by omega)]; omega)]⟩
      · exact ⟨0, Or.inr ⟨rfl, fun w => h1 ⟨w.1, fun b hb => w.2 b (by omega)⟩⟩, by rw [if_pos rfl, lt_eq, inc_nI]⟩)
    (v 0) 0 x fuel (by omega) (by
      rcases hx with ⟨h1, h2⟩ | ⟨h1, h2⟩
      · exact Or.inl ⟨h1, h2, fun b hb => absurd hb (by omega)⟩
      · exact Or.inr ⟨h1, fun w => h2 w.1⟩) (fuel_gt (by omega))
  have hF' : f_X11_isEnded_67_l19 I L k5 fuel (nI g) (nI set) x (nI a) 0 = f_X11_isEnded_67_l19 I L k5 (m' + 1) (nI g) (nI set) y (nI a) (nI (v 0)) := hF
  refine ⟨y, ?_, hI⟩
  rw [hF', f_X11_isEnded_67_l19, cl0, hm.n 0 (by omega), if_pos (by rw [le_nI (by omega) (by omega)]; omega), lt_eq, inc_nI]
theorem isEnded_eq (hw : WF v) (hm : MH I 68 v) {ca g set : Nat} (hca : ca < v 2) (hg : g < v 3) (hs : set < 256) (hD : MD I v ca (v (99 + g)) 0) : ∃ y, f_X11_isEnded_67 I L (nI g) (nI set) = some y ∧ ((y = 1 ∧ EndP v ca g set) ∨ (y = 0 ∧ ¬ EndP v ca g set)) := by
  have sz := hw.sz
  unfold f_X11_isEnded_67
  obtain ⟨m', y, hI, hF⟩ := loop_inv (F := fun f k (x : Int32) => f_X11_isEnded_67_l5 I L f (nI g) (nI set) x (nI k)) (n := v 0)
    (Inv := fun k x => (x = 1 ∧ ∀ a, a < k → ∀ b, b < v 0 → QE v ca g set a b) ∨ (x = 0 ∧ ¬ ∀ a, a < k → ∀ b, b < v 0 → QE v ca g set a b))
    (fun f k x hk hI => by
      obtain ⟨y, h1, h2⟩ := isEnded_b (L := L) hw hm hca hg hk hs hD (f_X11_isEnded_67_l5 I L f) hI
      refine ⟨y, ?_, ?_⟩
      · rcases h2 with ⟨e, h3, h4⟩ | ⟨e, h3⟩
        · refine Or.inl ⟨e, fun a ha b hb => ?_⟩
          by_cases z : a = k
          · subst z; exact h4 b hb
          · exact h3 a (by omega) b hb
        · exact Or.inr ⟨e, fun w => h3 ⟨fun a ha => w a (by omega), w k (by omega)⟩⟩
      · show f_X11_isEnded_67_l5 I L (f + 1) (nI g) (nI set) x (nI k) = _
        rw [f_X11_isEnded_67_l5, cl0, hm.n 0 (by omega), if_neg (by rw [le_nI (by omega) (by omega)]; omega)]
        exact h1)
    (v 0) 0 1 fuel (by omega) (Or.inl ⟨rfl, fun a ha => absurd ha (by omega)⟩) (fuel_gt (by omega))
  have hF' : f_X11_isEnded_67_l5 I L fuel (nI g) (nI set) 1 0 = f_X11_isEnded_67_l5 I L (m' + 1) (nI g) (nI set) y (nI (v 0)) := hF
  refine ⟨y, ?_, ?_⟩
  · rw [hF', f_X11_isEnded_67_l5, cl0, hm.n 0 (by omega), if_pos (by rw [le_nI (by omega) (by omega)]; omega), ck_t (by rcases hI with ⟨rfl, -⟩ | ⟨rfl, -⟩ <;> decide)]
  · rcases hI with ⟨e, h⟩ | ⟨e, h⟩
    · exact Or.inl ⟨e, fun a b ha hb => h a ha b hb⟩
    · exact Or.inr ⟨e, fun w => h (fun a ha b hb => w a b ha hb)⟩
theorem end_all {ca g : Nat} : EndP v ca g (2 ^ v 0 - 1) := by
  intro a b ha hb q
  have e : ∀ x, x < v 0 → pd v g (2 ^ v 0 - 1) x = v (105 + g) * (5 * v (99 + g)) := by
    intro x hx
    unfold pd
    rw [if_pos (by rw [Nat.testBit_two_pow_sub_one]; simpa using hx)]
  rw [e a ha, e b hb]; omega
theorem mscales (hw : WF v) (hm : MH I 68 v) {ca g : Nat} (hca : ca < v 2) (hg : g < v 3) (hD : MD I v ca (v (99 + g)) 0) : ∃ b, f_X11_scales_67_l39 fuel (nI g) (-4) 0 I L = some (nI b, I, L) ∧ IsB (EndP v ca g) (2 ^ v 0) b := by
  have sz := hw.sz
  have p8 : 2 ^ v 0 ≤ 2 ^ 8 := Nat.pow_le_pow_right (by omega) (by omega)
  have p0 : 0 < 2 ^ v 0 := Nat.two_pow_pos (v 0)
  have esh : (1 : Int32) <<< (nI (v 0) &&& 31) = nI (2 ^ v 0) := shl_nI (by omega)
  obtain ⟨m', x, hI, hF⟩ := loop_inv (F := fun f k (x : Int32) => f_X11_scales_67_l39 f (nI g) x (nI k) I L) (n := 2 ^ v 0)
    (Inv := fun k x => (x = -4 ∧ ∀ s, s < k → ¬ EndP v ca g s) ∨ (∃ b, x = nI b ∧ IsB (EndP v ca g) k b))
    (fun f k x hk hI => by
      obtain ⟨y, e1, e2⟩ := isEnded_eq (L := L) hw hm hca hg (show k < 256 by omega) hD
      have e70 : ∀ x, f_X11_scales_67_b70 I L (f_X11_scales_67_l39 f) (nI g) x (nI k) = if y = 0 then f_X11_scales_67_l39 f (nI g) x (nI (k + 1)) I L else f_X11_scales_67_l39 f (nI g) (nI k) (nI (k + 1)) I L := by
        intro x
        unfold f_X11_scales_67_b70 f_X11_scales_67_b75
        rw [if_neg (by decide), e1, Option.bind_some, lt_eq, lt_eq, inc_nI]
      show ∃ x', _ ∧ f_X11_scales_67_l39 (f + 1) (nI g) x (nI k) I L = f_X11_scales_67_l39 f (nI g) x' (nI (k + 1)) I L
      rw [f_X11_scales_67_l39, cl0, hm.n 0 (by omega), esh, if_neg (by rw [le_nI (by omega) (by omega)]; omega), e70]
      rcases hI with ⟨rfl, h1⟩ | ⟨b, rfl, h1⟩
      · rw [if_pos rfl]
        rcases e2 with ⟨rfl, h2⟩ | ⟨rfl, h2⟩
        · exact ⟨nI k, Or.inr ⟨k, rfl, IsB.none h1 h2⟩, by rw [if_neg (by decide)]⟩
        · refine ⟨-4, Or.inl ⟨rfl, fun s hs => ?_⟩, by rw [if_pos rfl]⟩
          by_cases z : s = k
          · subst z; exact h2
          · exact h1 s (by omega)
      · have hb := h1.1
        have c1 := cb_le k 8
        have c2 := cb_le b 8
        rw [if_neg (fun z => by
          have := congrArg Int32.toInt z
          rw [t_nI (by omega)] at this
          have q4 : (-4 : Int32).toInt = -4 := by decide
          omega), bits_eq (by omega), bits_eq (by omega), Option.bind_some, Option.bind_some]
        by_cases q : cb b 8 ≤ cb k 8
        · refine ⟨nI b, Or.inr ⟨b, rfl, h1.keep (Or.inl q)⟩, ?_⟩
          rw [if_pos (by rw [le_nI (by omega) (by omega)]; exact q)]
          unfold f_X11_scales_67_b75
          rw [if_pos rfl, lt_eq, inc_nI]
        · rw [if_neg (by rw [le_nI (by omega) (by omega)]; exact q)]
          rcases e2 with ⟨rfl, h2⟩ | ⟨rfl, h2⟩
          · exact ⟨nI k, Or.inr ⟨k, rfl, h1.less (by omega) h2⟩, by rw [if_neg (by decide)]⟩
          · exact ⟨nI b, Or.inr ⟨b, rfl, h1.keep (Or.inr h2)⟩, by rw [if_pos rfl]⟩)
    (2 ^ v 0) 0 (-4) fuel (by omega) (Or.inl ⟨rfl, fun s hs => absurd hs (by omega)⟩) (fuel_gt (by omega))
  have hF' : f_X11_scales_67_l39 fuel (nI g) (-4) 0 I L = f_X11_scales_67_l39 (m' + 1) (nI g) x (nI (2 ^ v 0)) I L := hF
  rcases hI with ⟨-, h⟩ | ⟨b, rfl, h⟩
  · exact absurd (end_all (v := v) (ca := ca) (g := g)) (h _ (by omega))
  · refine ⟨b, ?_, h⟩
    rw [hF', f_X11_scales_67_l39, cl0, hm.n 0 (by omega), esh, if_pos (by rw [le_nI (by omega) (by omega)]; omega)]
end Scales
