/-! ways: walks, the first one of the least, pure -/
def Wk (n t : Nat) (tg : Nat → Nat → Prop) : Nat → Nat → Nat → Prop
  | 0, _, a => a = t
  | k + 1, A, a => a = t ∨ ∃ p, p < n ∧ A.testBit p = true ∧ tg a p ∧ Wk n t tg k A p
def Rc (n t : Nat) (tg : Nat → Nat → Prop) (A a : Nat) : Prop := ∃ k, Wk n t tg k A a
section Walk
variable {n t : Nat} {tg : Nat → Nat → Prop}
theorem Wk.one {k A a : Nat} (h : Wk n t tg k A a) : Wk n t tg (k + 1) A a := by
  induction k generalizing a with
  | zero => exact Or.inl h
  | succ k ih =>
    rcases h with h | ⟨p, h1, h2, h3, h4⟩
    · exact Or.inl h
    · exact Or.inr ⟨p, h1, h2, h3, ih h4⟩
theorem Wk.up {k A a : Nat} (h : Wk n t tg k A a) : ∀ j, k ≤ j → Wk n t tg j A a := by
  intro j hj
  obtain ⟨d, rfl⟩ : ∃ d, j = k + d := ⟨j - k, by omega⟩
  clear hj
  induction d with
  | zero => exact h
  | succ d ih => exact ih.one
theorem Wk.sub {k A B a : Nat} (hs : ∀ i, i < n → A.testBit i = true → B.testBit i = true) (h : Wk n t tg k A a) : Wk n t tg k B a := by
  induction k generalizing a with
  | zero => exact h
  | succ k ih =>
    rcases h with h | ⟨p, h1, h2, h3, h4⟩
    · exact Or.inl h
    · exact Or.inr ⟨p, h1, hs p h1 h2, h3, ih h4⟩
theorem wo_b {A a i : Nat} (hi : i < 32) : (mwo A (2 ^ a)).testBit i = true ↔ A.testBit i = true ∧ i ≠ a := by
  rw [mwo_bit hi, Nat.testBit_two_pow]
  by_cases e : a = i
  · subst e; simp
  · simp [e, Ne.symm e]
/-- it comes by a, or can do without -/
theorem Wk.or {k A p : Nat} (a : Nat) (hn : n ≤ 8) (h : Wk n t tg k A p) : Wk n t tg k (mwo A (2 ^ a)) p ∨ ∃ k', k' < k ∧ Wk n t tg k' A a := by
  induction k generalizing p with
  | zero => exact Or.inl h
  | succ k ih =>
    rcases h with h | ⟨q, h1, h2, h3, h4⟩
    · exact Or.inl (Or.inl h)
    · by_cases e : q = a
      · subst e; exact Or.inr ⟨k, by omega, h4⟩
      · rcases ih h4 with z | ⟨k', z1, z2⟩
        · exact Or.inl (Or.inr ⟨q, h1, (wo_b (by omega)).mpr ⟨h2, e⟩, h3, z⟩)
        · exact Or.inr ⟨k', by omega, z2⟩
theorem Wk.self {A a : Nat} (hn : n ≤ 8) : ∀ (m k : Nat), k ≤ m → Wk n t tg k A a → Wk n t tg k (mwo A (2 ^ a)) a := by
  intro m
  induction m with
  | zero =>
    intro k hk h
    have : k = 0 := by omega
    subst this
    exact h
  | succ m ih =>
    intro k hk h
    cases k with
    | zero => exact h
    | succ k =>
      rcases h with h | ⟨p, h1, h2, h3, h4⟩
      · exact Or.inl h
      · by_cases e : p = a
        · subst e
          exact (ih k (by omega) h4).one
        · rcases h4.or a hn with z | ⟨k', z1, z2⟩
          · exact Or.inr ⟨p, h1, (wo_b (by omega)).mpr ⟨h2, e⟩, h3, z⟩
          · exact (ih k' (by omega) z2).up _ (by omega)
theorem Rc.self {A a : Nat} (hn : n ≤ 8) (h : Rc n t tg A a) : Rc n t tg (mwo A (2 ^ a)) a := by
  obtain ⟨k, h⟩ := h
  exact ⟨k, Wk.self hn k k (Nat.le_refl _) h⟩
theorem Rc.back {A a : Nat} (hn : n ≤ 8) (h : Rc n t tg (mwo A (2 ^ a)) a) : Rc n t tg A a := by
  obtain ⟨k, h⟩ := h
  exact ⟨k, h.sub (fun i hi z => ((wo_b (by omega)).mp z).1)⟩
/-- the first good step -/
def LG (n t : Nat) (tg : Nat → Nat → Prop) (A a p : Nat) : Prop := (p < n ∧ A.testBit p = true ∧ tg a p ∧ Rc n t tg A p) ∧ ∀ q, q < p → ¬ (A.testBit q = true ∧ tg a q ∧ Rc n t tg A q)
theorem LG.uniq {A a p p' : Nat} (h : LG n t tg A a p) (g : LG n t tg A a p') : p = p' := by
  apply Classical.byContradiction
  intro e
  by_cases l : p < p'
  · exact g.2 p l h.1.2
  · exact h.2 p' (by omega) g.1.2
theorem LG.ex {A a : Nat} (h : Rc n t tg A a) (ha : a ≠ t) : ∃ p, LG n t tg A a p := by
  obtain ⟨k, h⟩ := h
  cases k with
  | zero => exact absurd h ha
  | succ k =>
    rcases h with h | ⟨p, h1, h2, h3, h4⟩
    · exact absurd h ha
    · have key : ∀ m p, p ≤ m → (p < n ∧ A.testBit p = true ∧ tg a p ∧ Rc n t tg A p) → ∃ p, LG n t tg A a p := by
        intro m
        induction m with
        | zero => intro p hp hq; exact ⟨p, hq, fun q hq' => absurd hq' (by omega)⟩
        | succ m ih =>
          intro p hp hq
          by_cases z : ∃ q, q < p ∧ (A.testBit q = true ∧ tg a q ∧ Rc n t tg A q)
          · obtain ⟨q, z1, z2⟩ := z
            exact ih q (by omega) ⟨by have := hq.1; omega, z2⟩
          · exact ⟨p, hq, fun q h1 h2 => z ⟨q, h1, h2⟩⟩
      exact key p p (Nat.le_refl _) ⟨h1, h2, h3, k, h4⟩
/-- the first one of the ways: where it is, what is left -/
noncomputable def gq (n t : Nat) (tg : Nat → Nat → Prop) (s : Nat) : Nat → Nat × Nat
  | 0 => (s, mwo (2 ^ n - 1) (2 ^ s))
  | k + 1 => (@Classical.epsilon Nat ⟨0⟩ (LG n t tg (gq n t tg s k).2 (gq n t tg s k).1), mwo (gq n t tg s k).2 (2 ^ (@Classical.epsilon Nat ⟨0⟩ (LG n t tg (gq n t tg s k).2 (gq n t tg s k).1))))
theorem gq_2 (s k : Nat) : (gq n t tg s (k + 1)).2 = mwo (gq n t tg s k).2 (2 ^ (gq n t tg s (k + 1)).1) := rfl
theorem gq_lg {s k : Nat} (h : Rc n t tg (gq n t tg s k).2 (gq n t tg s k).1) (ha : (gq n t tg s k).1 ≠ t) : LG n t tg (gq n t tg s k).2 (gq n t tg s k).1 (gq n t tg s (k + 1)).1 := Classical.epsilon_spec (p := LG n t tg (gq n t tg s k).2 (gq n t tg s k).1) (LG.ex h ha)
/-- all that holds on the way -/
theorem gq_ok {s : Nat} (hn : n ≤ 8) (hs : s < n) (h0 : Rc n t tg (2 ^ n - 1) s) : ∀ k, (∀ j, j < k → (gq n t tg s j).1 ≠ t) → Rc n t tg (gq n t tg s k).2 (gq n t tg s k).1 ∧ (gq n t tg s k).1 < n ∧ (gq n t tg s k).2 < 256 ∧ cb (gq n t tg s k).2 n + k + 1 = n := by
  have p8 : 2 ^ n ≤ 2 ^ 8 := Nat.pow_le_pow_right (by omega) hn
  have full : ∀ m, m ≤ n → cb (2 ^ n - 1) m = m := by
    intro m
    induction m with
    | zero => intro _; rfl
    | succ m ih =>
      intro hm
      show cb (2 ^ n - 1) m + (if (2 ^ n - 1).testBit m = true then 1 else 0) = m + 1
      rw [ih (by omega), if_pos (by rw [Nat.testBit_two_pow_sub_one]; simpa using (show m < n by omega))]
  intro k
  induction k with
  | zero =>
    intro _
    have hb : (2 ^ n - 1).testBit s = true := by rw [Nat.testBit_two_pow_sub_one]; simpa using hs
    have hcb := cb_wo hb n (by omega)
    rw [if_pos hs, full n (Nat.le_refl _)] at hcb
    refine ⟨h0.self hn, hs, Nat.lt_of_le_of_lt (mwo_le _ _) (by omega), ?_⟩
    show cb (mwo (2 ^ n - 1) (2 ^ s)) n + 0 + 1 = n
    omega
  | succ k ih =>
    intro hj
    obtain ⟨i1, i2, i3, i4⟩ := ih (fun j h => hj j (by omega))
    have lg := gq_lg i1 (hj k (by omega))
    have hcb := cb_wo lg.1.2.1 n (by omega)
    rw [if_pos lg.1.1] at hcb
    rw [gq_2]
    exact ⟨lg.1.2.2.2.self hn, lg.1.1, Nat.lt_of_le_of_lt (mwo_le _ _) i3, by omega⟩
/-- it ends -/
theorem gq_end {s : Nat} (hn : n ≤ 8) (hs : s < n) (h0 : Rc n t tg (2 ^ n - 1) s) : ∃ l, l < n ∧ (gq n t tg s l).1 = t ∧ ∀ j, j < l → (gq n t tg s j).1 ≠ t := by
  have key : ∀ d k, k + d = n → (∀ j, j < k → (gq n t tg s j).1 ≠ t) → ∃ l, l < n ∧ (gq n t tg s l).1 = t ∧ ∀ j, j < l → (gq n t tg s j).1 ≠ t := by
    intro d
    induction d with
    | zero =>
      intro k hk hj
      obtain ⟨-, -, -, i4⟩ := gq_ok hn hs h0 k hj
      omega
    | succ d ih =>
      intro k hk hj
      by_cases e : (gq n t tg s k).1 = t
      · exact ⟨k, by omega, e, hj⟩
      · refine ih (k + 1) (by omega) (fun j hj' => ?_)
        by_cases z : j = k
        · subst z; exact e
        · exact hj j (by omega)
  exact key n 0 (by omega) (fun j hj => absurd hj (by omega))
end Walk
/-! tight steps out of the least costs -/
def Tg (E : Nat → Nat → Prop) (w D : Nat → Nat → Nat) (t a p : Nat) : Prop := E a p ∧ D p t < 100000000 ∧ D a t < 100000000 ∧ w a p + D p t = D a t
/-- a least way goes on by tight steps -/
theorem tight_rc {n : Nat} {O : Nat → Prop} {E : Nat → Nat → Prop} {w D : Nat → Nat → Nat} (h : FW n n O E w D) (hn : n ≤ 8) {s t : Nat} (hs : s < n) (ht : t < n) (hd : D s t < 100000000) (hw : ∀ a b, a < n → b < n → E a b → w a b ≤ 1000) : Rc n t (Tg E w D t) (2 ^ n - 1) s := by
  apply Classical.byContradiction
  intro hno
  have p8 : 2 ^ n ≤ 2 ^ 8 := Nat.pow_le_pow_right (by omega) hn
  have full : ∀ p, p < n → (2 ^ n - 1).testBit p = true := fun p hp => by rw [Nat.testBit_two_pow_sub_one]; simpa using hp
  -- a potential that goes down where the way is lost
  let Q : Nat → Prop := fun x => ¬ Rc n t (Tg E w D t) (2 ^ n - 1) x
  have hO : O s ∧ O t := by
    apply Classical.byContradiction
    intro z
    have := h.2.1 s t hs ht z
    omega
  have ht0 := h.2.2.1 t ht hO.2
  haveI : DecidablePred Q := fun x => Classical.propDecidable _
  have e := h.2.2.2.2.2 (fun x => if Q x then 300000 - D x t else (300001 - D x t)) (fun b hb => by show (if Q b then 300000 - D b t else (300001 - D b t)) ≤ 100000000; split <;> omega) (fun a b ha hb hOa hOb he => by
    show (if Q b then 300000 - D b t else (300001 - D b t)) ≤ (if Q a then 300000 - D a t else (300001 - D a t)) + w a b
    have tri := h.2.2.2.1 a t b ha ht hb
    have ed := h.2.2.2.2.1 a b ha hb hOa hOb he
    have b1 := h.1 a t ha ht
    have b2 := h.1 b t hb ht
    by_cases qa : Q a
    · by_cases qb : Q b
      · rw [if_pos qa, if_pos qb]; omega
      · rw [if_pos qa, if_neg qb]
        have : ¬ Tg E w D t a b := fun z => by
          apply qa
          have rb : Rc n t (Tg E w D t) (2 ^ n - 1) b := Classical.byContradiction qb
          obtain ⟨k, hk⟩ := rb
          exact ⟨k + 1, Or.inr ⟨b, hb, full b hb, z, hk⟩⟩
        by_cases z : D b t < 100000000
        · have : D a t < w a b + D b t := by
            apply Classical.byContradiction
            intro y
            have hwab := hw a b ha hb he
            exact this ⟨he, z, by omega, by omega⟩
          omega
        · omega
    · rw [if_neg qa]
      split <;> omega) s t hs ht
  have qs : Q s := hno
  have qt : ¬ Q t := fun z => z ⟨0, rfl⟩
  have e' : (if Q t then 300000 - D t t else (300001 - D t t)) ≤ (if Q s then 300000 - D s t else (300001 - D s t)) + D s t := e
  rw [if_neg qt, if_pos qs] at e'
  have := h.1 s t hs ht
  omega
