/-! LEAST COSTS, pure: the greatest potentials; Floyd's rows (FW), Dijkstra's row (DJ) -/
def Feas (n : Nat) (O : Nat → Prop) (E : Nat → Nat → Prop) (w : Nat → Nat → Nat) (g : Nat → Nat) : Prop := ∀ a b, a < n → b < n → O a → O b → E a b → g b ≤ g a + w a b
/-- rows of least costs by pivots below c -/
def FW (n c : Nat) (O : Nat → Prop) (E : Nat → Nat → Prop) (w : Nat → Nat → Nat) (D : Nat → Nat → Nat) : Prop :=
  (∀ a b, a < n → b < n → D a b = 100000000 ∨ D a b ≤ 1000 * 2 ^ c) ∧
  (∀ a b, a < n → b < n → ¬ (O a ∧ O b) → D a b = 100000000) ∧
  (∀ a, a < n → O a → D a a = 0) ∧
  (∀ a b k, a < n → b < n → k < c → D a b ≤ D a k + D k b) ∧
  (∀ a b, a < n → b < n → O a → O b → E a b → D a b ≤ w a b) ∧
  (∀ g : Nat → Nat, (∀ b, b < n → g b ≤ 100000000) → Feas n O E w g → ∀ a b, a < n → b < n → g b ≤ g a + D a b)
section Dist
variable {n c : Nat} {O O' : Nat → Prop} {E E' : Nat → Nat → Prop} {w w' : Nat → Nat → Nat} {D D' : Nat → Nat → Nat}
theorem FW.start (hw : ∀ a b, a < n → b < n → E a b → w a b ≤ 1000) (hE : ∀ a b, a < n → b < n → ¬ (O a ∧ O b) → D a b = 100000000) (h0 : ∀ a, a < n → O a → D a a = 0) (h1 : ∀ a b, a < n → b < n → O a → O b → a ≠ b → (E a b ∧ D a b = w a b) ∨ (¬ E a b ∧ D a b = 100000000)) : FW n 0 O E w D := by
  have key : ∀ a b, a < n → b < n → D a b = 100000000 ∨ D a b = 0 ∧ a = b ∨ (O a ∧ O b ∧ E a b ∧ D a b = w a b) := by
    intro a b ha hb
    by_cases hO : O a ∧ O b
    · by_cases e : a = b
      · subst e; exact Or.inr (Or.inl ⟨h0 a ha hO.1, rfl⟩)
      · rcases h1 a b ha hb hO.1 hO.2 e with q | q
        · exact Or.inr (Or.inr ⟨hO.1, hO.2, q.1, q.2⟩)
        · exact Or.inl q.2
    · exact Or.inl (hE a b ha hb hO)
  refine ⟨fun a b ha hb => ?_, hE, h0, fun a b k _ _ hk => absurd hk (by omega), fun a b ha hb hOa hOb he => ?_, fun g hg hf a b ha hb => ?_⟩
  · rcases key a b ha hb with q | q | q
    · exact Or.inl q
    · right; omega
    · right; have := hw a b ha hb q.2.2.1; omega
  · by_cases e : a = b
    · subst e; rw [h0 a ha hOa]; omega
    · rcases h1 a b ha hb hOa hOb e with q | q
      · omega
      · exact absurd he q.1
  · have := hg b hb
    rcases key a b ha hb with q | ⟨q, rfl⟩ | q
    · omega
    · omega
    · have := hf a b ha hb q.1 q.2.1 q.2.2.1; omega
theorem FW.step (h : FW n c O E w D) (hc : c < n) (hn : n ≤ 8) (hD : ∀ a b, a < n → b < n → D' a b = if D a b ≤ D a c + D c b then D a b else D a c + D c b) : FW n (c + 1) O E w D' := by
  obtain ⟨h1, h2, h3, h4, h5, h6⟩ := h
  have hp : 2 ^ c ≤ 2 ^ 7 := Nat.pow_le_pow_right (by omega) (by omega)
  have hs : 2 ^ (c + 1) = 2 ^ c * 2 := Nat.pow_succ 2 c
  have up : ∀ a b, a < n → b < n → D' a b ≤ D a b ∧ D' a b ≤ D a c + D c b ∧ (D' a b = D a b ∨ (D' a b = D a c + D c b ∧ D a c + D c b < D a b)) := by
    intro a b ha hb
    rw [hD a b ha hb]
    split <;> omega
  have ec : ∀ a, a < n → D' a c = D a c := fun a ha => by rw [hD a c ha hc, if_pos (by omega)]
  have ec' : ∀ b, b < n → D' c b = D c b := fun b hb => by rw [hD c b hc hb, if_pos (by omega)]
  refine ⟨fun a b ha hb => ?_, fun a b ha hb hO => ?_, fun a ha hO => ?_, fun a b k ha hb hk => ?_, fun a b ha hb hOa hOb he => ?_, fun g hg hf a b ha hb => ?_⟩
  · have q1 := h1 a b ha hb
    have q2 := h1 a c ha hc
    have q3 := h1 c b hc hb
    have q4 := up a b ha hb
    omega
  · have e0 := h2 a b ha hb hO
    rw [hD a b ha hb]
    by_cases hOa : O a
    · have := h2 c b hc hb (fun q => hO ⟨hOa, q.2⟩)
      rw [if_pos (by omega)]; exact e0
    · have := h2 a c ha hc (fun q => hOa q.1)
      rw [if_pos (by omega)]; exact e0
  · have := up a a ha ha
    have := h3 a ha hO
    omega
  · by_cases e : k = c
    · subst e
      rw [ec a ha, ec' b hb]
      exact (up a b ha hb).2.1
    · have hk' : k < c := by omega
      have kn : k < n := by omega
      have q1 := h4 a b k ha hb hk'
      have q2 := h4 c b k hc hb hk'
      have q3 := h4 a c k ha hc hk'
      have u1 := up a b ha hb
      have u2 := up a k ha kn
      have u3 := up k b kn hb
      omega
  · have := up a b ha hb
    have := h5 a b ha hb hOa hOb he
    omega
  · have q1 := h6 g hg hf a b ha hb
    have q2 := h6 g hg hf a c ha hc
    have q3 := h6 g hg hf c b hc hb
    have u := up a b ha hb
    omega
theorem FW.le (h : FW n n O E w D) (h' : FW n n O E w' D') (hn : n ≤ 8) (hw : ∀ a b, a < n → b < n → E a b → w' a b ≤ w a b) : ∀ a b, a < n → b < n → D' a b ≤ D a b := by
  intro a b ha hb
  have hp : 2 ^ n ≤ 2 ^ 8 := Nat.pow_le_pow_right (by omega) (by omega)
  by_cases hO : O a
  · have := h.2.2.2.2.2 (D' a) (fun y hy => by have := h'.1 a y ha hy; omega) (fun x y hx hy hOx hOy he => by
      have q1 := h'.2.2.2.1 a y x ha hy hx
      have q2 := h'.2.2.2.2.1 x y hx hy hOx hOy he
      have q3 := hw x y hx hy he
      omega) a b ha hb
    have := h'.2.2.1 a ha hO
    omega
  · rw [h.2.1 a b ha hb (fun q => hO q.1), h'.2.1 a b ha hb (fun q => hO q.1)]
    omega
theorem FW.uniq (h : FW n n O E w D) (h' : FW n n O E w D') (hn : n ≤ 8) : ∀ a b, a < n → b < n → D a b = D' a b := fun a b ha hb => Nat.le_antisymm (FW.le h' h hn (fun _ _ _ _ _ => Nat.le_refl _) a b ha hb) (FW.le h h' hn (fun _ _ _ _ _ => Nat.le_refl _) a b ha hb)
theorem FW.congr (h : FW n c O E w D) (hO : ∀ a, a < n → (O a ↔ O' a)) (hE : ∀ a b, a < n → b < n → (E a b ↔ E' a b)) (hw : ∀ a b, a < n → b < n → E a b → w a b = w' a b) : FW n c O' E' w' D := by
  obtain ⟨h1, h2, h3, h4, h5, h6⟩ := h
  refine ⟨h1, fun a b ha hb q => h2 a b ha hb (fun z => q ⟨(hO a ha).mp z.1, (hO b hb).mp z.2⟩), fun a ha q => h3 a ha ((hO a ha).mpr q), h4, fun a b ha hb q1 q2 q3 => ?_, fun g hg hf => h6 g hg (fun a b ha hb q1 q2 q3 => ?_)⟩
  · have q4 := (hE a b ha hb).mpr q3
    rw [← hw a b ha hb q4]
    exact h5 a b ha hb ((hO a ha).mpr q1) ((hO b hb).mpr q2) q4
  · rw [hw a b ha hb q3]
    exact hf a b ha hb ((hO a ha).mp q1) ((hO b hb).mp q2) ((hE a b ha hb).mp q3)
end Dist
/-- Dijkstra's row from s on: op is what is open yet, C its costs -/
def DJ (n : Nat) (O : Nat → Prop) (E : Nat → Nat → Prop) (w : Nat → Nat → Nat) (s : Nat) (op : Nat → Prop) (C : Nat → Nat) : Prop :=
  (∀ b, b < n → C b ≤ 536870912) ∧
  (∀ b, b < n → ¬ (O s ∧ O b) → C b = 536870912) ∧
  (O s → C s = 0) ∧
  (∀ b, b < n → op b → O b) ∧
  (∀ a b, a < n → b < n → O a → ¬ op a → O b → E a b → C b ≤ C a + w a b) ∧
  (∀ a b, a < n → b < n → O a → ¬ op a → op b → C a ≤ C b) ∧
  (∀ g : Nat → Nat, (∀ b, b < n → g b ≤ 536870912) → g s = 0 → O s → Feas n O E w g → ∀ b, b < n → g b ≤ C b)
section Dij
variable {n s : Nat} {O : Nat → Prop} {E : Nat → Nat → Prop} {w : Nat → Nat → Nat} {D : Nat → Nat → Nat} {op op' : Nat → Prop} {C C' : Nat → Nat}
theorem DJ.start (h0 : O s → C s = 0) (h1 : ∀ b, b < n → ¬ (O s ∧ b = s) → C b = 536870912) (hop : ∀ b, b < n → (op b ↔ O b)) : DJ n O E w s op C := by
  have hC : ∀ b, b < n → C b ≤ 536870912 := by
    intro b hb
    by_cases q : O s ∧ b = s
    · rw [q.2, h0 q.1]; omega
    · rw [h1 b hb q]; omega
  refine ⟨hC, fun b hb q => h1 b hb (fun z => q ⟨z.1, z.2 ▸ z.1⟩), h0, fun b hb q => (hop b hb).mp q, fun a b ha hb q1 q2 => absurd ((hop a ha).mpr q1) q2, fun a b ha hb q1 q2 => absurd ((hop a ha).mpr q1) q2, fun g hg g0 hO hf b hb => ?_⟩
  by_cases q : b = s
  · subst q; rw [g0]; omega
  · rw [h1 b hb (fun z => q z.2)]; exact hg b hb
theorem DJ.step (h : DJ n O E w s op C) (hs : s < n) {p : Nat} (hp : p < n) (hop : op p) (hmin : ∀ b, b < n → op b → C p ≤ C b) (hop' : ∀ b, b < n → (op' b ↔ op b ∧ b ≠ p)) (hC : ∀ b, b < n → (op' b ∧ E p b ∧ C' b = (if C b ≤ C p + w p b then C b else C p + w p b)) ∨ (¬ (op' b ∧ E p b) ∧ C' b = C b)) : DJ n O E w s op' C' := by
  obtain ⟨h1, h2, h3, h4, h5, h6, h7⟩ := h
  have hOp := h4 p hp hop
  have up : ∀ b, b < n → C' b ≤ C b ∧ (C' b = C b ∨ (op' b ∧ E p b ∧ C' b = C p + w p b)) := by
    intro b hb
    rcases hC b hb with ⟨q1, q2, q3⟩ | ⟨-, q⟩
    · rw [q3]; split
      · exact ⟨Nat.le_refl _, Or.inl rfl⟩
      · exact ⟨by omega, Or.inr ⟨q1, q2, rfl⟩⟩
    · omega
  have same : ∀ b, b < n → ¬ op' b → C' b = C b := by
    intro b hb q
    rcases hC b hb with ⟨q1, -, -⟩ | ⟨-, q⟩
    · exact absurd q1 q
    · exact q
  have sp : ¬ op' p := fun q => ((hop' p hp).mp q).2 rfl
  have cp := same p hp sp
  refine ⟨fun b hb => Nat.le_trans (up b hb).1 (h1 b hb), fun b hb q => ?_, fun q => ?_, fun b hb q => h4 b hb ((hop' b hb).mp q).1, fun a b ha hb q1 q2 q3 q4 => ?_, fun a b ha hb q1 q2 q3 => ?_, fun g hg g0 hOs hf b hb => ?_⟩
  · have e := h2 b hb q
    have := h1 p hp
    rcases (up b hb).2 with z | ⟨z1, z2, z3⟩
    · omega
    · have hOb := h4 b hb ((hop' b hb).mp z1).1
      have : ¬ O s := fun y => q ⟨y, hOb⟩
      have e2 := h2 p hp (fun y => this y.1)
      have := (up b hb).1
      rcases hC b hb with ⟨y1, y2, y3⟩ | ⟨y1, y2⟩
      · rw [y3, if_pos (by omega)]; exact e
      · omega
  · have := h3 q
    have := (up s hs).1
    omega
  · have ub := up b hb
    by_cases ea : a = p
    · subst ea
      rw [cp]
      by_cases ob : op' b
      · rcases hC b hb with ⟨y1, y2, y3⟩ | ⟨y1, y2⟩
        · rw [y3]; split <;> omega
        · exact absurd ⟨ob, q4⟩ y1
      · rw [same b hb ob]
        by_cases eb : b = a
        · subst eb; omega
        · have nb : ¬ op b := fun z => ob ((hop' b hb).mpr ⟨z, eb⟩)
          have := h6 b a hb ha q3 nb hop
          omega
    · have na : ¬ op a := fun z => q2 ((hop' a ha).mpr ⟨z, ea⟩)
      have := h5 a b ha hb q1 na q3 q4
      rw [same a ha q2]
      omega
  · have ob := (hop' b hb).mp q3
    have m1 := hmin b hb ob.1
    have ub := (up b hb).2
    by_cases ea : a = p
    · subst ea; rw [cp]; omega
    · have na : ¬ op a := fun z => q2 ((hop' a ha).mpr ⟨z, ea⟩)
      have m2 := h6 a b ha hb q1 na ob.1
      have m3 := h6 a p ha hp q1 na hop
      rw [same a ha q2]; omega
  · have gb := h7 g hg g0 hOs hf b hb
    have gp := h7 g hg g0 hOs hf p hp
    rcases (up b hb).2 with z | ⟨z1, z2, z3⟩
    · omega
    · have := hf p b hp hb hOp (h4 b hb ((hop' b hb).mp z1).1) z2
      omega
/-- what is left is no nearer than the nearest, whose cost is the least one -/
theorem DJ.pick (h : DJ n O E w s op C) (hw : ∀ a b, a < n → b < n → E a b → w a b ≤ 1000) (hD : FW n n O E w D) (hn : n ≤ 8) (hs : s < n) {m : Nat} (hm : ∀ b, b < n → op b → m ≤ C b) (hset : ∀ b, b < n → O b → ¬ op b → C b ≤ m) : ∀ b, b < n → (C b = 536870912 → D s b = 100000000 ∨ m ≤ D s b) ∧ (D s b = 100000000 → C b = 536870912) ∧ (D s b < 100000000 → D s b ≤ C b ∧ (m ≤ D s b ∨ C b ≤ D s b)) := by
  obtain ⟨h1, h2, h3, h4, h5, h6, h7⟩ := h
  have hp : 2 ^ n ≤ 2 ^ 8 := Nat.pow_le_pow_right (by omega) (by omega)
  intro b hb
  by_cases hO : O s
  · have d0 := hD.2.2.1 s hs hO
    have lo := h7 (fun x => if D s x < 100000000 then D s x else 536870912) (fun x hx => by show (if D s x < 100000000 then D s x else 536870912) ≤ 536870912; split <;> omega) (by show (if D s s < 100000000 then D s s else 536870912) = 0; rw [if_pos (by omega)]; exact d0) hO (fun x y hx hy hOx hOy he => by
      show (if D s y < 100000000 then D s y else 536870912) ≤ (if D s x < 100000000 then D s x else 536870912) + w x y
      have t := hD.2.2.2.1 s y x hs hy hx
      have e := hD.2.2.2.2.1 x y hx hy hOx hOy he
      have b1 := hD.1 s x hs hx
      have b2 := hD.1 x y hx hy
      have b3 := hD.1 s y hs hy
      have b4 := hw x y hx hy he
      split <;> split <;> omega) b hb
    have hi := hD.2.2.2.2.2 (fun x => min (min (C x) m) 100000000) (fun x hx => Nat.min_le_right _ _) (fun x y hx hy hOx hOy he => by
      show min (min (C y) m) 100000000 ≤ min (min (C x) m) 100000000 + w x y
      by_cases ox : op x
      · have := hm x hx ox; omega
      · have := h5 x y hx hy hOx ox hOy he; omega) s b hs hb
    have hi' : min (min (C b) m) 100000000 ≤ min (min (C s) m) 100000000 + D s b := hi
    have lo' : (if D s b < 100000000 then D s b else 536870912) ≤ C b := lo
    have c0 := h3 hO
    have := h1 b hb
    have := hD.1 s b hs hb
    by_cases q : D s b < 100000000
    · rw [if_pos q] at lo'; omega
    · rw [if_neg q] at lo'; omega
  · have e1 := h2 b hb (fun q => hO q.1)
    have e2 := hD.2.1 s b hs hb (fun q => hO q.1)
    omega
/-- all is done: the costs are the least ones -/
theorem DJ.done (h : DJ n O E w s op C) (hw : ∀ a b, a < n → b < n → E a b → w a b ≤ 1000) (hD : FW n n O E w D) (hn : n ≤ 8) (hs : s < n) (hop : ∀ b, b < n → op b → C b = 536870912) : ∀ b, b < n → C b = if D s b < 100000000 then D s b else 536870912 := by
  intro b hb
  have hp : 2 ^ n ≤ 2 ^ 8 := Nat.pow_le_pow_right (by omega) (by omega)
  have q := h.pick hw hD hn hs (m := 536870912) (fun b hb ob => by rw [hop b hb ob]; omega) (fun b hb _ _ => h.1 b hb) b hb
  have := hD.1 s b hs hb
  have := h.1 b hb
  split <;> omega
end Dij
