/-! land: the tape on both sides -/
theorem idx_tab : ∀ c, c < 127 → f_J0_indexOf_0f7a4_S (fun _ _ => 0) (fun _ _ => 0) (nI c) = f_X11_kindOf (fun _ _ => 0) (fun _ _ => 0) (nI c) := by decide +kernel
theorem idx_l7 {I : mI} {L : mL} (I0 : mI) (L0 : mL) : ∀ (f : Nat) (x3 x4 x5 : Int32), f_J1_indexOfChar_4cfef_B_l7 I L f x3 x4 x5 = f_J1_indexOfChar_4cfef_B_l7 I0 L0 f x3 x4 x5 := by
  intro f
  induction f with
  | zero => intro x3 x4 x5; rfl
  | succ f ih =>
    intro x3 x4 x5
    rw [f_J1_indexOfChar_4cfef_B_l7, f_J1_indexOfChar_4cfef_B_l7, lt_eq, lt_eq, ih]
theorem idx_in {I : mI} {L : mL} (I0 : mI) (L0 : mL) (x : Int32) : f_J0_indexOf_0f7a4_S I L x = f_J0_indexOf_0f7a4_S I0 L0 x := by
  unfold f_J0_indexOf_0f7a4_S f_J0_indexOf_7cf53_S f_J1_indexOf_4cfef_B f_J1_indexOfChar_4cfef_B
  simp only [lt_eq, idx_l7 I0 L0]
  rfl
theorem idx_eq {I J : mI} {L L2 : mL} {c : Nat} (hc : c < 127) : f_J0_indexOf_0f7a4_S I L (nI c) = f_X11_kindOf J L2 (nI c) := by
  rw [idx_in (fun _ _ => 0) (fun _ _ => 0), idx_tab c hc]
  unfold f_X11_kindOf
  rfl
theorem kind_c {I : mI} {L : mL} (x : Int32) : f_X11_kindOf I L x = some (-1) ∨ ∃ k, k ≤ 3 ∧ f_X11_kindOf I L x = some (nI k) := by
  unfold f_X11_kindOf
  by_cases h1 : x = 108
  · rw [if_pos h1]; exact Or.inr ⟨0, by omega, rfl⟩
  · rw [if_neg h1]
    by_cases h2 : x = 104
    · rw [if_pos h2]; exact Or.inr ⟨1, by omega, rfl⟩
    · rw [if_neg h2]
      by_cases h3 : x = 115
      · rw [if_pos h3]; exact Or.inr ⟨2, by omega, rfl⟩
      · rw [if_neg h3]
        by_cases h4 : x = 97
        · rw [if_pos h4]; exact Or.inr ⟨3, by omega, rfl⟩
        · rw [if_neg h4]; exact Or.inl rfl
theorem kind_0 {I : mI} {L : mL} : f_X11_kindOf I L 0 = some (-1) := by unfold f_X11_kindOf; rw [if_neg (by decide), if_neg (by decide), if_neg (by decide), if_neg (by decide)]
/-- behind blanks -/
def skq (n : Nat) (t : Nat → Nat) : Nat → Nat → Nat
  | 0, p => p
  | d + 1, p => if p < n ∧ t p = 32 then skq n t d (p + 1) else p
def skp (n : Nat) (t : Nat → Nat) (p : Nat) : Nat := skq n t (n - p) p
section Skip
variable {n : Nat} {t : Nat → Nat}
theorem skp_le {p : Nat} (hp : p ≤ n) : skp n t p ≤ n := by
  have : ∀ d p, p + d ≤ n → skq n t d p ≤ n := by
    intro d
    induction d with
    | zero => intro p h; exact h
    | succ d ih =>
      intro p h
      show (if p < n ∧ t p = 32 then skq n t d (p + 1) else p) ≤ n
      split
      · exact ih (p + 1) (by omega)
      · omega
  exact this (n - p) p (by omega)
theorem skp_ok {p : Nat} (hp : p ≤ n) : ¬ (skp n t p < n ∧ t (skp n t p) = 32) := by
  have : ∀ d p, p + d = n → ¬ (skq n t d p < n ∧ t (skq n t d p) = 32) := by
    intro d
    induction d with
    | zero => intro p h z; have z1 : p < n := z.1; omega
    | succ d ih =>
      intro p h
      have e : skq n t (d + 1) p = if p < n ∧ t p = 32 then skq n t d (p + 1) else p := rfl
      rw [e]
      by_cases q : p < n ∧ t p = 32
      · rw [if_pos q]; exact ih (p + 1) (by omega)
      · rw [if_neg q]; exact q
  exact this (n - p) p (by omega)
theorem skp_st {p : Nat} (hp : p < n) (h : t p = 32) : skp n t p = skp n t (p + 1) := by
  unfold skp
  obtain ⟨d, e⟩ : ∃ d, n - p = d + 1 := ⟨n - p - 1, by omega⟩
  rw [e, show n - (p + 1) = d by omega]
  show (if p < n ∧ t p = 32 then skq n t d (p + 1) else p) = _
  rw [if_pos ⟨hp, h⟩]
theorem skp_id {p : Nat} (h : ¬ (p < n ∧ t p = 32)) : skp n t p = p := by
  unfold skp
  cases hd : n - p with
  | zero => rfl
  | succ d =>
    show (if p < n ∧ t p = 32 then skq n t d (p + 1) else p) = p
    rw [if_neg h]
theorem skp_skp {p : Nat} (hp : p ≤ n) : skp n t (skp n t p) = skp n t p := skp_id (skp_ok hp)
end Skip
/-- the draft's places -/
def gL (w : mV) (i : Nat) : Prop := i < 2 ∨ (6 ≤ i ∧ i < 6 + w 0) ∨ (14 ≤ i ∧ i < 14 + 4 * w 0) ∨ (46 ≤ i ∧ i < 46 + w 1) ∨ (61 ≤ i ∧ i < 61 + w 1) ∨ (76 ≤ i ∧ i < 76 + w 1)
/-- letters -/
def TL (n : Nat) (t : Nat → Nat) : Prop := n ≤ 120 ∧ ∀ j, j < n → 32 ≤ t j ∧ t j ≤ 126
def CD (n : Nat) (t : Nat → Nat) (I : mI) (p : Nat) (w : mV) : Prop := p ≤ n ∧ I 31 2 = nI n ∧ I 31 3 = nI p ∧ (∀ j, j < n → I 32 j = nI (t j)) ∧ CHs I 31 w (gL w)
def RD (n : Nat) (t : Nat → Nat) (J : mI) (p : Nat) (w : mV) : Prop := p ≤ n ∧ J 67 4 = nI n ∧ J 67 8 = nI p ∧ (∀ j, j < n → J 70 j = nI (t j)) ∧ MH J 68 w
def FC (I I' : mI) : Prop := (∀ c, c ≠ 31 → ¬ (33 ≤ c ∧ c ≤ 38) → I' c = I c) ∧ I' 31 2 = I 31 2
def FR (J J' : mI) : Prop := (∀ c, c ≠ 67 → c ≠ 68 → J' c = J c) ∧ ∀ j, j ≠ 8 → J' 67 j = J 67 j
theorem FC.refl (I : mI) : FC I I := ⟨fun _ _ _ => rfl, rfl⟩
theorem FC.trans {I J K : mI} (h : FC I J) (g : FC J K) : FC I K := ⟨fun c a b => (g.1 c a b).trans (h.1 c a b), g.2.trans h.2⟩
theorem FR.refl (I : mI) : FR I I := ⟨fun _ _ _ => rfl, fun _ _ => rfl⟩
theorem FR.trans {I J K : mI} (h : FR I J) (g : FR J K) : FR I K := ⟨fun c a b => (g.1 c a b).trans (h.1 c a b), fun j a => (g.2 j a).trans (h.2 j a)⟩
/-- the letter there -/
def ch (n : Nat) (t : Nat → Nat) (p : Nat) : Nat := if p < n then t p else 0
section Tape
variable {n : Nat} {t : Nat → Nat} {I J : mI} {L : mL} {p : Nat} {w : mV}
theorem CD.place (h : CD n t I p w) {x : Nat} (hx : x ≤ n) : CD n t (uI I 31 3 (nI x)) x w ∧ FC I (uI I 31 3 (nI x)) := by
  obtain ⟨h0, h1, h2, h3, h4⟩ := h
  refine ⟨⟨hx, by rw [uI_at, if_neg (by omega)]; exact h1, uI_same _ _ _ _, fun j hj => by rw [uI_cell (by omega)]; exact h3 j hj, h4.frame (fun k a b => uI_cell (by omega))⟩, fun c a b => uI_cell a, by rw [uI_at, if_neg (by omega)]⟩
theorem RD.place (h : RD n t J p w) {x : Nat} (hx : x ≤ n) : RD n t (uI J 67 8 (nI x)) x w ∧ FR J (uI J 67 8 (nI x)) := by
  obtain ⟨h0, h1, h2, h3, h4⟩ := h
  refine ⟨⟨hx, by rw [uI_at, if_neg (by omega)]; exact h1, uI_same _ _ _ _, fun j hj => by rw [uI_cell (by omega)]; exact h3 j hj, h4.frame (uI_cell (by omega))⟩, fun c a b => uI_cell a, fun j hj => by rw [uI_at, if_neg (by omega)]⟩
theorem CD.next (h : CD n t I p w) (hT : TL n t) (hp : p < n) : CD n t (uI I 31 3 (I 31 3 + 1)) (p + 1) w ∧ FC I (uI I 31 3 (I 31 3 + 1)) := by
  rw [h.2.2.1, show nI p + 1 = nI (p + 1) from n_add p 1]
  exact h.place (by omega)
theorem RD.next (h : RD n t J p w) (hT : TL n t) (hp : p < n) : RD n t (uI J 67 8 (J 67 8 + 1)) (p + 1) w ∧ FR J (uI J 67 8 (J 67 8 + 1)) := by
  rw [h.2.2.1, show nI p + 1 = nI (p + 1) from n_add p 1]
  exact h.place (by omega)
theorem c_skip (hT : TL n t) (h : CD n t I p w) : ∃ I', f_X8_skipBlanks_31 I L = some (I', L) ∧ CD n t I' (skp n t p) w ∧ FC I I' := by
  unfold f_X8_skipBlanks_31
  have key : ∀ (d p f : Nat) (I : mI), p + d = n → d < f → CD n t I p w → ∃ I', f_X8_skipBlanks_31_l0 f I L = some (I', L) ∧ CD n t I' (skp n t p) w ∧ FC I I' := by
    intro d
    induction d with
    | zero =>
      intro p f I hp hf h
      have hTn := hT.1
      obtain ⟨f, rfl⟩ : ∃ j, f = j + 1 := ⟨f - 1, by omega⟩
      refine ⟨I, ?_, by rw [skp_id (fun z => by omega)]; exact h, FC.refl I⟩
      rw [f_X8_skipBlanks_31_l0, h.2.1, h.2.2.1, if_pos (by rw [le_nI (by omega) (by omega)]; omega)]
    | succ d ih =>
      intro p f I hp hf h
      have hTn := hT.1
      obtain ⟨f, rfl⟩ : ∃ j, f = j + 1 := ⟨f - 1, by omega⟩
      have tb := hT.2 p (by omega)
      have hx := h.next hT (show p < n by omega)
      rw [f_X8_skipBlanks_31_l0, lt_eq]
      generalize uI I 31 3 (I 31 3 + 1) = I2 at hx
      rw [h.2.1, h.2.2.1, if_neg (by rw [le_nI (by omega) (by omega)]; omega), ck_nI (by omega) (by omega), c_nI (by omega), h.2.2.2.1 p (by omega), show (32 : Int32) = nI 32 from rfl]
      by_cases q : t p = 32
      · rw [if_pos (by rw [q]), skp_st (by omega) q]
        obtain ⟨I3, g1, g2, g3⟩ := ih (p + 1) f I2 (by omega) (by omega) hx.1
        exact ⟨I3, g1, g2, hx.2.trans g3⟩
      · rw [if_neg (fun z => q ((eq_nI (by omega) (by omega)).mp z)), skp_id (fun z => q z.2)]
        exact ⟨I, rfl, h, FC.refl I⟩
  have h0 := h.1
  have hTn := hT.1
  exact key (n - p) p fuel I (by omega) (fuel_gt (by omega)) h
theorem r_next (hT : TL n t) (h : RD n t J p w) : ∃ J', f_X11_next_67 J L = some (nI (ch n t (skp n t p)), J', L) ∧ RD n t J' (skp n t p) w ∧ FR J J' := by
  unfold f_X11_next_67
  have key : ∀ (d p f : Nat) (J : mI), p + d = n → d < f → RD n t J p w → ∃ J', f_X11_next_67_l0 f J L = some (nI (ch n t (skp n t p)), J', L) ∧ RD n t J' (skp n t p) w ∧ FR J J' := by
    intro d
    induction d with
    | zero =>
      intro p f J hp hf h
      have hTn := hT.1
      obtain ⟨f, rfl⟩ : ∃ j, f = j + 1 := ⟨f - 1, by omega⟩
      refine ⟨J, ?_, by rw [skp_id (fun z => by omega)]; exact h, FR.refl J⟩
      rw [f_X11_next_67_l0, h.2.1, h.2.2.1, if_pos (by rw [le_nI (by omega) (by omega)]; omega)]
      unfold f_X11_next_67_b38 ch
      rw [h.2.1, h.2.2.1, if_pos (by rw [le_nI (by omega) (by omega)]; omega), skp_id (fun z => by omega), if_neg (by omega)]; rfl
    | succ d ih =>
      intro p f J hp hf h
      have hTn := hT.1
      obtain ⟨f, rfl⟩ : ∃ j, f = j + 1 := ⟨f - 1, by omega⟩
      have tb := hT.2 p (by omega)
      have hx := h.next hT (show p < n by omega)
      rw [f_X11_next_67_l0, lt_eq]
      generalize uI J 67 8 (J 67 8 + 1) = J2 at hx
      rw [h.2.1, h.2.2.1, if_neg (by rw [le_nI (by omega) (by omega)]; omega), ck_nI (by omega) (by omega), c_nI (by omega), h.2.2.2.1 p (by omega), show (32 : Int32) = nI 32 from rfl]
      by_cases q : t p = 32
      · rw [if_pos (by rw [q]), skp_st (by omega) q]
        obtain ⟨J3, g1, g2, g3⟩ := ih (p + 1) f J2 (by omega) (by omega) hx.1
        exact ⟨J3, g1, g2, hx.2.trans g3⟩
      · rw [if_neg (fun z => q ((eq_nI (by omega) (by omega)).mp z)), skp_id (fun z => q z.2)]
        refine ⟨J, ?_, h, FR.refl J⟩
        unfold f_X11_next_67_b38 ch
        rw [h.2.1, h.2.2.1, if_neg (by rw [le_nI (by omega) (by omega)]; omega), ck_nI (by omega) (by omega), c_nI (by omega), h.2.2.2.1 p (by omega), if_pos (by omega)]
  have h0 := h.1
  have hTn := hT.1
  exact key (n - p) p fuel J (by omega) (fuel_gt (by omega)) h
/-- a digit stands there -/
abbrev dg (n : Nat) (t : Nat → Nat) (p lo hi : Nat) : Prop := p < n ∧ 48 + lo ≤ t p ∧ t p ≤ 48 + hi
theorem c_digit (hT : TL n t) (h : CD n t I p w) {lo hi : Nat} (hlo : lo ≤ 9) (hhi : hi ≤ 9) : ∃ I', f_X8_digit_31 I L (nI lo) (nI hi) = some (if dg n t (skp n t p) lo hi then nI (t (skp n t p) - 48) else -1, I', L) ∧ CD n t I' (skp n t p) w ∧ FC I I' := by
  obtain ⟨I', h1, h2, h3⟩ := c_skip (L := L) hT h
  have sl := skp_le (n := n) (t := t) h.1
  have hTn := hT.1
  refine ⟨I', ?_, h2, h3⟩
  unfold f_X8_digit_31
  rw [h1, bndV_some, h2.2.1, h2.2.2.1]
  by_cases q : skp n t p < n
  · have tb := hT.2 _ q
    rw [if_pos (by rw [lt_nI (by omega) (by omega)]; exact q), ck_nI (by omega) (by omega), c_nI (by omega), h2.2.2.2.1 _ q, lt_eq, show (48 : Int32) = nI 48 from rfl]
    have et := sub_t (a := t (skp n t p)) (b := 48) (by omega) (by omega)
    by_cases z1 : 48 + lo ≤ t (skp n t p)
    · have ee : nI (t (skp n t p)) - nI 48 = nI (t (skp n t p) - 48) := by
        apply Int32.toInt_inj.mp
        rw [et, t_nI (by omega)]; omega
      rw [ee, if_neg (by rw [lt_nI (by omega) (by omega)]; omega)]
      by_cases z2 : t (skp n t p) ≤ 48 + hi
      · rw [if_neg (by rw [lt_nI (by omega) (by omega)]; omega), if_pos ⟨q, z1, z2⟩]
      · rw [if_pos (by rw [lt_nI (by omega) (by omega)]; omega), if_neg (fun z => z2 z.2.2)]
    · rw [if_pos (by rw [Int32.lt_iff_toInt_lt, et, t_nI (by omega)]; omega), if_neg (fun z => z1 z.2.1)]
  · rw [if_neg (by rw [lt_nI (by omega) (by omega)]; exact q), if_neg (fun z => q z.1)]
theorem r_isDigit (hT : TL n t) (h : RD n t J p w) {lo hi : Nat} (hlo : lo ≤ 9) (hhi : hi ≤ 9) : ∃ J', f_X11_isDigit_67 J L (nI lo) (nI hi) = some (if dg n t (skp n t p) lo hi then 1 else 0, J', L) ∧ RD n t J' (skp n t p) w ∧ FR J J' := by
  obtain ⟨J', h1, h2, h3⟩ := r_next (L := L) hT h
  refine ⟨J', ?_, h2, h3⟩
  have cb : ch n t (skp n t p) ≤ 126 := by
    unfold ch
    split
    · have := hT.2 _ (by assumption); omega
    · omega
  unfold f_X11_isDigit_67
  rw [h1, bndI_some, in_eq, Int32.toInt_toInt64, Int32.toInt_toInt64, Int32.toInt_toInt64, show (48 : Int32) + nI lo = nI (48 + lo) from n_add 48 lo, show (48 : Int32) + nI hi = nI (48 + hi) from n_add 48 hi, t_nI (by omega), t_nI (by omega), t_nI (by omega), Option.bind_some, ck_t bit_isb]
  congr 2
  unfold bit
  by_cases q : dg n t (skp n t p) lo hi
  · rw [if_pos q, if_pos (by unfold ch; rw [if_pos q.1]; omega)]
  · rw [if_neg q, if_neg (fun z => q (by
      unfold ch at z
      by_cases y : skp n t p < n
      · rw [if_pos y] at z; exact ⟨y, by omega, by omega⟩
      · rw [if_neg y] at z; omega))]
theorem r_digit (hT : TL n t) (h : RD n t J p w) (hs : skp n t p = p) (hp : p < n) (h48 : 48 ≤ t p) : ∃ J', f_X11_digit_67 J L = some (nI (t p - 48), J', L) ∧ RD n t J' (p + 1) w ∧ FR J J' := by
  obtain ⟨J1, h1, h2, h3⟩ := r_next (L := L) hT h
  rw [hs] at h1 h2
  have tb := hT.2 p hp
  have hx := h2.next hT hp
  refine ⟨_, ?_, hx.1, h3.trans hx.2⟩
  unfold f_X11_digit_67
  rw [h1, bndI_some, lt_eq, lt_eq]
  unfold ch
  rw [if_pos hp, show (48 : Int32) = nI 48 from rfl]
  congr 2
  apply Int32.toInt_inj.mp
  rw [sub_t (by omega) (by omega), t_nI (by omega)]; omega
/-- a letter is taken -/
abbrev tk (n : Nat) (t : Nat → Nat) (p c : Nat) : Prop := p < n ∧ t p = c
theorem c_takes (hT : TL n t) (h : CD n t I p w) {c : Nat} (hc : c < 127) : ∃ I', f_X8_takes_31 I L (nI c) = some (if tk n t (skp n t p) c then 1 else 0, I', L) ∧ CD n t I' (if tk n t (skp n t p) c then skp n t p + 1 else skp n t p) w ∧ FC I I' := by
  obtain ⟨I1, h1, h2, h3⟩ := c_skip (L := L) hT h
  have sl := skp_le (n := n) (t := t) h.1
  have hTn := hT.1
  by_cases q : skp n t p < n
  · have tb := hT.2 _ q
    by_cases z : t (skp n t p) = c
    · have hx := h2.next hT q
      refine ⟨_, ?_, by rw [if_pos ⟨q, z⟩]; exact hx.1, h3.trans hx.2⟩
      unfold f_X8_takes_31
      rw [h1, bndV_some, lt_eq]
      generalize uI I1 31 3 (I1 31 3 + 1) = I2 at *
      rw [h2.2.1, h2.2.2.1, if_neg (by rw [le_nI (by omega) (by omega)]; omega), ck_nI (by omega) (by omega), c_nI (by omega), h2.2.2.2.1 _ q, if_pos (by rw [z]), if_pos ⟨q, z⟩]
    · refine ⟨I1, ?_, by rw [if_neg (fun y => z y.2)]; exact h2, h3⟩
      unfold f_X8_takes_31
      rw [h1, bndV_some, h2.2.1, h2.2.2.1, if_neg (by rw [le_nI (by omega) (by omega)]; omega), ck_nI (by omega) (by omega), c_nI (by omega), h2.2.2.2.1 _ q, if_neg (fun y => z ((eq_nI (by omega) (by omega)).mp y)), if_neg (fun y => z y.2)]
  · refine ⟨I1, ?_, by rw [if_neg (fun y => q y.1)]; exact h2, h3⟩
    unfold f_X8_takes_31
    rw [h1, bndV_some, h2.2.1, h2.2.2.1, if_pos (by rw [le_nI (by omega) (by omega)]; omega), if_neg (fun y => q y.1)]
end Tape
