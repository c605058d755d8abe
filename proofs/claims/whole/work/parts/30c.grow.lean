/-! several numbers at once, on both sides -/
def vus : mV → List (Nat × Nat) → mV
  | v, [] => v
  | v, q :: r => vus (vu v q.1 q.2) r
def cIs : mI → List (Nat × Nat) → mI
  | I, [] => I
  | I, q :: r => cIs (uI I (loc q.1).1 (loc q.1).2 (nI q.2)) r
def mIs : mI → List (Nat × Nat) → mI
  | I, [] => I
  | I, q :: r => mIs (uI I 68 q.1 (nI q.2)) r
theorem CHs.many {us : List (Nat × Nat)} : ∀ {I : mI} {v : mV} {S : Nat → Prop}, CHs I 0 v S → (∀ q ∈ us, q.1 < 135) → CHs (cIs I us) 0 (vus v us) (fun j => S j ∨ j ∈ us.map Prod.fst) := by
  induction us with
  | nil => intro I v S h _; exact h.sub (fun i _ hi => by simpa using hi)
  | cons q r ih =>
    intro I v S h hq
    have h1 := h.set (hq q List.mem_cons_self) (x := q.2) (show loc q.1 = ((loc q.1).1, (loc q.1).2) from rfl)
    refine (ih h1 (fun z hz => hq z (List.mem_cons_of_mem _ hz))).sub (fun i _ hi => ?_)
    rcases hi with hi | hi
    · exact Or.inl (Or.inl hi)
    · rcases List.mem_cons.mp hi with e | e
      · exact Or.inl (Or.inr e)
      · exact Or.inr e
theorem MH.many {us : List (Nat × Nat)} : ∀ {I : mI} {v : mV}, MH I 68 v → MH (mIs I us) 68 (vus v us) := by
  induction us with
  | nil => intro I v h; exact h
  | cons q r ih => intro I v h; exact ih (h.set q.1 q.2)
theorem cIs_cell {us : List (Nat × Nat)} : ∀ {I : mI} {k : Nat}, (∀ q ∈ us, q.1 < 135) → (k = 0 ∨ 16 ≤ k) → cIs I us k = I k := by
  induction us with
  | nil => intro I k _ _; rfl
  | cons q r ih =>
    intro I k hq hk
    have := loc_cell (hq q List.mem_cons_self)
    show cIs _ r k = _
    rw [ih (fun z hz => hq z (List.mem_cons_of_mem _ hz)) hk, uI_cell (by omega)]
theorem mIs_cell {us : List (Nat × Nat)} : ∀ {I : mI} {k : Nat}, k ≠ 68 → mIs I us k = I k := by
  induction us with
  | nil => intro I k _; rfl
  | cons q r ih =>
    intro I k hk
    show mIs _ r k = _
    rw [ih hk, uI_cell hk]
theorem rel_many {I : mI} {L : mL} {v : mV} (hm : MH I 68 v) (hc : CH I 0 v) (h2 : Re2 I L) {us : List (Nat × Nat)} (hq : ∀ q ∈ us, q.1 < 135) (hw : WF (vus v us)) (hl : ∀ j, j < 135 → live (vus v us) j → live v j ∨ j ∈ us.map Prod.fst) : Rel (mIs (cIs I us) us) L := by
  refine ⟨⟨vus v us, hw, ?_, ?_⟩, h2.frame (fun k hk => ?_)⟩
  · exact (hm.frame (cIs_cell hq (by omega))).many
  · exact ((CHs.many hc hq).sub hl).frame (fun k h1 h2 => mIs_cell (by omega))
  · rw [mIs_cell (by omega), cIs_cell hq (by omega)]
theorem lt_lit {n : Nat} {x : Int32} {k : Nat} (hx : x.toInt = k) (hn : n < 2147483648) : nI n < x ↔ n < k := by
  rw [Int32.lt_iff_toInt_lt, t_nI hn, hx]; omega
theorem eq_lit {n k : Nat} {x : Int32} (hx : x = nI k) (hn : n < 2147483648) (hk : k < 2147483648) : nI n = x ↔ n = k := by
  rw [hx]
  constructor
  · intro h
    have := congrArg Int32.toInt h
    rw [t_nI hn, t_nI hk] at this
    omega
  · intro h; rw [h]
/-! toll -/
theorem WF.toll {v : mV} (h : WF v) {k x : Nat} (hk : k < v 1) (hx9 : x ≤ 9) : WF (vu v (76 + k) x) := by
  obtain ⟨h0, h1, h2, h3, h4, h5, h6, h7, h8, h9, h10, h11, h12⟩ := h
  have e : ∀ j, j < 76 ∨ 91 ≤ j → vu v (76 + k) x j = v j := fun j hj => vu_n (by omega)
  unfold WF
  rw [e 0 (by omega), e 1 (by omega), e 2 (by omega), e 3 (by omega), e 4 (by omega), e 5 (by omega)]
  refine ⟨h0, h1, h2, h3, h4, h5, fun j hj => ?_, fun j hj => ?_, fun j hj => ?_, fun i j hi hj => ?_, fun j hj => ?_, fun j hj => ?_, fun j hj => ?_⟩
  · rw [e _ (by omega)]; exact h6 j hj
  · rw [e _ (by omega)]; exact h7 j hj
  · rw [e _ (by omega), e _ (by omega)]
    by_cases q : j = k
    · subst q; rw [vu_s]; exact ⟨(h8 j hj).1, (h8 j hj).2.1, hx9⟩
    · rw [vu_n (by omega)]; exact h8 j hj
  · rw [e _ (by omega), e _ (by omega), e _ (by omega), e _ (by omega)]; exact h9 i j hi hj
  · rw [e _ (by omega), e _ (by omega)]; exact h10 j hj
  · rw [e _ (by omega), e _ (by omega), e _ (by omega), e _ (by omega)]; exact h11 j hj
  · rw [e _ (by omega), e _ (by omega)]; exact h12 j hj
theorem st_toll {I : mI} {L : mL} {a1 a2 : Int32} (h : Rel I L) : St_toll Rel I L a1 a2 := by
  obtain ⟨⟨v, hw, hm, hc⟩, hr2⟩ := id h
  have e1 := hm 1 (by omega)
  have w1 := hw.2.1
  unfold St_toll f_X10_toll_0
  rw [hasRoad_n hc.c1 (by omega), within_l 0 9 (by decide) (by decide)]
  have hM : ∀ I' : mI, I' 68 1 = nI (v 1) → f_X11_toll_67 I' L a1 a2 = if 0 ≤ a1.toInt ∧ a1.toInt < (v 1 : Int) then (if 0 ≤ a2.toInt ∧ a2.toInt ≤ 9 then (ck (inb (76 + a1) 135) (ck (inb (76 + a1) 135) (some (I' 68 (76 + a1).toNatClampNeg, uI I' 68 (76 + a1).toNatClampNeg a2, L)))) else some (-1, I', L)) else some (-1, I', L) := by
    intro I' h0
    unfold f_X11_toll_67
    rw [isRoad_n h0 (by omega), in_l 0 9 (by decide) (by decide)]
    simp only [Option.bind_some, bit_ite, lt_eq]
  simp only [Option.bind_some, bit_ite, lt_eq]
  by_cases h1 : 0 ≤ a1.toInt ∧ a1.toInt < (v 1 : Int)
  · by_cases h2 : 0 ≤ a2.toInt ∧ a2.toInt ≤ 9
    · rw [if_pos h1, if_pos h2]
      obtain ⟨p, hp, rfl, -⟩ := ofI h1.1 h1.2
      obtain ⟨x, hx, rfl, hxx⟩ := ofI (n := 10) (a := a2) (by omega) (by omega)
      have i2 : 76 + nI p = nI (76 + p) := by rw [show (76 : Int32) = nI 76 from rfl, n_add]
      have hlv : live v (76 + p) := by unfold live; omega
      refine ⟨nI (v (76 + p)), uI I 7 p (nI x), L, uI (uI I 7 p (nI x)) 68 (76 + p) (nI x), L, ?_, ?_, ?_⟩
      · rw [ck_t (inb_nI (by omega) (by omega)), ck_t (inb_nI (by omega) (by omega)), c_nI (by omega), hc.at (loc_toll (by omega)) (by omega) hlv]
      · rw [hM _ (by rw [uI_cell (by omega)]; exact e1), if_pos h1, if_pos h2, i2, ck_t (inb_nI (by omega) (by omega)), ck_t (inb_nI (by omega) (by omega)), c_nI (by omega), uI_cell (by omega), hm _ (by omega)]
      · exact rel_set hm hc hr2 (by omega) (by omega) (loc_toll (by omega)) (hw.toll hp (by omega)) hlv
    · rw [if_pos h1, if_neg h2]
      exact ⟨-1, I, L, I, L, rfl, by rw [hM I e1, if_pos h1, if_neg h2], h⟩
  · rw [if_neg h1]
    exact ⟨-1, I, L, I, L, rfl, by rw [hM I e1, if_neg h1], h⟩
/-! cart -/
theorem WF.cart {v : mV} (h : WF v) {b c : Nat} (hn : v 2 < 4) (hb : b ≤ 999) (hc : c ≤ 99) : WF (vus v [(91 + v 2, b), (95 + v 2, c), (2, v 2 + 1)]) := by
  obtain ⟨h0, h1, h2, h3, h4, h5, h6, h7, h8, h9, h10, h11, h12⟩ := h
  generalize hv' : vus v [(91 + v 2, b), (95 + v 2, c), (2, v 2 + 1)] = w
  have e : ∀ j, j ≠ 2 → j ≠ 91 + v 2 → j ≠ 95 + v 2 → w j = v j := fun j a1 a2 a3 => by rw [← hv']; simp [vus, vu, a1, a2, a3]
  have e2 : w 2 = v 2 + 1 := by rw [← hv']; simp [vus, vu]
  have eb : w (91 + v 2) = b := by
    rw [← hv']; simp only [vus]
    rw [vu_n (by omega), vu_n (by omega), vu_s]
  have ec : w (95 + v 2) = c := by
    rw [← hv']; simp only [vus]
    rw [vu_n (by omega), vu_s]
  unfold WF
  rw [e 0 (by omega) (by omega) (by omega), e 1 (by omega) (by omega) (by omega), e2, e 3 (by omega) (by omega) (by omega), e 4 (by omega) (by omega) (by omega), e 5 (by omega) (by omega) (by omega)]
  refine ⟨h0, h1, by omega, h3, h4, h5, fun j hj => ?_, fun j hj => ?_, fun j hj => ?_, fun i j hi hj => ?_, fun j hj => ?_, fun j hj => ?_, fun j hj => ?_⟩
  · rw [e _ (by omega) (by omega) (by omega)]; exact h6 j hj
  · rw [e _ (by omega) (by omega) (by omega)]; exact h7 j hj
  · rw [e _ (by omega) (by omega) (by omega), e _ (by omega) (by omega) (by omega), e _ (by omega) (by omega) (by omega)]; exact h8 j hj
  · rw [e _ (by omega) (by omega) (by omega), e _ (by omega) (by omega) (by omega), e _ (by omega) (by omega) (by omega), e _ (by omega) (by omega) (by omega)]; exact h9 i j hi hj
  · by_cases q : j = v 2
    · subst q; rw [eb, ec]; exact ⟨hb, hc⟩
    · rw [e _ (by omega) (by omega) (by omega), e _ (by omega) (by omega) (by omega)]; exact h10 j (by omega)
  · rw [e _ (by omega) (by omega) (by omega), e _ (by omega) (by omega) (by omega), e _ (by omega) (by omega) (by omega), e _ (by omega) (by omega) (by omega)]; exact h11 j hj
  · rw [e _ (by omega) (by omega) (by omega), e _ (by omega) (by omega) (by omega)]; exact h12 j hj
