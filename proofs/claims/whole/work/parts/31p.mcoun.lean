/-! councils: the reference's side -/
def fst4 (s : Nat × Nat) : Int32 := if s.1 = 0 then -4 else nI s.2
section Mcoun
variable {I J : mI} {L : mL} {v : mV}
/-- rows of takes are laid -/
def MT (J : mI) (v : mV) (ca a b k : Nat) : Prop := ∀ x y, 1 ≤ x → 1 ≤ y → y ≤ 9 → 10 * x + y < k → J 78 (10 * x + y) = nI (cA v ca a b a x y) ∧ J 79 (10 * x + y) = nI (cA v ca a b b x y)
theorem mrest_b (hw : WF v) {ca a b k : Nat} (hk : 11 ≤ k) (hk2 : k < 100) (h : MT I v ca a b 100) (k187 : Int32 → Int32 → Int32 → Int32 → mI → mL → rI) (x4 x9 x10 : Int32) : f_X11_councils_67_l212 k187 fuel x4 x9 x10 (nI k) (if 0 < k % 10 then 1 else 0) 1 I L = f_X11_councils_67_b289 I L k187 x4 x9 x10 (nI k) (if 0 < k % 10 ∧ Rst v ca a b (k / 10) (k % 10) then 1 else 0) := by
  have zero : ∀ f w, f_X11_councils_67_l212 k187 (f + 1) x4 x9 x10 (nI k) 0 w I L = f_X11_councils_67_b289 I L k187 x4 x9 x10 (nI k) 0 := by
    intro f w
    rw [f_X11_councils_67_l212]
    split
    · rfl
    · rw [if_pos rfl]
  by_cases q : 0 < k % 10
  · rw [if_pos q]
    have hx : 1 ≤ k / 10 := by omega
    have rows := fun (x y : Nat) (h1 : 1 ≤ x) (h2 : x ≤ 9) (h3 : 1 ≤ y) (h4 : y ≤ 9) => h x y h1 h3 h4 (by omega)
    have hkk := rows (k / 10) (k % 10) hx (by omega) (by omega) (by omega)
    rw [show 10 * (k / 10) + k % 10 = k by omega] at hkk
    have key : ∀ (d w f : Nat), w + d = 10 → d + 1 < f → 1 ≤ w → (∀ i, i + 1 < w → cA v ca a b a (i + 1) (k % 10) ≤ cA v ca a b a (k / 10) (k % 10) ∧ cA v ca a b b (k / 10) (i + 1) ≤ cA v ca a b b (k / 10) (k % 10)) → f_X11_councils_67_l212 k187 f x4 x9 x10 (nI k) 1 (nI w) I L = f_X11_councils_67_b289 I L k187 x4 x9 x10 (nI k) (if 0 < k % 10 ∧ Rst v ca a b (k / 10) (k % 10) then 1 else 0) := by
      intro d
      induction d with
      | zero =>
        intro w f hw' hf hw1 hc
        obtain ⟨f, rfl⟩ : ∃ j, f = j + 1 := ⟨f - 1, by omega⟩
        rw [f_X11_councils_67_l212, show (10 : Int32) = nI 10 from rfl, if_pos (by rw [le_nI (by omega) (by omega)]; omega), if_pos ⟨q, fun i hi => hc i (by omega)⟩]
      | succ d ih =>
        intro w f hw' hf hw1 hc
        obtain ⟨f, rfl⟩ : ∃ j, f = j + 1 := ⟨f - 1, by omega⟩
        obtain ⟨f, rfl⟩ : ∃ j, f = j + 1 := ⟨f - 1, by omega⟩
        have r1 := (rows w (k % 10) hw1 (by omega) (by omega) (by omega)).1
        have r2 := (rows (k / 10) w hx (by omega) hw1 (by omega)).2
        have l1 := cA_le hw ca a b a w (k % 10)
        have l2 := cA_le hw ca a b a (k / 10) (k % 10)
        have l3 := cA_le hw ca a b b (k / 10) w
        have l4 := cA_le hw ca a b b (k / 10) (k % 10)
        obtain ⟨u, rfl⟩ : ∃ u, w = u + 1 := ⟨w - 1, by omega⟩
        rw [f_X11_councils_67_l212, show (10 : Int32) = nI 10 from rfl, if_neg (by rw [le_nI (by omega) (by omega)]; omega), if_neg (by decide), rem_nI (by omega) (by omega) (by omega), div_nI (by omega) (by omega) (by omega), n_mul, n_add, n_mul, n_add, ck_nI (by omega) (by omega), ck_nI (by omega) (by omega), ck_nI (by omega) (by omega), ck_nI (by omega) (by omega), c_nI (by omega), c_nI (by omega), c_nI (by omega), hkk.1, hkk.2, r1, show k / 10 * 10 + (u + 1) = 10 * (k / 10) + (u + 1) by omega, r2]
        simp only [lt_eq, inc_nI]
        by_cases z1 : cA v ca a b a (u + 1) (k % 10) ≤ cA v ca a b a (k / 10) (k % 10)
        · rw [if_neg (by rw [lt_nI (by omega) (by omega)]; omega)]
          by_cases z2 : cA v ca a b b (k / 10) (u + 1) ≤ cA v ca a b b (k / 10) (k % 10)
          · rw [if_neg (by rw [lt_nI (by omega) (by omega)]; omega)]
            refine ih (u + 1 + 1) (f + 1) (by omega) (by omega) (by omega) (fun i hi => ?_)
            by_cases e : i = u
            · subst e; exact ⟨z1, z2⟩
            · exact hc i (by omega)
          · rw [if_pos (by rw [lt_nI (by omega) (by omega)]; omega), zero, if_neg (fun y => z2 (y.2 u (by omega)).2)]
        · rw [if_pos (by rw [lt_nI (by omega) (by omega)]; omega), zero, if_neg (fun y => z1 (y.2 u (by omega)).1)]
    exact key 9 1 fuel (by omega) (fuel_gt (by omega)) (by omega) (fun i hi => absurd hi (by omega))
  · rw [if_neg q, if_neg (fun z => q z.1), fuel_eq]
    exact zero 999999 1
theorem mrests (hw : WF v) {ca a b : Nat} (h : MT I v ca a b 100) (x4 : Int32) : f_X11_councils_67_l187 fuel x4 0 (-4) 11 I L = if x4 = 0 then some (nI (rsq v ca a b 89).1, I, L) else some (fst4 (rsq v ca a b 89), I, L) := by
  refine (loop_to (F := fun f i (s : Nat × Nat) => f_X11_councils_67_l187 f x4 (nI s.1) (fst4 s) (nI (11 + i)) I L) (f := fun i s => stp v ca a b (11 + i) s) (out := fun s => if x4 = 0 then some (nI s.1, I, L) else some (fst4 s, I, L)) (n := 89) (Inv := fun i s => s = rsq v ca a b i) (fun f i s hi hI => ?_) (fun i s hi hI => by rw [hI, rsq_s]) (fun f s hI => ?_) 89 0 (0, 0) fuel (by omega) rfl (fuel_gt (by omega))).1
  · have ok := rsq_ok v ca a b i
    rw [← hI] at ok
    show f_X11_councils_67_l187 (f + 1) x4 (nI s.1) (fst4 s) (nI (11 + i)) I L = _
    rw [f_X11_councils_67_l187, show (100 : Int32) = nI 100 from rfl, if_neg (by rw [le_nI (by omega) (by omega)]; omega), show (10 : Int32) = nI 10 from rfl, rem_nI (by omega) (by omega) (by omega)]
    have eb := fun (fl : Int32) => mrest_b (L := L) hw (show 11 ≤ 11 + i by omega) (by omega) h (f_X11_councils_67_l187 f) x4 (nI s.1) (fst4 s)
    have es : (if nI ((11 + i) % 10) ≤ 0 then f_X11_councils_67_l212 (f_X11_councils_67_l187 f) fuel x4 (nI s.1) (fst4 s) (nI (11 + i)) 0 1 I L else f_X11_councils_67_l212 (f_X11_councils_67_l187 f) fuel x4 (nI s.1) (fst4 s) (nI (11 + i)) 1 1 I L) = f_X11_councils_67_l212 (f_X11_councils_67_l187 f) fuel x4 (nI s.1) (fst4 s) (nI (11 + i)) (if 0 < (11 + i) % 10 then 1 else 0) 1 I L := by
      by_cases q : 0 < (11 + i) % 10
      · rw [if_pos q, if_neg (by rw [show (0 : Int32) = nI 0 from rfl, le_nI (by omega) (by omega)]; omega)]
      · rw [if_neg q, if_pos (by rw [show (0 : Int32) = nI 0 from rfl, le_nI (by omega) (by omega)]; omega)]
    rw [es, eb 0]
    unfold stp
    by_cases q : 0 < (11 + i) % 10 ∧ Rst v ca a b ((11 + i) / 10) ((11 + i) % 10)
    · rw [if_pos q, if_pos q]
      unfold f_X11_councils_67_b289
      rw [if_neg (by decide)]
      unfold f_X11_councils_67_b304 f_X11_councils_67_b306
      simp only [if_neg (show ¬ (1 : Int32) = 0 by decide), lt_eq, inc_nI]
      rw [show nI s.1 + 1 = nI (s.1 + 1) from n_add s.1 1]
      show _ = f_X11_councils_67_l187 f x4 (nI (s.1 + 1)) (fst4 (s.1 + 1, if s.1 = 0 then 11 + i else s.2)) (nI (11 + (i + 1))) I L
      have ef : fst4 (s.1 + 1, if s.1 = 0 then 11 + i else s.2) = nI (if s.1 = 0 then 11 + i else s.2) := by unfold fst4; rw [if_neg (by show ¬ s.1 + 1 = 0; omega)]
      rw [ef]
      by_cases z : s.1 = 0
      · rw [if_pos (show nI s.1 = 0 by rw [z]; rfl), if_pos z]; rfl
      · rw [if_neg (show ¬ nI s.1 = 0 from fun y => z ((eq_nI (b := 0) (by omega) (by omega)).mp y)), if_neg z]
        have e4 : fst4 s = nI s.2 := by unfold fst4; rw [if_neg z]
        rw [e4]; rfl
    · rw [if_neg q, if_neg q]
      unfold f_X11_councils_67_b289
      rw [if_pos rfl]
      unfold f_X11_councils_67_b304 f_X11_councils_67_b306
      rw [if_pos rfl, lt_eq, lt_eq, inc_nI, show (0 : Int32) = nI 0 from rfl, addz]; rfl
  · show f_X11_councils_67_l187 (f + 1) x4 (nI s.1) (fst4 s) (nI (11 + 89)) I L = _
    rw [f_X11_councils_67_l187, if_pos (by decide)]
theorem mcoun (hw : WF v) (hm : MH I 68 v) {ca a b : Nat} (hca : ca < v 2) (ha : a < v 0) (hb : b < v 0) (hab : a ≠ b) {x4 : Int32} (hx4 : 0 ≤ x4.toInt ∧ x4.toInt ≤ 1) : ∃ J, f_X11_councils_67 I L (nI a) (nI b) (nI ca) x4 = (if x4 = 0 then some (nI (rsq v ca a b 89).1, J, L) else some (fst4 (rsq v ca a b 89), J, L)) ∧ (∀ k, k < 68 ∨ (69 ≤ k ∧ k ≤ 73) → J k = I k) ∧ MH J 68 v := by
  have sz := hw.sz
  have sl := seaV_lt v
  have q1 : 0 ≤ (nI a).toInt ∧ (nI a).toInt < (v 0 : Int) := by rw [t_nI (by omega)]; omega
  have q2 : 0 ≤ (nI b).toInt ∧ (nI b).toInt < (v 0 : Int) := by rw [t_nI (by omega)]; omega
  have q3 : 0 ≤ (nI ca).toInt ∧ (nI ca).toInt < (v 2 : Int) := by rw [t_nI (by omega)]; omega
  generalize eo : 14 + (4 * a + seaV v) = one
  generalize eh : 14 + (4 * b + seaV v) = oth
  have ne : one ≠ oth := by omega
  have i1 : (14 : Int32) + 4 * nI a + nI (seaV v) = nI one := by rw [show (4 : Int32) = nI 4 from rfl, show (14 : Int32) = nI 14 from rfl, n_mul, n_add, n_add, ← eo]; congr 1; omega
  have i2 : (14 : Int32) + 4 * nI b + nI (seaV v) = nI oth := by rw [show (4 : Int32) = nI 4 from rfl, show (14 : Int32) = nI 14 from rfl, n_mul, n_add, n_add, ← eh]; congr 1; omega
  have evv : ∀ x y, vv v a b x y = vu (vu v one x) oth y := fun x y => by unfold vv; rw [eo, eh]
  unfold f_X11_councils_67
  rw [isParish_n (hm 0 (by omega)) (by omega), isParish_n (hm 0 (by omega)) (by omega), isCart_n (hm 2 (by omega)) (by omega), isTwo_n, mseason_eq (hm 5 (by omega)) (by omega)]
  simp only [Option.bind_some, bit_ite, lt_eq]
  rw [if_pos q1, if_pos q2, if_neg (fun z => hab ((eq_nI (by omega) (by omega)).mp z)), if_pos q3, if_pos hx4, i1, i2, ck_nI (by omega) (by omega), c_nI (by omega), hm.n one (by omega), ck_nI (by omega) (by omega), c_nI (by omega), hm.n oth (by omega)]
  obtain ⟨m', J, ⟨-, j1, j2, j3⟩, hF⟩ := loop_inv (F := fun f k (J : mI) => f_X11_councils_67_l87 f (nI a) (nI b) (nI ca) x4 (nI one) (nI oth) (nI (v one)) (nI (v oth)) (nI k) J L) (n := 100)
    (Inv := fun k J => 11 ≤ k ∧ (∀ c, c ≠ 68 → c ≠ 75 → c ≠ 78 → c ≠ 79 → J c = I c) ∧ (∀ j, j < 135 → j ≠ one → j ≠ oth → J 68 j = nI (v j)) ∧ MT J v ca a b k)
    (fun f k J hk hI => by
      obtain ⟨j0, j1, j2, j3⟩ := hI
      show ∃ J', _ ∧ f_X11_councils_67_l87 (f + 1) (nI a) (nI b) (nI ca) x4 (nI one) (nI oth) (nI (v one)) (nI (v oth)) (nI k) J L = _
      rw [f_X11_councils_67_l87, show (100 : Int32) = nI 100 from rfl, if_neg (by rw [le_nI (by omega) (by omega)]; omega), show (10 : Int32) = nI 10 from rfl, rem_nI (by omega) (by omega) (by omega)]
      by_cases q : 0 < k % 10
      · by_cases qx : 1 ≤ k / 10
        · rw [if_neg (by rw [show (0 : Int32) = nI 0 from rfl, le_nI (by omega) (by omega)]; omega), ck_nI (by omega) (by omega), lt_eq, ck_nI (by omega) (by omega), lt_eq, c_nI (by omega), c_nI (by omega), div_nI (by omega) (by omega) (by omega)]
          have hw' : WF (vv v a b (k / 10) (k % 10)) := hw.vv ha hb (by omega) (by omega) (by omega) (by omega)
          have o0 : vv v a b (k / 10) (k % 10) 0 = v 0 := vv_o (by omega) (by omega) (by omega)
          have o2 : vv v a b (k / 10) (k % 10) 2 = v 2 := vv_o (by omega) (by omega) (by omega)
          have o3 : vv v a b (k / 10) (k % 10) 3 = v 3 := vv_o (by omega) (by omega) (by omega)
          have hmM : MH (uI (uI J 68 one (nI (k / 10))) 68 oth (nI (k % 10))) 68 (vv v a b (k / 10) (k % 10)) := by
            intro j hj
            rw [evv, uI_at, uI_at]
            by_cases e : j = oth
            · rw [if_pos ⟨rfl, e⟩, e, vu_s]
            · rw [if_neg (fun z => e z.2), vu_n e]
              by_cases e2 : j = one
              · rw [if_pos ⟨rfl, e2⟩, e2, vu_s]
              · rw [if_neg (fun z => e2 z.2), vu_n e2]; exact j2 j hj e2 e
          obtain ⟨K1, t1, t2⟩ := mtake (L := L) hw' hmM (show ca < vv v a b (k / 10) (k % 10) 2 by rw [o2]; exact hca) (show a < vv v a b (k / 10) (k % 10) 0 by rw [o0]; exact ha)
          rw [o3] at t1
          have hm1 : MH (uI K1 78 k (nI (tkv (vv v a b (k / 10) (k % 10)) ca a (v 3)))) 68 (vv v a b (k / 10) (k % 10)) := hmM.frame (by rw [uI_cell (by omega), t2 68 (by omega)])
          obtain ⟨K2, u1, u2⟩ := mtake (L := L) hw' hm1 (show ca < vv v a b (k / 10) (k % 10) 2 by rw [o2]; exact hca) (show b < vv v a b (k / 10) (k % 10) 0 by rw [o0]; exact hb)
          rw [o3] at u1
          rw [t1, bndI_some, ck_nI (by omega) (by omega), lt_eq, c_nI (by omega), u1, bndI_some, ck_nI (by omega) (by omega), lt_eq, lt_eq, inc_nI]
          refine ⟨uI K2 79 k (nI (tkv (vv v a b (k / 10) (k % 10)) ca b (v 3))), ⟨by omega, fun c h1 h2 h3 h4 => by rw [uI_cell h4, u2 c h2, uI_cell h3, t2 c h2, uI_cell h1, uI_cell h1, j1 c h1 h2 h3 h4], fun j hj e1 e2 => by rw [uI_cell (by omega), u2 68 (by omega), uI_cell (by omega), t2 68 (by omega), uI_at, if_neg (fun z => e2 z.2), uI_at, if_neg (fun z => e1 z.2)]; exact j2 j hj e1 e2, fun x y h1 h2 h3 h4 => ?_⟩, rfl⟩
          by_cases e : 10 * x + y = k
          · have ex : x = k / 10 := by omega
            have ey : y = k % 10 := by omega
            rw [e, ex, ey]
            refine ⟨?_, by rw [uI_same]; rfl⟩
            rw [uI_cell (by omega), u2 78 (by omega), uI_same]; rfl
          · have old := j3 x y h1 h2 h3 (by omega)
            refine ⟨?_, ?_⟩
            · rw [uI_cell (by omega), u2 78 (by omega), uI_at, if_neg (fun z => e z.2), t2 78 (by omega), uI_cell (by omega), uI_cell (by omega)]; exact old.1
            · rw [uI_at, if_neg (fun z => e z.2), u2 79 (by omega), uI_cell (by omega), t2 79 (by omega), uI_cell (by omega), uI_cell (by omega)]; exact old.2
        · omega
      · rw [if_pos (by rw [show (0 : Int32) = nI 0 from rfl, le_nI (by omega) (by omega)]; omega), lt_eq, inc_nI]
        exact ⟨J, ⟨by omega, j1, j2, fun x y h1 h2 h3 h4 => j3 x y h1 h2 h3 (by omega)⟩, rfl⟩)
    89 11 I fuel (by omega) ⟨by omega, fun _ _ _ _ _ => rfl, fun j hj _ _ => hm j hj, fun x y h1 h2 h3 h4 => absurd h4 (by omega)⟩ (fuel_gt (by omega))
  have hF' : f_X11_councils_67_l87 fuel (nI a) (nI b) (nI ca) x4 (nI one) (nI oth) (nI (v one)) (nI (v oth)) 11 I L = f_X11_councils_67_l87 (m' + 1) (nI a) (nI b) (nI ca) x4 (nI one) (nI oth) (nI (v one)) (nI (v oth)) (nI 100) J L := hF
  generalize eM : uI (uI J 68 one (nI (v one))) 68 oth (nI (v oth)) = M
  have fM : ∀ c, c ≠ 68 → M c = J c := fun c hc => by rw [← eM, uI_cell hc, uI_cell hc]
  refine ⟨M, ?_, fun k hk => by rw [fM k (by omega), j1 k (by omega) (by omega) (by omega) (by omega)], fun j hj => ?_⟩
  · rw [hF', f_X11_councils_67_l87, if_pos (by decide), ck_nI (by omega) (by omega), lt_eq, ck_nI (by omega) (by omega), lt_eq, c_nI (by omega), c_nI (by omega), eM]
    exact mrests hw (fun x y h1 h2 h3 h4 => by rw [fM 78 (by omega), fM 79 (by omega)]; exact j3 x y h1 h2 h3 h4) x4
  · rw [← eM, uI_at, uI_at]
    by_cases e : j = oth
    · rw [if_pos ⟨rfl, e⟩, e]
    · rw [if_neg (fun z => e z.2)]
      by_cases e2 : j = one
      · rw [if_pos ⟨rfl, e2⟩, e2]
      · rw [if_neg (fun z => e2 z.2)]; exact j2 j hj e2 e
theorem st_councils {a1 a2 a3 a4 : Int32} (h : Rel I L) : St_councils Rel I L a1 a2 a3 a4 := by
  obtain ⟨⟨v, hw, hm, hc⟩, hr2⟩ := id h
  have sz := hw.sz
  unfold St_councils f_X10_councils_0
  rw [hasParish_n hc.c0 (by omega), hasParish_n hc.c0 (by omega), hasCart_n hc.c2 (by omega), within_l 0 1 (by decide) (by decide)]
  have bad : ¬ ((0 ≤ a1.toInt ∧ a1.toInt < (v 0 : Int)) ∧ (0 ≤ a2.toInt ∧ a2.toInt < (v 0 : Int)) ∧ ¬ a1 = a2 ∧ (0 ≤ a3.toInt ∧ a3.toInt < (v 2 : Int)) ∧ (0 ≤ a4.toInt ∧ a4.toInt ≤ 1)) → f_X11_councils_67 I L a1 a2 a3 a4 = some (-1, I, L) := by
    intro hn
    unfold f_X11_councils_67
    rw [isParish_n (hm 0 (by omega)) (by omega), isParish_n (hm 0 (by omega)) (by omega), isCart_n (hm 2 (by omega)) (by omega), isTwo_n]
    simp only [Option.bind_some, bit_ite]
    by_cases q1 : 0 ≤ a1.toInt ∧ a1.toInt < (v 0 : Int)
    · rw [if_pos q1]
      by_cases q2 : 0 ≤ a2.toInt ∧ a2.toInt < (v 0 : Int)
      · rw [if_pos q2]
        by_cases q3 : a1 = a2
        · rw [if_pos q3]
        · rw [if_neg q3]
          by_cases q4 : 0 ≤ a3.toInt ∧ a3.toInt < (v 2 : Int)
          · rw [if_pos q4]
            rw [if_neg (fun q5 => hn ⟨q1, q2, q3, q4, q5⟩)]
          · rw [if_neg q4]
      · rw [if_neg q2]
    · rw [if_neg q1]
  simp only [Option.bind_some, bit_ite]
  by_cases q1 : 0 ≤ a1.toInt ∧ a1.toInt < (v 0 : Int)
  · rw [if_pos q1]
    by_cases q2 : 0 ≤ a2.toInt ∧ a2.toInt < (v 0 : Int)
    · rw [if_pos q2]
      by_cases q3 : a1 = a2
      · rw [if_pos q3]
        exact ⟨-1, I, L, I, L, rfl, bad (fun z => z.2.2.1 q3), h⟩
      · rw [if_neg q3]
        by_cases q4 : 0 ≤ a3.toInt ∧ a3.toInt < (v 2 : Int)
        · rw [if_pos q4]
          by_cases q5 : 0 ≤ a4.toInt ∧ a4.toInt ≤ 1
          · rw [if_pos q5]
            obtain ⟨a, ha, rfl, -⟩ := ofI q1.1 q1.2
            obtain ⟨b, hb, rfl, -⟩ := ofI q2.1 q2.2
            obtain ⟨ca, hca, rfl, -⟩ := ofI q4.1 q4.2
            have hab : a ≠ b := fun z => q3 (by rw [z])
            obtain ⟨J1, c1, c2, c3, c4⟩ := ccoun (L := L) hw hc hca ha hb hab
            obtain ⟨J2, m1, m2, m3⟩ := mcoun (L := L) hw (hm.frame (c2 68 (by omega))) hca ha hb hab q5
            have ok := rsq_ok v ca a b 89
            rw [csq_end] at c3 c4
            refine ⟨if a4 = 0 then nI (rsq v ca a b 89).1 else fst4 (rsq v ca a b 89), J1, L, J2, L, ?_, ?_, ?_⟩
            · rw [c1, bndV_some, c3, c4]
              by_cases z : a4 = 0
              · rw [if_pos z, if_pos z]
              · rw [if_neg z, if_neg z]
                unfold fst4
                by_cases y : (rsq v ca a b 89).1 = 0
                · rw [if_pos y, if_pos (show nI (rsq v ca a b 89).1 ≤ 0 by rw [y]; decide)]
                · rw [if_neg y, if_neg (show ¬ nI (rsq v ca a b 89).1 ≤ 0 by rw [show (0 : Int32) = nI 0 from rfl, le_nI (by omega) (by omega)]; omega)]
            · rw [m1]
              by_cases z : a4 = 0
              · rw [if_pos z, if_pos z]
              · rw [if_neg z, if_neg z]
            · refine ⟨⟨v, hw, m3, hc.frame (fun k p q => by rw [m2 k (by omega), c2 k (by omega)])⟩, hr2.frame (fun k hk => by rw [m2 k (by omega), c2 k (by omega)])⟩
          · rw [if_neg q5]
            exact ⟨-1, I, L, I, L, rfl, bad (fun z => q5 z.2.2.2.2), h⟩
        · rw [if_neg q4]
          exact ⟨-1, I, L, I, L, rfl, bad (fun z => q4 z.2.2.2.1), h⟩
    · rw [if_neg q2]
      exact ⟨-1, I, L, I, L, rfl, bad (fun z => q2 z.2.1), h⟩
  · rw [if_neg q1]
    exact ⟨-1, I, L, I, L, rfl, bad (fun z => q1 z.1), h⟩
end Mcoun
