/-! land -/
section Land
variable {n : Nat} {t : Nat → Nat} {I J : mI} {L L2 : mL} {p : Nat} {w : mV}
theorem RD.stay (h : RD n t J p w) : RD n t (uI J 67 8 (J 67 8 + 0)) p w ∧ FR J (uI J 67 8 (J 67 8 + 0)) := by
  rw [show (0 : Int32) = nI 0 from rfl, addz, h.2.2.1]
  exact h.place h.1
theorem pars_rp (hT : TL n t) : ∀ (d k p : Nat) (w : mV) (I J : mI) (f1 f2 : Nat), k + d = 8 → d < f1 → d + 1 < f2 → 1 ≤ k → CD n t I p w → RD n t J p w → WF w → w 0 = k - 1 → w 1 = 0 → ∃ p' w' I' J', CD n t I' p' w' ∧ FC I I' ∧ FR J J' ∧ ((f_X8_readParishes_31_l2 f1 (nI k) I L = some (0, I', L) ∧ f_X11_reads_67_l2 f2 1 J L2 = some (0, J', L2) ∧ RD n t J' p' w') ∨ (∃ f', f_X8_readParishes_31_l2 f1 (nI k) I L = some (1, I', L) ∧ f_X11_reads_67_l2 f2 1 J L2 = f_X11_reads_67_l2 (f' + 1) 0 J' L2 ∧ RD n t J' (skp n t p') w' ∧ WF w' ∧ Kw w w' ∧ 1 ≤ w' 0 ∧ w' 1 = 0)) := by
  intro d
  induction d with
  | zero =>
    intro k p w I J f1 f2 hk h1 h2 hk1 hc hr hw h0 h01
    have sz := hw.sz
    obtain ⟨f1, rfl⟩ : ∃ j, f1 = j + 1 := ⟨f1 - 1, by omega⟩
    obtain ⟨f2, rfl⟩ : ∃ j, f2 = j + 1 := ⟨f2 - 1, by omega⟩
    obtain ⟨f2, rfl⟩ : ∃ j, f2 = j + 1 := ⟨f2 - 1, by omega⟩
    have : k = 8 := by omega
    subst this
    obtain ⟨b, p', w', I', J', g1, g2, g3, g4, g5, g6, g7⟩ := parish_rp (L := L) (L2 := L2) hT hc hr hw (by omega)
    rw [f_X8_readParishes_31_l2, f_X11_reads_67_l2, if_neg (by decide), if_neg (show ¬ (1 : Int32) = 0 by decide), g1, g2, bndI_some, bndI_some]
    rcases g7 with rfl | ⟨rfl, k1, k2, k3, k4⟩
    · rw [if_pos rfl, if_pos rfl]
      exact ⟨p', w', I', J', g3, g5, g6, Or.inl ⟨rfl, rfl, g4⟩⟩
    · rw [if_neg (show ¬ (1 : Int32) = 0 by decide), if_neg (show ¬ (1 : Int32) = 0 by decide), if_pos (show nI 8 = 8 from rfl)]
      obtain ⟨J2, n1, n2, n3⟩ := r_next (L := L2) hT g4
      have st := n2.stay
      have e8 : J2 68 0 = nI 8 := by rw [n2.2.2.2.2 0 (by omega), k3, h0]
      rw [n1, bndI_some, cl0, e8, if_pos (show (8 : Int32) ≤ nI 8 by decide)]
      refine ⟨p', w', I', _, g3, g5, g6.trans (n3.trans st.2), Or.inr ⟨f2, rfl, ?_, st.1, k1, k2, by omega, by omega⟩⟩
      unfold f_X11_reads_67_b39 f_X11_reads_67_b40
      rw [if_pos rfl, lt_eq]
      split <;> rfl
  | succ d ih =>
    intro k p w I J f1 f2 hk h1 h2 hk1 hc hr hw h0 h01
    have sz := hw.sz
    obtain ⟨f1, rfl⟩ : ∃ j, f1 = j + 1 := ⟨f1 - 1, by omega⟩
    obtain ⟨f2, rfl⟩ : ∃ j, f2 = j + 1 := ⟨f2 - 1, by omega⟩
    obtain ⟨b, p', w', I', J', g1, g2, g3, g4, g5, g6, g7⟩ := parish_rp (L := L) (L2 := L2) hT hc hr hw (by omega)
    rw [f_X8_readParishes_31_l2, f_X11_reads_67_l2, show (8 : Int32) = nI 8 from rfl, if_neg (by rw [lt_nI (by omega) (by omega)]; omega), if_neg (show ¬ (1 : Int32) = 0 by decide), g1, g2, bndI_some, bndI_some]
    rcases g7 with rfl | ⟨rfl, k1, k2, k3, k4⟩
    · rw [if_pos rfl, if_pos rfl]
      exact ⟨p', w', I', J', g3, g5, g6, Or.inl ⟨rfl, rfl, g4⟩⟩
    · rw [if_neg (show ¬ (1 : Int32) = 0 by decide), if_neg (show ¬ (1 : Int32) = 0 by decide), if_neg (fun z => by have := (eq_nI (by omega) (by omega)).mp z; omega)]
      obtain ⟨J2, n1, n2, n3⟩ := r_next (L := L2) hT g4
      obtain ⟨I2, t1, t2, t3⟩ := c_takes (L := L) (c := 44) hT g3 (by omega)
      have t1' : f_X8_takes_31 I' L 44 = _ := t1
      have e8 : J2 68 0 = nI k := by rw [n2.2.2.2.2 0 (by omega), k3, h0]; congr 1; omega
      rw [n1, bndI_some, t1', bndI_some, cl0, e8]
      by_cases q : tk n t (skp n t p') 44
      · have ec : ch n t (skp n t p') = 44 := by unfold ch; rw [if_pos q.1]; exact q.2
        rw [if_pos q] at t2 ⊢
        rw [ec, if_neg (show ¬ (1 : Int32) = 0 by decide), if_pos (show nI 44 = 44 from rfl), if_neg (by rw [le_nI (by omega) (by omega)]; omega), lt_eq, inc_nI]
        unfold f_X11_reads_67_b40
        rw [if_neg (show ¬ (1 : Int32) = 0 by decide), lt_eq]
        have nx := n2.next hT q.1
        generalize uI J2 67 8 (J2 67 8 + 1) = J3 at nx ⊢
        obtain ⟨p2, w2, I3, J4, j1, j2, j3, j4⟩ := ih (k + 1) (skp n t p' + 1) w' I2 J3 f1 f2 (by omega) (by omega) (by omega) (by omega) t2 nx.1 k1 (by omega) (by omega)
        refine ⟨p2, w2, I3, J4, j1, (g5.trans t3).trans j2, (g6.trans (n3.trans nx.2)).trans j3, ?_⟩
        rcases j4 with ⟨e1, e2, e3⟩ | ⟨f', e1, e2, e3, e4, e5, e6⟩
        · exact Or.inl ⟨e1, e2, e3⟩
        · exact Or.inr ⟨f', e1, e2, e3, e4, k2.trans e5, e6⟩
      · have ec : ¬ nI (ch n t (skp n t p')) = 44 := by
          intro y
          unfold ch at y
          by_cases zn : skp n t p' < n
          · have := hT.2 _ zn
            rw [if_pos zn] at y
            exact q ⟨zn, (eq_nI (b := 44) (by omega) (by omega)).mp y⟩
          · rw [if_neg zn] at y; revert y; decide
        rw [if_neg q] at t2 ⊢
        rw [if_pos rfl, if_neg ec]
        obtain ⟨f2, rfl⟩ : ∃ j, f2 = j + 1 := ⟨f2 - 1, by omega⟩
        have st := n2.stay
        refine ⟨skp n t p', w', I2, _, t2, g5.trans t3, g6.trans (n3.trans st.2), Or.inr ⟨f2, rfl, ?_, by rw [skp_skp g3.1]; exact st.1, k1, k2, by omega, by omega⟩⟩
        unfold f_X11_reads_67_b39 f_X11_reads_67_b40
        rw [if_pos rfl, lt_eq]
theorem roads_rp (hT : TL n t) : ∀ (d k p : Nat) (w : mV) (I J : mI) (f1 f2 : Nat), k + d = 15 → d < f1 → d + 1 < f2 → 1 ≤ k → CD n t I p w → RD n t J p w → WF w → 1 ≤ w 0 → w 1 = k - 1 → ∃ p' w' I' J', CD n t I' p' w' ∧ FC I I' ∧ FR J J' ∧ ((f_X8_readRoads_31_l2 f1 (nI k) I L = some (0, I', L) ∧ f_X11_reads_67_l95 f2 1 J L2 = some (0, J', L2) ∧ RD n t J' p' w') ∨ (∃ f', f_X8_readRoads_31_l2 f1 (nI k) I L = some (1, I', L) ∧ f_X11_reads_67_l95 f2 1 J L2 = f_X11_reads_67_l95 (f' + 1) 0 J' L2 ∧ RD n t J' (skp n t p') w' ∧ WF w' ∧ Kw w w')) := by
  intro d
  induction d with
  | zero =>
    intro k p w I J f1 f2 hk h1 h2 hk1 hc hr hw h0 h01
    have sz := hw.sz
    obtain ⟨f1, rfl⟩ : ∃ j, f1 = j + 1 := ⟨f1 - 1, by omega⟩
    obtain ⟨f2, rfl⟩ : ∃ j, f2 = j + 1 := ⟨f2 - 1, by omega⟩
    obtain ⟨f2, rfl⟩ : ∃ j, f2 = j + 1 := ⟨f2 - 1, by omega⟩
    have : k = 15 := by omega
    subst this
    obtain ⟨b, p', w', I', J', g1, g2, g3, g4, g5, g6, g7⟩ := road_rp (L := L) (L2 := L2) hT hc hr hw h0 (by omega)
    rw [f_X8_readRoads_31_l2, f_X11_reads_67_l95, if_neg (by decide), if_neg (show ¬ (1 : Int32) = 0 by decide), g1, g2, bndI_some, bndI_some]
    rcases g7 with rfl | ⟨rfl, k1, k2, k3, k4⟩
    · rw [if_pos rfl, if_pos rfl]
      exact ⟨p', w', I', J', g3, g5, g6, Or.inl ⟨rfl, rfl, g4⟩⟩
    · rw [if_neg (show ¬ (1 : Int32) = 0 by decide), if_neg (show ¬ (1 : Int32) = 0 by decide), if_pos (show nI 15 = 15 from rfl)]
      obtain ⟨J2, n1, n2, n3⟩ := r_next (L := L2) hT g4
      have st := n2.stay
      have e8 : J2 68 1 = nI 15 := by rw [n2.2.2.2.2 1 (by omega), k4, h01]
      rw [n1, bndI_some, cl1, e8, if_pos (show (15 : Int32) ≤ nI 15 by decide)]
      refine ⟨p', w', I', _, g3, g5, g6.trans (n3.trans st.2), Or.inr ⟨f2, rfl, ?_, st.1, k1, k2⟩⟩
      unfold f_X11_reads_67_b132 f_X11_reads_67_b133
      rw [if_pos rfl, lt_eq]
      split <;> rfl
  | succ d ih =>
    intro k p w I J f1 f2 hk h1 h2 hk1 hc hr hw h0 h01
    have sz := hw.sz
    obtain ⟨f1, rfl⟩ : ∃ j, f1 = j + 1 := ⟨f1 - 1, by omega⟩
    obtain ⟨f2, rfl⟩ : ∃ j, f2 = j + 1 := ⟨f2 - 1, by omega⟩
    obtain ⟨b, p', w', I', J', g1, g2, g3, g4, g5, g6, g7⟩ := road_rp (L := L) (L2 := L2) hT hc hr hw h0 (by omega)
    rw [f_X8_readRoads_31_l2, f_X11_reads_67_l95, show (15 : Int32) = nI 15 from rfl, if_neg (by rw [lt_nI (by omega) (by omega)]; omega), if_neg (show ¬ (1 : Int32) = 0 by decide), g1, g2, bndI_some, bndI_some]
    rcases g7 with rfl | ⟨rfl, k1, k2, k3, k4⟩
    · rw [if_pos rfl, if_pos rfl]
      exact ⟨p', w', I', J', g3, g5, g6, Or.inl ⟨rfl, rfl, g4⟩⟩
    · rw [if_neg (show ¬ (1 : Int32) = 0 by decide), if_neg (show ¬ (1 : Int32) = 0 by decide), if_neg (fun z => by have := (eq_nI (by omega) (by omega)).mp z; omega)]
      obtain ⟨J2, n1, n2, n3⟩ := r_next (L := L2) hT g4
      obtain ⟨I2, t1, t2, t3⟩ := c_takes (L := L) (c := 44) hT g3 (by omega)
      have t1' : f_X8_takes_31 I' L 44 = _ := t1
      have e8 : J2 68 1 = nI k := by rw [n2.2.2.2.2 1 (by omega), k4, h01]; congr 1; omega
      rw [n1, bndI_some, t1', bndI_some, cl1, e8]
      by_cases q : tk n t (skp n t p') 44
      · have ec : ch n t (skp n t p') = 44 := by unfold ch; rw [if_pos q.1]; exact q.2
        rw [if_pos q] at t2 ⊢
        rw [ec, if_neg (show ¬ (1 : Int32) = 0 by decide), if_pos (show nI 44 = 44 from rfl), if_neg (by rw [le_nI (by omega) (by omega)]; omega), lt_eq, inc_nI]
        unfold f_X11_reads_67_b133
        rw [if_neg (show ¬ (1 : Int32) = 0 by decide), lt_eq]
        have nx := n2.next hT q.1
        generalize uI J2 67 8 (J2 67 8 + 1) = J3 at nx ⊢
        obtain ⟨p2, w2, I3, J4, j1, j2, j3, j4⟩ := ih (k + 1) (skp n t p' + 1) w' I2 J3 f1 f2 (by omega) (by omega) (by omega) (by omega) t2 nx.1 k1 (by omega) (by omega)
        refine ⟨p2, w2, I3, J4, j1, (g5.trans t3).trans j2, (g6.trans (n3.trans nx.2)).trans j3, ?_⟩
        rcases j4 with ⟨e1, e2, e3⟩ | ⟨f', e1, e2, e3, e4, e5⟩
        · exact Or.inl ⟨e1, e2, e3⟩
        · exact Or.inr ⟨f', e1, e2, e3, e4, k2.trans e5⟩
      · have ec : ¬ nI (ch n t (skp n t p')) = 44 := by
          intro y
          unfold ch at y
          by_cases zn : skp n t p' < n
          · have := hT.2 _ zn
            rw [if_pos zn] at y
            exact q ⟨zn, (eq_nI (b := 44) (by omega) (by omega)).mp y⟩
          · rw [if_neg zn] at y; revert y; decide
        rw [if_neg q] at t2 ⊢
        rw [if_pos rfl, if_neg ec]
        obtain ⟨f2, rfl⟩ : ∃ j, f2 = j + 1 := ⟨f2 - 1, by omega⟩
        have st := n2.stay
        refine ⟨skp n t p', w', I2, _, t2, g5.trans t3, g6.trans (n3.trans st.2), Or.inr ⟨f2, rfl, ?_, by rw [skp_skp g3.1]; exact st.1, k1, k2⟩⟩
        unfold f_X11_reads_67_b132 f_X11_reads_67_b133
        rw [if_pos rfl, lt_eq]
/-- the end of the text -/
theorem end_rp (hT : TL n t) (hc : CD n t I p w) {q : Nat} (hr : RD n t J q w) (hq : skp n t q = skp n t p) (f : Nat) : ∃ b I' J', f_X8_read_31_b39 I L = some (b, I', L) ∧ f_X11_reads_67_l95 (f + 1) 0 J L2 = some (b, J', L2) ∧ CD n t I' (skp n t p) w ∧ RD n t J' (skp n t p) w ∧ FC I I' ∧ FR J J' ∧ (b = 0 ∨ b = 1) := by
  have hTn := hT.1
  obtain ⟨I1, c1, c2, c3⟩ := c_skip (L := L) hT hc
  obtain ⟨J1, r1, r2, r3⟩ := r_next (L := L2) hT hr
  rw [hq] at r1 r2
  have sl := skp_le (n := n) (t := t) hc.1
  unfold f_X8_read_31_b39
  rw [c1, bndV_some, c2.2.1, c2.2.2.1, f_X11_reads_67_l95, if_pos rfl, r1, bndI_some]
  by_cases z : skp n t p < n
  · have tb := hT.2 _ z
    have ec : ¬ nI (ch n t (skp n t p)) = 0 := by
      unfold ch; rw [if_pos z]
      intro y
      have := (eq_nI (b := 0) (by omega) (by omega)).mp y
      omega
    rw [if_pos (by rw [lt_nI (by omega) (by omega)]; exact z), if_neg ec]
    exact ⟨0, I1, J1, rfl, rfl, c2, r2, c3, r3, Or.inl rfl⟩
  · have ec : nI (ch n t (skp n t p)) = 0 := by unfold ch; rw [if_neg z]; rfl
    rw [if_neg (by rw [lt_nI (by omega) (by omega)]; exact z), if_pos ec]
    exact ⟨1, I1, J1, rfl, rfl, c2, r2, c3, r3, Or.inr rfl⟩
/-- the whole text is read alike -/
theorem read_rp (hT : TL n t) (hc : CD n t (uI (uI (uI I 31 3 0) 33 5 0) 33 6 0) 0 w) (hr : RD n t J 0 w) (hw : WF w) (h0 : w 0 = 0) (h1 : w 1 = 0) : RP n t (uI (uI (uI I 31 3 0) 33 5 0) 33 6 0) J L L2 w (f_X8_read_31 I L) (f_X11_reads_67 J L2) (fun _ => True) := by
  have e : f_X8_read_31 I L = bndI (f_X8_readParishes_31 (uI (uI (uI I 31 3 0) 33 5 0) 33 6 0) L) (fun r4 Ir4 Lr4 => if r4 = 0 then (some (0, Ir4, Lr4)) else (bndI (f_X8_takes_31 Ir4 Lr4 59) (fun r6 Ir6 Lr6 => if r6 = 0 then (f_X8_read_31_b39 Ir6 Lr6) else (bndI (f_X8_readRoads_31 Ir6 Lr6) (fun r10 Ir10 Lr10 => if r10 = 0 then (some (0, Ir10, Lr10)) else (f_X8_read_31_b39 Ir10 Lr10)))))) := by
    unfold f_X8_read_31 f_X3_clear_33
    rw [lt_eq, lt_eq, lt_eq, bndV_some]
  rw [e]
  generalize uI (uI (uI I 31 3 0) 33 5 0) 33 6 0 = I0 at *
  unfold f_X8_readParishes_31 f_X11_reads_67
  obtain ⟨p1, w1, I1, J1, a1, a2, a3, a4⟩ := pars_rp (L := L) (L2 := L2) hT 7 1 0 w I0 J fuel fuel (by omega) (fuel_gt (by omega)) (fuel_gt (by omega)) (by omega) hc hr hw h0 h1
  rcases a4 with ⟨e1, e2, e3⟩ | ⟨f', e1, e2, e3, e4, e5, e6, e7⟩
  · have e1' : f_X8_readParishes_31_l2 fuel 1 I0 L = some (0, I1, L) := e1
    rw [e1', e2, bndI_some, if_pos rfl]
    exact ⟨0, p1, w1, I1, J1, rfl, rfl, a1, e3, a2, a3, Or.inl rfl⟩
  · have e1' : f_X8_readParishes_31_l2 fuel 1 I0 L = some (1, I1, L) := e1
    rw [e1', e2, bndI_some, if_neg (show ¬ (1 : Int32) = 0 by decide), f_X11_reads_67_l2, if_pos rfl]
    obtain ⟨I2, t1, t2, t3⟩ := c_takes (L := L) (c := 59) hT a1 (by omega)
    obtain ⟨J2, n1, n2, n3⟩ := r_next (L := L2) hT e3
    have t1' : f_X8_takes_31 I1 L 59 = _ := t1
    have ss := skp_skp (n := n) (t := t) a1.1
    rw [ss] at n1 n2
    rw [t1', n1, bndI_some, bndI_some]
    by_cases q : tk n t (skp n t p1) 59
    · have ec : ch n t (skp n t p1) = 59 := by unfold ch; rw [if_pos q.1]; exact q.2
      rw [if_pos q] at t2 ⊢
      rw [ec, if_neg (show ¬ (1 : Int32) = 0 by decide), if_pos (show nI 59 = 59 from rfl)]
      unfold f_X11_reads_67_b76 f_X8_readRoads_31
      rw [if_neg (show ¬ (1 : Int32) = 0 by decide), lt_eq]
      have nx := n2.next hT q.1
      generalize uI J2 67 8 (J2 67 8 + 1) = J3 at nx ⊢
      obtain ⟨p2, w2, I3, J4, j1, j2, j3, j4⟩ := roads_rp (L := L) (L2 := L2) hT 14 1 (skp n t p1 + 1) w1 I2 J3 fuel fuel (by omega) (fuel_gt (by omega)) (fuel_gt (by omega)) (by omega) t2 nx.1 e4 e6 e7
      have fc := a2.trans (t3.trans j2)
      have fr := a3.trans (n3.trans (nx.2.trans j3))
      rcases j4 with ⟨k1, k2, k3⟩ | ⟨f2, k1, k2, k3, k4, k5⟩
      · have k1' : f_X8_readRoads_31_l2 fuel 1 I2 L = some (0, I3, L) := k1
        rw [k1', k2, bndI_some, if_pos rfl]
        exact ⟨0, p2, w2, I3, J4, rfl, rfl, j1, k3, fc, fr, Or.inl rfl⟩
      · have k1' : f_X8_readRoads_31_l2 fuel 1 I2 L = some (1, I3, L) := k1
        rw [k1', k2, bndI_some, if_neg (show ¬ (1 : Int32) = 0 by decide)]
        obtain ⟨b, I4, J5, m1, m2, m3, m4, m5, m6, m7⟩ := end_rp (L := L) (L2 := L2) hT j1 k3 (skp_skp j1.1) f2
        refine ⟨b, _, w2, I4, J5, m1, m2, m3, m4, fc.trans m5, fr.trans m6, ?_⟩
        rcases m7 with e | e
        · exact Or.inl e
        · exact Or.inr ⟨e, k4, e5.trans k5, trivial⟩
    · have ec : ¬ nI (ch n t (skp n t p1)) = 59 := by
        intro y
        unfold ch at y
        by_cases zn : skp n t p1 < n
        · have := hT.2 _ zn
          rw [if_pos zn] at y
          exact q ⟨zn, (eq_nI (b := 59) (by omega) (by omega)).mp y⟩
        · rw [if_neg zn] at y; revert y; decide
      rw [if_neg q] at t2 ⊢
      rw [if_pos rfl, if_neg ec]
      unfold f_X11_reads_67_b76
      rw [if_pos rfl, lt_eq]
      have st := n2.stay
      generalize uI J2 67 8 (J2 67 8 + 0) = J3 at st ⊢
      obtain ⟨b, I4, J5, m1, m2, m3, m4, m5, m6, m7⟩ := end_rp (L := L) (L2 := L2) hT t2 st.1 (by rfl) 999999
      refine ⟨b, _, w1, I4, J5, m1, m2, m3, m4, a2.trans (t3.trans m5), a3.trans (n3.trans (st.2.trans m6)), ?_⟩
      rcases m7 with e | e
      · exact Or.inl e
      · exact Or.inr ⟨e, e4, e5, trivial⟩
end Land
