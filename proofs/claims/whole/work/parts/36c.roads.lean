/-! land: roads -/
section Roads
variable {n : Nat} {t : Nat → Nat} {I J : mI} {L L2 : mL} {p : Nat} {w : mV}
abbrev wR (w : mV) (a b x : Nat) : mV := vus w [(46 + w 1, a), (61 + w 1, b), (76 + w 1, x), (1, w 1 + 1)]
theorem wR_k (w : mV) (a b x : Nat) (h15 : w 1 < 15) : wR w a b x 1 = w 1 + 1 ∧ wR w a b x 0 = w 0 ∧ Kw w (wR w a b x) := by
  have e : ∀ j, j ≠ 1 → (j < 46 ∨ 91 ≤ j) → wR w a b x j = w j := by
    intro j h1 h2
    show vu (vu (vu (vu w (46 + w 1) a) (61 + w 1) b) (76 + w 1) x) 1 (w 1 + 1) j = w j
    rw [vu_n (by omega), vu_n (by omega), vu_n (by omega), vu_n (by omega)]
  refine ⟨?_, e 0 (by omega) (by omega), fun j hj => e j (by omega) (by omega)⟩
  show vu (vu (vu (vu w (46 + w 1) a) (61 + w 1) b) (76 + w 1) x) 1 (w 1 + 1) 1 = w 1 + 1
  exact vu_s _ _ _
theorem c_joins (hw : WF w) (h : CD n t I p w) {a b : Nat} (ha : a < 8) (hb : b < 8) : ((∃ r, r < w 1 ∧ En w r a b) ∧ f_X3_joins_33 I L (nI a) (nI b) = some 1) ∨ ((∀ r, r < w 1 → ¬ En w r a b) ∧ f_X3_joins_33 I L (nI a) (nI b) = some 0) := by
  have sz := hw.sz
  have e6 : I 33 6 = nI (w 1) := loc31 h.2.2.2.2 (by omega) loc1 (Or.inl (by omega))
  unfold f_X3_joins_33
  have key : ∀ (d k f : Nat), k + d = w 1 → d < f → (∀ r, r < k → ¬ En w r a b) → ((∃ r, r < w 1 ∧ En w r a b) ∧ f_X3_joins_33_l2 I L f (nI a) (nI b) (nI k) = some 1) ∨ ((∀ r, r < w 1 → ¬ En w r a b) ∧ f_X3_joins_33_l2 I L f (nI a) (nI b) (nI k) = some 0) := by
    intro d
    induction d with
    | zero =>
      intro k f hk hf hno
      obtain ⟨f, rfl⟩ : ∃ j, f = j + 1 := ⟨f - 1, by omega⟩
      refine Or.inr ⟨fun r hr => hno r (by omega), ?_⟩
      rw [f_X3_joins_33_l2, e6, if_pos (by rw [le_nI (by omega) (by omega)]; omega)]
    | succ d ih =>
      intro k f hk hf hno
      obtain ⟨f, rfl⟩ : ∃ j, f = j + 1 := ⟨f - 1, by omega⟩
      have rb := hw.roadb k (by omega)
      have e36 : I 36 k = nI (w (46 + k)) := loc31 h.2.2.2.2 (by omega) (loc_one (by omega)) (by unfold gL; omega)
      have e37 : I 37 k = nI (w (61 + k)) := loc31 h.2.2.2.2 (by omega) (loc_oth (by omega)) (by unfold gL; omega)
      have em := En_mm (r := k) (a := a) (b := b) rb.1
      rw [f_X3_joins_33_l2, e6, if_neg (by rw [le_nI (by omega) (by omega)]; omega), ck_nI (by omega) (by omega), c_nI (by omega), e36, e37, ck_nI (by omega) (by omega), min_nI (by omega) (by omega), max_nI (by omega) (by omega)]
      simp only [lt_eq, inc_nI]
      have next : ¬ En w k a b → ((∃ r, r < w 1 ∧ En w r a b) ∧ f_X3_joins_33_l2 I L f (nI a) (nI b) (nI (k + 1)) = some 1) ∨ ((∀ r, r < w 1 → ¬ En w r a b) ∧ f_X3_joins_33_l2 I L f (nI a) (nI b) (nI (k + 1)) = some 0) := fun hn => ih (k + 1) f (by omega) (by omega) (fun r hr => by
        by_cases e : r = k
        · subst e; exact hn
        · exact hno r (by omega))
      by_cases q1 : w (46 + k) = min a b
      · rw [if_pos (by rw [q1])]
        by_cases q2 : w (61 + k) = max a b
        · rw [if_pos (by rw [q2])]
          exact Or.inl ⟨⟨k, by omega, em.mpr ⟨q1, q2⟩⟩, rfl⟩
        · rw [if_neg (fun z => q2 ((eq_nI (by omega) (by omega)).mp z))]
          exact next (fun z => q2 (em.mp z).2)
      · rw [if_neg (fun z => q1 ((eq_nI (by omega) (by omega)).mp z))]
        exact next (fun z => q1 (em.mp z).1)
  exact key (w 1) 0 fuel (by omega) (fuel_gt (by omega)) (fun r hr => absurd hr (by omega))
theorem c_addR (h : CD n t I p w) (h15 : w 1 < 15) {a b x : Nat} (ha : a < 8) (hb : b < 8) : ∃ I', f_X3_addRoad_33 I L (nI a) (nI b) (nI x) = some (nI (w 1), I', L) ∧ CD n t I' p (wR w (min a b) (max a b) x) ∧ FC I I' := by
  obtain ⟨h0, h1, h2, h3, h4⟩ := h
  have e6 : I 33 6 = nI (w 1) := loc31 h4 (by omega) loc1 (Or.inl (by omega))
  have c1 := h4.set31 (x := min a b) (show 46 + w 1 < 135 by omega) (loc_one (k := w 1) (by omega))
  have c2 := c1.set31 (x := max a b) (show 61 + w 1 < 135 by omega) (loc_oth (k := w 1) (by omega))
  have c3 := c2.set31 (x := x) (show 76 + w 1 < 135 by omega) (loc_toll (k := w 1) (by omega))
  have c4 := c3.set31 (x := w 1 + 1) (show 1 < 135 by omega) loc1
  refine ⟨uI (uI (uI (uI I 36 (w 1) (nI (min a b))) 37 (w 1) (nI (max a b))) 38 (w 1) (nI x)) 33 6 (nI (w 1 + 1)), ?_, ⟨h0, ?_, ?_, fun j hj => ?_, ?_⟩, fun c a b => ?_, ?_⟩
  · unfold f_X3_addRoad_33
    rw [e6, lt_eq, ck_nI (by omega) (by omega), lt_eq, ck_nI (by omega) (by omega), lt_eq, ck_nI (by omega) (by omega), lt_eq, lt_eq, c_nI (by omega), min_nI (by omega) (by omega), max_nI (by omega) (by omega), uI_cell (show 33 ≠ 38 by omega), uI_cell (show 33 ≠ 37 by omega), uI_cell (show 33 ≠ 36 by omega), e6, show nI (w 1) + 1 = nI (w 1 + 1) from n_add _ 1]
  · rw [uI_cell (by omega), uI_cell (by omega), uI_cell (by omega), uI_cell (by omega)]; exact h1
  · rw [uI_cell (by omega), uI_cell (by omega), uI_cell (by omega), uI_cell (by omega)]; exact h2
  · rw [uI_cell (by omega), uI_cell (by omega), uI_cell (by omega), uI_cell (by omega)]; exact h3 j hj
  · refine CHs.sub c4 (fun i hi hg => ?_)
    obtain ⟨k1, k0, -⟩ := wR_k w (min a b) (max a b) x h15
    unfold gL at hg ⊢
    rw [k1, k0] at hg
    omega
  · rw [uI_cell (by omega), uI_cell (by omega), uI_cell (by omega), uI_cell (by omega)]
  · rw [uI_cell (by omega), uI_cell (by omega), uI_cell (by omega), uI_cell (by omega)]
theorem r_addR (hw : WF w) (h : RD n t J p w) (h15 : w 1 < 15) {a b x : Nat} (ha : a < w 0) (hb : b < w 0) (hab : a ≠ b) (hx : x ≤ 9) (hno : ∀ r, r < w 1 → ¬ En w r a b) : ∃ J', f_X11_readsRoad_67_b107 J L (nI a) (nI b) (nI x) = some (1, J', L) ∧ RD n t J' p (wR w (min a b) (max a b) x) ∧ FR J J' := by
  have sz := hw.sz
  obtain ⟨h0, h1, h2, h3, h4⟩ := h
  have q1 : 0 ≤ (nI a).toInt ∧ (nI a).toInt < (w 0 : Int) := by rw [t_nI (by omega)]; omega
  have q2 : 0 ≤ (nI b).toInt ∧ (nI b).toInt < (w 0 : Int) := by rw [t_nI (by omega)]; omega
  have q3 : 0 ≤ (nI x).toInt ∧ (nI x).toInt ≤ 9 := by rw [t_nI (by omega)]; omega
  obtain ⟨y, y1, y2⟩ := roadOf_eq (L := L) h4 (by omega) (fun r hr => by have := hw.roadb r hr; omega) (a := a) (b := b) (by omega) (by omega)
  have ey : y = -1 := by
    rcases y2 with ⟨e, -⟩ | ⟨r, hr, he, -⟩
    · exact e
    · exact absurd he (hno r hr)
  subst ey
  refine ⟨uI (uI (uI (uI J 68 (46 + w 1) (nI (min a b))) 68 (61 + w 1) (nI (max a b))) 68 (76 + w 1) (nI x)) 68 1 (nI (w 1 + 1)), ?_, ⟨h0, ?_, ?_, fun j hj => ?_, ?_⟩, fun c a b => ?_, fun j hj => ?_⟩
  · unfold f_X11_readsRoad_67_b107 f_X11_road_67
    rw [isParish_n (h4 0 (by omega)) (by omega), isParish_n (h4 0 (by omega)) (by omega), in_l 0 9 (by decide) (by decide), y1]
    simp only [Option.bind_some, bit_ite]
    rw [if_pos q1, if_pos q2, if_neg (fun z => hab ((eq_nI (by omega) (by omega)).mp z)), if_pos q3, if_pos (by decide), cl1, h4 1 (by omega), show (15 : Int32) = nI 15 from rfl, if_neg (fun z => by have := (eq_nI (by omega) (by omega)).mp z; omega), lt_eq, mroad_add (h4 1 (by omega)) h15 (by omega) (by omega), bndI_some, if_neg (nI_ge0' (by omega))]
  · rw [uI_cell (by omega), uI_cell (by omega), uI_cell (by omega), uI_cell (by omega)]; exact h1
  · rw [uI_cell (by omega), uI_cell (by omega), uI_cell (by omega), uI_cell (by omega)]; exact h2
  · rw [uI_cell (by omega), uI_cell (by omega), uI_cell (by omega), uI_cell (by omega)]; exact h3 j hj
  · exact (((h4.set (46 + w 1) (min a b)).set (61 + w 1) (max a b)).set (76 + w 1) x).set 1 (w 1 + 1)
  · rw [uI_cell b, uI_cell b, uI_cell b, uI_cell b]
  · rw [uI_cell (by omega), uI_cell (by omega), uI_cell (by omega), uI_cell (by omega)]
theorem road_rp (hT : TL n t) (hc : CD n t I p w) (hr : RD n t J p w) (hw : WF w) (h1 : 1 ≤ w 0) (h15 : w 1 < 15) : RP n t I J L L2 w (f_X8_readRoad_31 I L) (f_X11_readsRoad_67 J L2) (fun w' => w' 0 = w 0 ∧ w' 1 = w 1 + 1) := by
  have sz := hw.sz
  have hTn := hT.1
  obtain ⟨v0, ev⟩ : ∃ v0, w 0 = v0 + 1 := ⟨w 0 - 1, by omega⟩
  have e5 : ∀ {K : mI} {p : Nat}, CD n t K p w → (K 33 5) - 1 = nI v0 := fun h => by rw [loc31 h.2.2.2.2 (by omega) loc0 (Or.inl (by omega)), ev, nI_pred]
  obtain ⟨I1, c1, c2, c3⟩ := c_digit (L := L) (lo := 0) (hi := v0) hT hc (by omega) (by omega)
  obtain ⟨J1, r1, r2, r3⟩ := r_isDigit (L := L2) (lo := 0) (hi := v0) hT hr (by omega) (by omega)
  have c1' : f_X8_digit_31 I L 0 ((I 33 5) - 1) = some (if dg n t (skp n t p) 0 v0 then nI (t (skp n t p) - 48) else -1, I1, L) := by rw [e5 hc]; exact c1
  have r1' : f_X11_isDigit_67 J L2 0 (nI v0) = _ := r1
  unfold f_X8_readRoad_31 f_X11_readsRoad_67
  rw [c1', cl0, hr.2.2.2.2 0 (by omega), ev, nI_pred, lt_eq, r1', bndI_some, bndI_some]
  have fail : ∀ (q : Nat) (K M : mI) (cr rr : rI), CD n t K q w → RD n t M q w → FC I K → FR J M → cr = some (0, K, L) → rr = some (0, M, L2) → RP n t I J L L2 w cr rr (fun w' => w' 0 = v0 + 1 ∧ w' 1 = w 1 + 1) := fun q K M cr rr a b c d e1 e2 => ⟨0, q, w, K, M, e1, e2, a, b, c, d, Or.inl rfl⟩
  by_cases q1 : dg n t (skp n t p) 0 v0
  · have q1b := q1.2
    rw [if_pos q1, if_pos q1, if_pos (ge0_nI (by omega)), if_neg (by decide), lt_eq]
    have cx := c2.next hT q1.1
    generalize uI I1 31 3 (I1 31 3 + 1) = I2 at cx ⊢
    obtain ⟨J2, d1, d2, d3⟩ := r_digit (L := L2) hT r2 (skp_skp hc.1) q1.1 (by omega)
    obtain ⟨I3, f1, f2, f3⟩ := c_digit (L := L) (lo := 0) (hi := v0) hT cx.1 (by omega) (by omega)
    obtain ⟨J3, g1, g2, g3⟩ := r_isDigit (L := L2) (lo := 0) (hi := v0) hT d2 (by omega) (by omega)
    have f1' : f_X8_digit_31 I2 L 0 ((I2 33 5) - 1) = some (if dg n t (skp n t (skp n t p + 1)) 0 v0 then nI (t (skp n t (skp n t p + 1)) - 48) else -1, I3, L) := by rw [e5 cx.1]; exact f1
    have g1' : f_X11_isDigit_67 J2 L2 0 (nI v0) = _ := g1
    rw [d1, bndI_some, f1', g1', bndI_some, bndI_some]
    generalize ea : t (skp n t p) - 48 = a at *
    have ha : a < w 0 := by omega
    generalize es : skp n t (skp n t p + 1) = s at *
    have hs : skp n t s = s := by rw [← es]; exact skp_skp (by have := q1.1; omega)
    have fc3 := c3.trans (cx.2.trans f3)
    have fr3 := r3.trans (d3.trans g3)
    by_cases q2 : dg n t s 0 v0
    · have q2b := q2.2
      generalize eb : t s - 48 = b at *
      have hb : b < w 0 := by omega
      have tb := hT.2 s q2.1
      rw [if_pos q2, if_pos q2, if_neg (nI_ge0' (by omega)), if_neg (show ¬ (1 : Int32) = 0 by decide)]
      obtain ⟨J4, n1, n2, n3⟩ := r_next (L := L2) hT g2
      rw [hs] at n1 n2
      have ec : ch n t s = t s := by unfold ch; rw [if_pos q2.1]
      have eb2 : nI (t s) - 48 = nI b := by
        apply Int32.toInt_inj.mp
        rw [show (48 : Int32) = nI 48 from rfl, sub_t (by omega) (by omega), t_nI (by omega)]; omega
      obtain ⟨J5, m1, m2, m3⟩ := r_next (L := L2) hT n2
      rw [hs] at m1 m2
      rw [n1, bndI_some, ec, eb2, m1, bndI_some, ec, eb2]
      by_cases q3 : a = b
      · rw [if_pos (by rw [q3]), if_pos (by rw [q3])]
        exact ev ▸ fail s I3 J4 _ _ f2 n2 fc3 (fr3.trans n3) rfl rfl
      · rw [if_neg (fun z => q3 ((eq_nI (by omega) (by omega)).mp z)), if_neg (fun z => q3 ((eq_nI (by omega) (by omega)).mp z).symm)]
        obtain ⟨y, y1, y2⟩ := roadOf_eq (L := L2) m2.2.2.2.2 (by omega) (fun r hr => by have := hw.roadb r hr; omega) (a := a) (b := b) (by omega) (by omega)
        rw [y1, Option.bind_some]
        rcases c_joins (L := L) hw f2 (show a < 8 by omega) (show b < 8 by omega) with ⟨⟨r, hr1, hr2⟩, ej⟩ | ⟨hno, ej⟩
        · rw [ej, Option.bind_some, if_neg (by decide)]
          rcases y2 with ⟨-, z⟩ | ⟨r', hr', -, rfl⟩
          · exact absurd hr2 (z r hr1)
          · rw [if_neg (nI_ge0' (by omega))]
            exact ev ▸ fail s I3 J5 _ _ f2 m2 fc3 (fr3.trans (n3.trans m3)) rfl rfl
        · rw [ej, Option.bind_some, if_pos rfl, lt_eq]
          have ey : y = -1 := by
            rcases y2 with ⟨e, -⟩ | ⟨r, hr, he, -⟩
            · exact e
            · exact absurd he (hno r hr)
          subst ey
          have fx := f2.next hT q2.1
          generalize uI I3 31 3 (I3 31 3 + 1) = I4 at fx ⊢
          obtain ⟨J6, o1, o2, o3⟩ := r_digit (L := L2) hT m2 hs q2.1 (by omega)
          obtain ⟨I5, t1, t2, t3⟩ := c_takes (L := L) (c := 116) hT fx.1 (by omega)
          obtain ⟨J7, u1, u2, u3⟩ := r_next (L := L2) hT o2
          have t1' : f_X8_takes_31 I4 L 116 = _ := t1
          rw [eb] at o1
          rw [if_pos (show (-1 : Int32) < 0 by decide), o1, bndI_some, u1, bndI_some, t1', bndI_some]
          generalize ez : skp n t (s + 1) = z at *
          have hz : skp n t z = z := by rw [← ez]; exact skp_skp (by have := q2.1; omega)
          have zl : z ≤ n := by rw [← ez]; exact skp_le (by have := q2.1; omega)
          have fc5 := fc3.trans (fx.2.trans t3)
          have fr7 := fr3.trans (n3.trans (m3.trans (o3.trans u3)))
          have mm : min a b < max a b := by omega
          have hne : ∀ r, r < w 1 → ¬ (w (46 + r) = min a b ∧ w (61 + r) = max a b) := fun r hr h => hno r hr ((En_mm (hw.roadb r hr).1).mpr h)
          by_cases q4 : tk n t z 116
          · have ec2 : ch n t z = 116 := by unfold ch; rw [if_pos q4.1]; exact q4.2
            rw [if_pos q4] at t2 ⊢
            rw [if_neg (show ¬ (1 : Int32) = 0 by decide), ec2, if_pos (show nI 116 = 116 from rfl), lt_eq]
            have ux := u2.next hT q4.1
            generalize uI J7 67 8 (J7 67 8 + 1) = J8 at ux ⊢
            obtain ⟨I6, v1, v2, v3⟩ := c_digit (L := L) (lo := 0) (hi := 9) hT t2 (by omega) (by omega)
            obtain ⟨J9, x1, x2, x3⟩ := r_isDigit (L := L2) (lo := 0) (hi := 9) hT ux.1 (by omega) (by omega)
            have v1' : f_X8_digit_31 I5 L 0 9 = _ := v1
            have x1' : f_X11_isDigit_67 J8 L2 0 9 = _ := x1
            rw [v1', x1', bndI_some, bndI_some]
            generalize ew : skp n t (z + 1) = k at *
            have hk : skp n t k = k := by rw [← ew]; exact skp_skp (by have := q4.1; omega)
            by_cases q5 : dg n t k 0 9
            · have q5b := q5.2
              rw [if_pos q5, if_pos q5, if_pos (ge0_nI (by omega)), if_neg (show ¬ (1 : Int32) = 0 by decide), lt_eq]
              have vx := v2.next hT q5.1
              generalize uI I6 31 3 (I6 31 3 + 1) = I7 at vx ⊢
              obtain ⟨J10, a1, a2, a3⟩ := r_digit (L := L2) hT x2 hk q5.1 (by omega)
              obtain ⟨I8, b1, b2, b3⟩ := c_addR (L := L) (x := t k - 48) vx.1 h15 (show a < 8 by omega) (show b < 8 by omega)
              obtain ⟨J11, k1, k2, k3⟩ := r_addR (L := L2) (x := t k - 48) hw a2 h15 ha hb q3 (by omega) hno
              rw [a1, bndI_some, k1]
              unfold f_X8_readRoad_31_b114
              rw [b1, bndI_some]
              obtain ⟨wk1, wk0, wk2⟩ := wR_k w (min a b) (max a b) (t k - 48) h15
              exact ⟨1, _, _, I8, J11, rfl, rfl, b2, k2, fc5.trans (v3.trans (vx.2.trans b3)), fr7.trans (ux.2.trans (x3.trans (a3.trans k3))), Or.inr ⟨rfl, hw.road h15 mm (by omega) (by omega) hne, wk2, by rw [wk0, ev], wk1⟩⟩
            · rw [if_neg q5, if_neg q5, if_neg (by decide), if_pos rfl]
              exact ev ▸ fail k I6 J9 _ _ v2 x2 (fc5.trans v3) (fr7.trans (ux.2.trans x3)) rfl rfl
          · rw [if_neg q4] at t2 ⊢
            have ec2 : ¬ nI (ch n t z) = 116 := by
              intro y
              unfold ch at y
              by_cases zn : z < n
              · have := hT.2 z zn
                rw [if_pos zn] at y
                exact q4 ⟨zn, (eq_nI (b := 116) (by omega) (by omega)).mp y⟩
              · rw [if_neg zn] at y; revert y; decide
            rw [if_pos rfl, if_neg ec2]
            obtain ⟨I8, b1, b2, b3⟩ := c_addR (L := L) (x := 0) t2 h15 (show a < 8 by omega) (show b < 8 by omega)
            obtain ⟨J11, k1, k2, k3⟩ := r_addR (L := L2) (x := 0) hw u2 h15 ha hb q3 (by omega) hno
            have b1' : f_X3_addRoad_33 I5 L (nI a) (nI b) 0 = _ := b1
            have k1' : f_X11_readsRoad_67_b107 J7 L2 (nI a) (nI b) 0 = _ := k1
            rw [k1']
            unfold f_X8_readRoad_31_b114
            rw [b1', bndI_some]
            obtain ⟨wk1, wk0, wk2⟩ := wR_k w (min a b) (max a b) 0 h15
            exact ⟨1, _, _, I8, J11, rfl, rfl, b2, k2, fc5.trans b3, fr7.trans k3, Or.inr ⟨rfl, hw.road h15 mm (by omega) (by omega) hne, wk2, by rw [wk0, ev], wk1⟩⟩
    · rw [if_neg q2, if_neg q2, if_pos (by decide), if_pos rfl]
      exact ev ▸ fail s I3 J3 _ _ f2 g2 fc3 fr3 rfl rfl
  · rw [if_neg q1, if_neg q1, if_neg (by decide), if_pos rfl]
    exact ev ▸ fail _ I1 J1 _ _ c2 r2 c3 r3 rfl rfl
end Roads
