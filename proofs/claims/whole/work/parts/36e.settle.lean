/-! land: what holds then -/
section Settle
variable {n : Nat} {t : Nat → Nat} {I J : mI} {L L2 : mL} {v w : mV}
theorem cp33 : ∃ I', f_X3_copyFrom_2_33 I L = some (I', L) ∧ (∀ c, ¬ (2 ≤ c ∧ c ≤ 7) → I' c = I c) ∧ (∀ k, k < 8 → I' 3 k = I 34 k) ∧ (∀ k, k < 32 → I' 4 k = I 35 k) ∧ (∀ k, k < 15 → I' 5 k = I 36 k) ∧ (∀ k, k < 15 → I' 6 k = I 37 k) ∧ (∀ k, k < 15 → I' 7 k = I 38 k) ∧ I' 2 5 = I 33 5 ∧ I' 2 6 = I 33 6 := by
  unfold f_X3_copyFrom_2_33
  rw [ck_t (by decide), lt_eq, ck_t (by decide), lt_eq, ck_t (by decide), lt_eq, ck_t (by decide), lt_eq, ck_t (by decide), lt_eq, lt_eq, lt_eq]
  generalize e1 : pI I 3 (va_cpy (I 34) (I 3) (0 : Int32).toNatClampNeg (0 : Int32).toNatClampNeg (8 : Int32).toNatClampNeg) = M1
  have f1 : ∀ c, c ≠ 3 → M1 c = I c := fun c hc => by rw [← e1, pI_cell hc]
  have g1 : ∀ k, k < 8 → M1 3 k = I 34 k := fun k hk => by rw [← e1, pI_same]; exact cpy0 hk
  generalize e2 : pI M1 4 (va_cpy (M1 35) (M1 4) (0 : Int32).toNatClampNeg (0 : Int32).toNatClampNeg (32 : Int32).toNatClampNeg) = M2
  have f2 : ∀ c, c ≠ 4 → M2 c = M1 c := fun c hc => by rw [← e2, pI_cell hc]
  have g2 : ∀ k, k < 32 → M2 4 k = M1 35 k := fun k hk => by rw [← e2, pI_same]; exact cpy0 hk
  generalize e3 : pI M2 5 (va_cpy (M2 36) (M2 5) (0 : Int32).toNatClampNeg (0 : Int32).toNatClampNeg (15 : Int32).toNatClampNeg) = M3
  have f3 : ∀ c, c ≠ 5 → M3 c = M2 c := fun c hc => by rw [← e3, pI_cell hc]
  have g3 : ∀ k, k < 15 → M3 5 k = M2 36 k := fun k hk => by rw [← e3, pI_same]; exact cpy0 hk
  generalize e4 : pI M3 6 (va_cpy (M3 37) (M3 6) (0 : Int32).toNatClampNeg (0 : Int32).toNatClampNeg (15 : Int32).toNatClampNeg) = M4
  have f4 : ∀ c, c ≠ 6 → M4 c = M3 c := fun c hc => by rw [← e4, pI_cell hc]
  have g4 : ∀ k, k < 15 → M4 6 k = M3 37 k := fun k hk => by rw [← e4, pI_same]; exact cpy0 hk
  generalize e5 : pI M4 7 (va_cpy (M4 38) (M4 7) (0 : Int32).toNatClampNeg (0 : Int32).toNatClampNeg (15 : Int32).toNatClampNeg) = M5
  have f5 : ∀ c, c ≠ 7 → M5 c = M4 c := fun c hc => by rw [← e5, pI_cell hc]
  have g5 : ∀ k, k < 15 → M5 7 k = M4 38 k := fun k hk => by rw [← e5, pI_same]; exact cpy0 hk
  refine ⟨_, rfl, fun c hc => ?_, fun k hk => ?_, fun k hk => ?_, fun k hk => ?_, fun k hk => ?_, fun k hk => ?_, ?_, ?_⟩
  · rw [uI_cell (by omega), uI_cell (by omega), f5 c (by omega), f4 c (by omega), f3 c (by omega), f2 c (by omega), f1 c (by omega)]
  · rw [uI_cell (by omega), uI_cell (by omega), f5 3 (by omega), f4 3 (by omega), f3 3 (by omega), f2 3 (by omega), g1 k hk]
  · rw [uI_cell (by omega), uI_cell (by omega), f5 4 (by omega), f4 4 (by omega), f3 4 (by omega), g2 k hk, f1 35 (by omega)]
  · rw [uI_cell (by omega), uI_cell (by omega), f5 5 (by omega), f4 5 (by omega), g3 k hk, f2 36 (by omega), f1 36 (by omega)]
  · rw [uI_cell (by omega), uI_cell (by omega), f5 6 (by omega), g4 k hk, f3 37 (by omega), f2 37 (by omega), f1 37 (by omega)]
  · rw [uI_cell (by omega), uI_cell (by omega), g5 k hk, f4 38 (by omega), f3 38 (by omega), f2 38 (by omega), f1 38 (by omega)]
  · rw [uI_at, if_neg (by omega), uI_same, f5 33 (by omega), f4 33 (by omega), f3 33 (by omega), f2 33 (by omega), f1 33 (by omega)]
  · rw [uI_same, uI_cell (by omega), f5 33 (by omega), f4 33 (by omega), f3 33 (by omega), f2 33 (by omega), f1 33 (by omega)]
/-- what the reference begins with -/
def w00 (v : mV) : mV := vu (vu (vu (vu v 0 0) 1 0) 3 0) 4 0
theorem w00_ok (hw : WF v) : WF (w00 v) ∧ w00 v 0 = 0 ∧ w00 v 1 = 0 ∧ w00 v 3 = 0 ∧ w00 v 4 = 0 ∧ ∀ j, j = 2 ∨ 5 ≤ j → w00 v j = v j := by
  have e0 : w00 v 0 = 0 := by unfold w00; rw [vu_n (by omega), vu_n (by omega), vu_n (by omega), vu_s]
  have e1 : w00 v 1 = 0 := by unfold w00; rw [vu_n (by omega), vu_n (by omega), vu_s]
  have e3 : w00 v 3 = 0 := by unfold w00; rw [vu_n (by omega), vu_s]
  have e4 : w00 v 4 = 0 := by unfold w00; rw [vu_s]
  have ej : ∀ j, j = 2 ∨ 5 ≤ j → w00 v j = v j := fun j hj => by unfold w00; rw [vu_n (by omega), vu_n (by omega), vu_n (by omega), vu_n (by omega)]
  refine ⟨?_, e0, e1, e3, e4, ej⟩
  obtain ⟨h0, h1, h2, h3, h4, h5, h6, h7, h8, h9, h10, h11, h12⟩ := hw
  unfold WF
  rw [e0, e1, e3, e4, ej 2 (by omega), ej 5 (by omega)]
  refine ⟨by omega, by omega, h2, by omega, by omega, h5, fun j hj => absurd hj (by omega), fun j hj => absurd hj (by omega), fun j hj => absurd hj (by omega), fun i j hi => absurd hi (by omega), fun j hj => ?_, fun j hj => absurd hj (by omega), fun j hj => absurd hj (by omega)⟩
  rw [ej _ (by omega), ej _ (by omega)]
  exact h10 j hj
/-- the reference's start of a reading -/
theorem mland_go (hm : MH J 68 v) (hn : J 67 4 = nI n) (ht : ∀ j, j < n → J 70 j = nI (t j)) : ∃ M, f_X11_land_67 J L = bndI (f_X11_reads_67 M L) (fun r6 Ir6 Lr6 => lt (uI Ir6 67 4 0) (fun M8 => if r6 = 0 then (f_X11_land_67_l83 fuel 0 M8 Lr6) else (some (M8 68 0, M8, Lr6)))) ∧ RD n t M 0 (w00 v) ∧ (∀ c, c ≠ 67 → c ≠ 68 → c ≠ 74 → M c = J c) ∧ (∀ j, j ≠ 8 → M 67 j = J 67 j) ∧ ∀ j, j < 135 → M 74 j = nI (v j) := by
  unfold f_X11_land_67
  obtain ⟨f', K, ⟨i1, i2⟩, hF⟩ := loop_inv (F := fun f k (K : mI) => f_X11_land_67_l2 f (nI k) K L) (n := 135)
    (Inv := fun k K => (∀ c, c ≠ 74 → K c = J c) ∧ ∀ j, j < k → K 74 j = J 68 j)
    (fun f k K hk hI => by
      refine ⟨uI K 74 k (K 68 k), ⟨fun c hc => by rw [uI_cell hc]; exact hI.1 c hc, fun j hj => ?_⟩, ?_⟩
      · rw [uI_at]
        by_cases e : j = k
        · rw [if_pos ⟨rfl, e⟩, e, hI.1 68 (by omega)]
        · rw [if_neg (fun z => e z.2)]; exact hI.2 j (by omega)
      · show f_X11_land_67_l2 (f + 1) (nI k) K L = _
        rw [f_X11_land_67_l2, show (135 : Int32) = nI 135 from rfl, if_neg (by rw [le_nI (by omega) (by omega)]; omega), ck_nI (by omega) (by omega), ck_nI (by omega) (by omega), lt_eq, lt_eq, inc_nI, c_nI (by omega)])
    135 0 J fuel (by omega) ⟨fun _ _ => rfl, fun j hj => absurd hj (by omega)⟩ (fuel_gt (by omega))
  have hF' : f_X11_land_67_l2 fuel 0 J L = f_X11_land_67_l2 (f' + 1) (nI 135) K L := hF
  have hmK : MH K 68 v := hm.frame (i1 68 (by omega))
  refine ⟨uI (uI (uI (uI (uI K 68 0 (nI 0)) 68 1 (nI 0)) 68 3 (nI 0)) 68 4 (nI 0)) 67 8 (nI 0), ?_, ⟨Nat.zero_le _, ?_, uI_same _ _ _ _, fun j hj => ?_, ?_⟩, fun c a b d => ?_, fun j hj => ?_, fun j hj => ?_⟩
  · rw [hF', f_X11_land_67_l2, if_pos (by decide), cl0, cl1, cl3, cl4, lt_eq, lt_eq, lt_eq, lt_eq, lt_eq]
    rfl
  · rw [uI_at, if_neg (by omega), uI_cell (by omega), uI_cell (by omega), uI_cell (by omega), uI_cell (by omega), i1 67 (by omega)]; exact hn
  · rw [uI_cell (by omega), uI_cell (by omega), uI_cell (by omega), uI_cell (by omega), uI_cell (by omega), i1 70 (by omega)]; exact ht j hj
  · exact ((((hmK.set 0 0).set 1 0).set 3 0).set 4 0).frame (uI_cell (by omega))
  · rw [uI_cell a, uI_cell b, uI_cell b, uI_cell b, uI_cell b, i1 c d]
  · rw [uI_at, if_neg (by omega), uI_cell (by omega), uI_cell (by omega), uI_cell (by omega), uI_cell (by omega), i1 67 (by omega)]
  · rw [uI_cell (by omega), uI_cell (by omega), uI_cell (by omega), uI_cell (by omega), uI_cell (by omega), i2 j hj, hm j hj]
theorem mland_back (h74 : ∀ j, j < 135 → J 74 j = nI (v j)) : ∃ M, f_X11_land_67_l83 fuel 0 J L = some (-20 - (J 67 8), M, L) ∧ (∀ c, c ≠ 68 → M c = J c) ∧ MH M 68 v := by
  obtain ⟨f', K, ⟨i1, i2⟩, hF⟩ := loop_inv (F := fun f k (K : mI) => f_X11_land_67_l83 f (nI k) K L) (n := 135)
    (Inv := fun k K => (∀ c, c ≠ 68 → K c = J c) ∧ ∀ j, j < k → K 68 j = nI (v j))
    (fun f k K hk hI => by
      refine ⟨uI K 68 k (K 74 k), ⟨fun c hc => by rw [uI_cell hc]; exact hI.1 c hc, fun j hj => ?_⟩, ?_⟩
      · rw [uI_at]
        by_cases e : j = k
        · rw [if_pos ⟨rfl, e⟩, e, hI.1 74 (by omega)]; exact h74 k hk
        · rw [if_neg (fun z => e z.2)]; exact hI.2 j (by omega)
      · show f_X11_land_67_l83 (f + 1) (nI k) K L = _
        rw [f_X11_land_67_l83, show (135 : Int32) = nI 135 from rfl, if_neg (by rw [le_nI (by omega) (by omega)]; omega), ck_nI (by omega) (by omega), ck_nI (by omega) (by omega), lt_eq, lt_eq, inc_nI, c_nI (by omega)])
    135 0 J fuel (by omega) ⟨fun _ _ => rfl, fun j hj => absurd hj (by omega)⟩ (fuel_gt (by omega))
  have hF' : f_X11_land_67_l83 fuel 0 J L = f_X11_land_67_l83 (f' + 1) (nI 135) K L := hF
  refine ⟨K, ?_, i1, i2⟩
  rw [hF', f_X11_land_67_l83, if_pos (by decide), i1 67 (by omega)]
theorem st_land (h : Rel I L) : St_land Rel I L := by
  obtain ⟨⟨v, hw, hm, hc⟩, hr1, ⟨n, t, hT1, hT2, hT3, hT4⟩, hr3⟩ := id h
  have sz := hw.sz
  have hT : TL n t := ⟨hT1, fun j hj => (hT4 j hj).1⟩
  obtain ⟨z1, z2, z3, z4, z5, z6⟩ := w00_ok hw
  -- the class's start
  have hcd : CD n t (uI (uI (uI I 31 3 0) 33 5 0) 33 6 0) 0 (w00 v) := by
    refine ⟨Nat.zero_le _, by rw [uI_cell (by omega), uI_cell (by omega), uI_at, if_neg (by omega)]; exact hT2, by rw [uI_cell (by omega), uI_cell (by omega), uI_same]; rfl, fun j hj => by rw [uI_cell (by omega), uI_cell (by omega), uI_cell (by omega)]; exact (hT4 j hj).2.1, fun i hi hg => ?_⟩
    unfold gL at hg
    rw [z2, z3] at hg
    rcases (show i = 0 ∨ i = 1 by omega) with rfl | rfl
    · rw [loc0, z2]
      show uI (uI (uI I 31 3 0) 33 5 0) 33 6 0 33 5 = nI 0
      rw [uI_at, if_neg (by omega), uI_same]; rfl
    · rw [loc1, z3]
      show uI (uI (uI I 31 3 0) 33 5 0) 33 6 0 33 6 = nI 0
      rw [uI_same]; rfl
  have f0 : FC I (uI (uI (uI I 31 3 0) 33 5 0) 33 6 0) := ⟨fun c a b => by rw [uI_cell (by omega), uI_cell (by omega), uI_cell a], by rw [uI_cell (by omega), uI_cell (by omega), uI_at, if_neg (by omega)]⟩
  -- a first run of both, for the class alone
  obtain ⟨M0, -, m2, -⟩ := mland_go (L := L) hm hT3 (fun j hj => (hT4 j hj).2.2)
  obtain ⟨b, p1, w1, I1, -, g1, -, g3, -, g5, -, g7⟩ := read_rp (L := L) (L2 := L) hT hcd m2 z1 z2 z3
  have hb : b = 0 ∨ b = 1 := by
    rcases g7 with e | e
    · exact Or.inl e
    · exact Or.inr e.1
  have fc := f0.trans g5
  -- the class's end
  obtain ⟨I2, s1, s2, s3, s4, s5, s6, s7, s8, s9⟩ := cp33 (I := uI I1 31 2 0) (L := L)
  generalize eK : (if b = 0 then uI I1 31 2 0 else uI (uI I2 1 10 0) 1 11 0) = K
  have kc : f_X10_land_0 I L = some (if b = 0 then (-20) - (I1 31 3) else K 2 5, K, L) := by
    unfold f_X10_land_0
    rw [g1, bndI_some, lt_eq]
    unfold f_X8_clear_31
    rw [lt_eq, bndV_some]
    rcases hb with e | e
    · rw [if_pos e, if_pos e, ← eK, if_pos e]
    · have nb : ¬ b = 0 := by rw [e]; decide
      rw [if_neg nb, if_neg nb, ← eK, if_neg nb]
      unfold f_X7_settle_1_33
      rw [s1, bndV_some, lt_eq, lt_eq, bndV_some]
  have kf : ∀ c, ¬ (1 ≤ c ∧ c ≤ 7) → c ≠ 31 → ¬ (33 ≤ c ∧ c ≤ 38) → K c = I c := by
    intro c a1 a2 a3
    rw [← eK]
    split
    · rw [uI_cell a2]; exact fc.1 c a2 a3
    · rw [uI_cell (by omega), uI_cell (by omega), s2 c (by omega), uI_cell a2]; exact fc.1 c a2 a3
  have k31 : K 31 2 = 0 := by
    rw [← eK]
    split
    · rw [uI_same]
    · rw [uI_cell (by omega), uI_cell (by omega), s2 31 (by omega), uI_same]
  have hmK : MH K 68 v := hm.frame (kf 68 (by omega) (by omega) (by omega))
  obtain ⟨M, q1, q2, q3, q4, q5⟩ := mland_go (J := K) (L := L) (n := n) (t := t) hmK (by rw [kf 67 (by omega) (by omega) (by omega)]; exact hT3) (fun j hj => by rw [kf 70 (by omega) (by omega) (by omega)]; exact (hT4 j hj).2.2)
  obtain ⟨b', p', w', I1', J', y1, y2, y3, y4, y5, y6, y7⟩ := read_rp (L := L) (L2 := L) hT hcd q2 z1 z2 z3
  rw [g1] at y1
  have eb : b = b' ∧ I1 = I1' := by
    have := Option.some.inj y1
    exact ⟨congrArg Prod.fst this, congrArg (fun q => q.2.1) this⟩
  obtain ⟨rfl, rfl⟩ := eb
  have jf : ∀ c, c ≠ 67 → c ≠ 68 → c ≠ 74 → J' c = K c := fun c a1 a2 a3 => by rw [y6.1 c a1 a2, q3 c a1 a2 a3]
  have j67 : ∀ j, j ≠ 8 → J' 67 j = K 67 j := fun j hj => by rw [y6.2 j hj, q4 j hj]
  have K67 : K 67 = I 67 := kf 67 (by omega) (by omega) (by omega)
  -- image and sheets stay
  have rest : ∀ X : mI, (∀ c, c ≠ 67 → c ≠ 68 → c ≠ 74 → X c = K c) → (∀ j, j ≠ 8 → j ≠ 4 → X 67 j = K 67 j) → X 67 4 = 0 → Re2 X L := by
    intro X x1 x2 x3
    have xI : ∀ c, ¬ (1 ≤ c ∧ c ≤ 7) → c ≠ 31 → ¬ (33 ≤ c ∧ c ≤ 38) → c ≠ 67 → c ≠ 68 → c ≠ 74 → X c = I c := fun c a1 a2 a3 a4 a5 a6 => by rw [x1 c a4 a5 a6, kf c a1 a2 a3]
    refine ⟨?_, ⟨0, t, by omega, ?_, ?_, fun j hj => absurd hj (by omega)⟩, fun q hq => ?_⟩
    · rw [xI 0 (by omega) (by omega) (by omega) (by omega) (by omega) (by omega), x2 2 (by omega) (by omega), K67]
      rcases hr1 with z | ⟨z1, z2, u, u1, u2, u3⟩
      · exact Or.inl z
      · exact Or.inr ⟨z1, z2, u, u1, u2.frame (xI 69 (by omega) (by omega) (by omega) (by omega) (by omega) (by omega)), CHs.frame u3 (fun k a b => xI k (by omega) (by omega) (by omega) (by omega) (by omega) (by omega))⟩
    · rw [x1 31 (by omega) (by omega) (by omega), k31]; rfl
    · rw [x3]; rfl
    · exact (hr3 q hq).frame (fun k hk => xI k (by omega) (by omega) (by omega) (by omega) (by omega) (by omega))
  rcases hb with rfl | rfl
  · -- a fault
    have e20 : ∀ j, j < 135 → uI J' 67 4 0 74 j = nI (v j) := fun j hj => by rw [uI_cell (by omega), y6.1 74 (by omega) (by omega)]; exact q5 j hj
    obtain ⟨X, x1, x2, x3⟩ := mland_back (L := L) e20
    have Kc : ∀ c, 1 ≤ c → c ≤ 15 → K c = I c := fun c a1 a2 => by
      rw [← eK, if_pos rfl, uI_cell (by omega)]; exact fc.1 c (by omega) (by omega)
    refine ⟨_, K, L, X, L, kc, ?_, ⟨v, hw, x3, hc.frame (fun k a1 a2 => by rw [x2 k (by omega), uI_cell (by omega), jf k (by omega) (by omega) (by omega), Kc k a1 a2])⟩, rest X (fun c a1 a2 a3 => by rw [x2 c a2, uI_cell a1, jf c a1 a2 a3]) (fun j a1 a2 => by rw [x2 67 (by omega), uI_at, if_neg (by omega), j67 j a1]) (by rw [x2 67 (by omega), uI_same])⟩
    rw [q1, y2, bndI_some, lt_eq, if_pos rfl, x1, if_pos rfl, uI_at, if_neg (by omega), y4.2.2.1, y3.2.2.1]
  · -- a land
    rcases y7 with e | ⟨-, k1, k2, -⟩
    · exact absurd e (by decide)
    · have nb : ¬ (1 : Int32) = 0 := by decide
      rw [if_neg nb] at eK kc
      have ew : ∀ j, j = 2 ∨ j = 5 ∨ 91 ≤ j → w' j = v j := fun j hj => by rw [k2 j (by omega), z6 j (by omega)]
      have e3 : w' 3 = 0 := by rw [k2 3 (by omega), z4]
      have e4 : w' 4 = 0 := by rw [k2 4 (by omega), z5]
      have sz' := k1.sz
      have dr : ∀ {i c k : Nat}, i < 135 → loc i = (c, k) → gL w' i → I1 (c + 31) k = nI (w' i) := fun hi hl hg => loc31 y3.2.2.2.2 hi hl hg
      have gk : ∀ c j, c ≠ 1 → K c j = I2 c j := fun c j hc' => by rw [← eK, uI_cell hc', uI_cell hc']
      have i1c : ∀ c, c ≠ 31 → uI I1 31 2 0 c = I1 c := fun c hc' => uI_cell hc'
      have hCH : CH K 0 w' := by
        intro i hi hl
        unfold live at hl
        rw [e3, e4] at hl
        rcases hl with q | q | q | q | q | q | q | q | q
        · rcases (show i = 0 ∨ i = 1 ∨ i = 2 ∨ i = 3 ∨ i = 4 ∨ i = 5 by omega) with rfl | rfl | rfl | rfl | rfl | rfl
          · rw [loc0]; show K 2 5 = _
            rw [gk 2 5 (by omega), s8, i1c 33 (by omega)]; exact dr (by omega) loc0 (Or.inl (by omega))
          · rw [loc1]; show K 2 6 = _
            rw [gk 2 6 (by omega), s9, i1c 33 (by omega)]; exact dr (by omega) loc1 (Or.inl (by omega))
          · rw [loc2, ew 2 (by omega)]; show K 1 9 = _
            rw [← eK, uI_at, if_neg (by omega), uI_at, if_neg (by omega), s2 1 (by omega), i1c 1 (by omega), fc.1 1 (by omega) (by omega)]; exact hc.c2
          · rw [loc3, e3]; show K 1 10 = _
            rw [← eK, uI_at, if_neg (by omega), uI_same]; rfl
          · rw [loc4, e4]; show K 1 11 = _
            rw [← eK, uI_same]; rfl
          · rw [loc5, ew 5 (by omega)]; show K 1 12 = _
            rw [← eK, uI_at, if_neg (by omega), uI_at, if_neg (by omega), s2 1 (by omega), i1c 1 (by omega), fc.1 1 (by omega) (by omega)]; exact hc.c5
        · obtain ⟨k, rfl⟩ : ∃ k, i = 6 + k := ⟨i - 6, by omega⟩
          rw [loc_kind (by omega)]; show K 3 k = _
          rw [gk 3 k (by omega), s3 k (by omega), i1c 34 (by omega)]; exact dr hi (loc_kind (by omega)) (by unfold gL; omega)
        · obtain ⟨k, rfl⟩ : ∃ k, i = 14 + k := ⟨i - 14, by omega⟩
          rw [loc_pull (by omega)]; show K 4 k = _
          rw [gk 4 k (by omega), s4 k (by omega), i1c 35 (by omega)]; exact dr hi (loc_pull (by omega)) (by unfold gL; omega)
        · obtain ⟨k, rfl⟩ : ∃ k, i = 46 + k := ⟨i - 46, by omega⟩
          rw [loc_one (by omega)]; show K 5 k = _
          rw [gk 5 k (by omega), s5 k (by omega), i1c 36 (by omega)]; exact dr hi (loc_one (by omega)) (by unfold gL; omega)
        · obtain ⟨k, rfl⟩ : ∃ k, i = 61 + k := ⟨i - 61, by omega⟩
          rw [loc_oth (by omega)]; show K 6 k = _
          rw [gk 6 k (by omega), s6 k (by omega), i1c 37 (by omega)]; exact dr hi (loc_oth (by omega)) (by unfold gL; omega)
        · obtain ⟨k, rfl⟩ : ∃ k, i = 76 + k := ⟨i - 76, by omega⟩
          rw [loc_toll (by omega)]; show K 7 k = _
          rw [gk 7 k (by omega), s7 k (by omega), i1c 38 (by omega)]; exact dr hi (loc_toll (by omega)) (by unfold gL; omega)
        · obtain ⟨k, rfl⟩ : ∃ k, i = 91 + k := ⟨i - 91, by omega⟩
          rw [loc_bear (by omega), ew _ (by omega)]; show K 8 k = _
          rw [kf 8 (by omega) (by omega) (by omega)]; exact hc.rbear hw k (by have := ew 2 (by omega); omega)
        · obtain ⟨k, rfl⟩ : ∃ k, i = 95 + k := ⟨i - 95, by omega⟩
          rw [loc_cost (by omega), ew _ (by omega)]; show K 9 k = _
          rw [kf 9 (by omega) (by omega) (by omega)]; exact hc.rcost hw k (by have := ew 2 (by omega); omega)
        · omega
      refine ⟨nI (w' 0), K, L, uI J' 67 4 0, L, by rw [kc, hCH.c0], ?_, ⟨w', k1, y4.2.2.2.2.frame (uI_cell (by omega)), hCH.frame (fun k a1 a2 => by rw [uI_cell (by omega), jf k (by omega) (by omega) (by omega)])⟩, rest _ (fun c a1 a2 a3 => by rw [uI_cell a1, jf c a1 a2 a3]) (fun j a1 a2 => by rw [uI_at, if_neg (by omega), j67 j a1]) (by rw [uI_same])⟩
      rw [q1, y2, bndI_some, lt_eq, if_neg nb, uI_cell (by omega), y4.2.2.2.2 0 (by omega)]
end Settle
