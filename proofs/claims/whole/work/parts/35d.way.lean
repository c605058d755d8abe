/-! way -/
theorem fm_tab : ∀ j, j < 7 → Fm j ≤ 3913 := by decide
section Way
variable {I J K : mI} {L : mL} {v : mV} {ca ms t : Nat}
theorem path_eq (hw : WF v) (hca : ca < v 2) (hms : ms ≤ 99) (ht : t < v 0) {s : Nat} (hs : s < v 0) (hr : SR I v ca ms) (hd : DD v ca ms 0 s t < 100000000) : ∃ J l, f_X11_layPath_67 I L (nI ca) (nI ms) (nI s) (nI t) = some (nI (l + 1), J, L) ∧ (∀ c, c ≠ 76 → c ≠ 77 → J c = I c) ∧ l < v 0 ∧ (gq (v 0) t (tV v ca ms t) s l).1 = t ∧ (∀ j, j < l → (gq (v 0) t (tV v ca ms t) s j).1 ≠ t) ∧ ∀ j, j ≤ l → J 76 j = nI (gq (v 0) t (tV v ca ms t) s j).1 := by
  have sz := hw.sz
  have p8 : 2 ^ v 0 ≤ 2 ^ 8 := Nat.pow_le_pow_right (by omega) (by omega)
  have F := DD_ok hw hca hms (show 0 < 256 by omega)
  have hB := hw.rb hca hms (show 0 < 256 by omega)
  have dG := DD_le hw hca hms (show 0 < 256 by omega) hs ht
  have h0 : Rc (v 0) t (tV v ca ms t) (2 ^ v 0 - 1) s := tight_rc F hw.1 hs ht hd (wc_ok hB)
  obtain ⟨l, l1, l2, l3⟩ := gq_end hw.1 hs h0
  have htt : DD v ca ms 0 t t = 0 := by
    apply F.2.2.1 t ht
    apply Classical.byContradiction
    intro z
    have := F.2.1 s t hs ht (fun y => z y.2)
    omega
  unfold f_X11_layPath_67
  rw [show (8 : Int32) * nI s = nI (8 * s) from n_mul 8 s, n_add, ck_nI (by omega) (by omega), c_nI (by omega), hr.2 s t hs ht, lt_eq, shl_nI (by omega), lt_eq, cl0, lt_eq, lt_eq]
  generalize eG : DD v ca ms 0 s t = G at *
  obtain ⟨C, hC⟩ : ∃ C, C = 27399 := ⟨_, rfl⟩
  have key : ∀ (d k f U : Nat) (K : mI), k + d = l → d * C + 1 ≤ f → (∀ c, c ≠ 76 → c ≠ 77 → K c = I c) → DD v ca ms 0 (gq (v 0) t (tV v ca ms t) s k).1 t < 100000000 → DD v ca ms 0 (gq (v 0) t (tV v ca ms t) s k).1 t ≤ G → K 77 k = nI (G - DD v ca ms 0 (gq (v 0) t (tV v ca ms t) s k).1 t) → (∀ j, j ≤ k → K 76 j = nI (gq (v 0) t (tV v ca ms t) s j).1) → UA (v 0) U (gq (v 0) t (tV v ca ms t) s k).2 → ∃ J, f_X11_layPath_67_l39 f (nI ca) (nI ms) (nI t) (nI G) (nI k) (nI U) (-1) K L = some (nI (l + 1), J, L) ∧ (∀ c, c ≠ 76 → c ≠ 77 → J c = I c) ∧ ∀ j, j ≤ l → J 76 j = nI (gq (v 0) t (tV v ca ms t) s j).1 := by
    intro d
    induction d with
    | zero =>
      intro k f U K hk hf k1 k2 k3 k4 k5 k6
      obtain ⟨f, rfl⟩ : ∃ j, f = j + 1 := ⟨f - 1, by omega⟩
      have : k = l := by omega
      subst this
      refine ⟨K, ?_, k1, k5⟩
      rw [f_X11_layPath_67_l39, ck_nI (by omega) (by omega), c_nI (by omega), k5 k (Nat.le_refl _), l2, if_pos rfl, ck_nI (by omega) (by omega), k4, l2, htt, Nat.sub_zero, if_pos rfl, show nI k + 1 = nI (k + 1) from n_add k 1]
    | succ d ih =>
      intro k f U K hk hf k1 k2 k3 k4 k5 k6
      obtain ⟨o1, o2, o3, o4⟩ := gq_ok hw.1 hs h0 k (fun j hj => l3 j (by omega))
      have hne := l3 k (by omega)
      have lg := gq_lg o1 hne
      have srK : SR K v ca ms := hr.frame k1
      have e27 : (d + 1) * C = d * C + C := Nat.succ_mul d C
      have cbl := cb_step (A := (gq (v 0) t (tV v ca ms t) s k).2) (k := 0) (n := v 0) (Nat.zero_le _) lg.1.1 lg.1.2.1
      have cp : cb (gq (v 0) t (tV v ca ms t) s k).2 (gq (v 0) t (tV v ca ms t) s (k + 1)).1 ≤ 7 := by
        have := cb_step (A := (gq (v 0) t (tV v ca ms t) s k).2) (k := (gq (v 0) t (tV v ca ms t) s (k + 1)).1) (n := v 0) (Nat.le_refl _) lg.1.1 lg.1.2.1
        omega
      have fmb := fm_tab (cb (gq (v 0) t (tV v ca ms t) s k).2 (v 0) - 1) (by omega)
      have cost : 7 * (1 + Fm (cb (gq (v 0) t (tV v ca ms t) s k).2 (v 0) - 1)) ≤ 7 * 3914 := Nat.mul_le_mul_left 7 (by omega)
      obtain ⟨f1, U1, K1, g1, g2, g3, g4, g5, g6⟩ := finds_lg (L := L) hw hca hms ht (show G ≤ 256000 by omega) (show k + cb (gq (v 0) t (tV v ca ms t) s k).2 (v 0) < 8 by omega) (by omega) o2 hne k2 k3 lg 7 U 0 (-1) K f srK (by show cb (gq (v 0) t (tV v ca ms t) s k).2 (gq (v 0) t (tV v ca ms t) s (k + 1)).1 ≤ 0 + 7; omega) (by decide) (by omega) (k5 k (Nat.le_refl _)) k4 k6 (by omega)
      rw [g1]
      have tt := lg.1.2.2.1
      have hf1 : d * C + 1 ≤ f1 := by omega
      refine ih (k + 1) f1 U1 K1 (by omega) hf1 (fun c p q => by rw [g3.1 c p q, k1 c p q]) tt.2.1 (by have := tt.2.2.2; omega) g5 (fun j hj => ?_) (by rw [gq_2]; exact g6)
      by_cases e : j = k + 1
      · rw [e]; exact g4
      · rw [(g3.2 j (by omega)).1]; exact k5 j (by omega)
  have hU0 : UA (v 0) (2 ^ s) (gq (v 0) t (tV v ca ms t) s 0).2 := by
    refine ⟨Nat.lt_of_lt_of_le (Nat.pow_lt_pow_right (by omega) (show s < 8 by omega)) (by omega), Nat.lt_of_le_of_lt (mwo_le _ _) (by omega), fun p hp => ?_⟩
    show _ ↔ ¬ (mwo (2 ^ v 0 - 1) (2 ^ s)).testBit p = true
    rw [wo_b (by omega), Nat.testBit_two_pow, Nat.testBit_two_pow_sub_one]
    simp only [decide_eq_true_eq]
    constructor
    · intro e z; exact z.2 e.symm
    · intro z
      apply Classical.byContradiction
      intro e
      exact z ⟨hp, fun y => e y.symm⟩
  obtain ⟨J, r1, r2, r3⟩ := key l 0 fuel (2 ^ s) (uI (uI I 76 0 (nI s)) 77 0 0) (by omega) (show l * C + 1 ≤ 1000000 by
    have : l * C ≤ 8 * 27399 := Nat.mul_le_mul (by omega) (by omega)
    omega) (fun c p q => by rw [uI_cell q, uI_cell p]) (by show DD v ca ms 0 s t < 100000000; omega) (by show DD v ca ms 0 s t ≤ G; omega) (by
    show uI (uI I 76 0 (nI s)) 77 0 0 77 0 = nI (G - DD v ca ms 0 s t)
    rw [uI_same, eG, Nat.sub_self]; rfl) (fun j hj => by
    have : j = 0 := by omega
    subst this
    rw [uI_cell (by omega), uI_same]; rfl) hU0
  exact ⟨J, l, r1, r2, l1, l2, l3, r3⟩
theorem st_way {a1 a2 a3 a4 a5 : Int32} (h : Rel I L) : St_way Rel I L a1 a2 a3 a4 a5 := by
  obtain ⟨⟨v, hw, hm, hc⟩, hr2⟩ := id h
  have sz := hw.sz
  have em1 : (-1 : Int32).toInt = -1 := by decide
  unfold St_way f_X10_way_0
  rw [hasCart_n hc.c2 (by omega), within_l 1 99 (by decide) (by decide), hasParish_n hc.c0 (by omega), hasParish_n hc.c0 (by omega), within_l (-1) 7 (by decide) (by decide)]
  have hM : ∀ J : mI, MH J 68 v → f_X11_way_67 J L a1 a2 a3 a4 a5 = if 0 ≤ a1.toInt ∧ a1.toInt < (v 2 : Int) then (if 1 ≤ a2.toInt ∧ a2.toInt ≤ 99 then (if 0 ≤ a3.toInt ∧ a3.toInt < (v 0 : Int) then (if 0 ≤ a4.toInt ∧ a4.toInt < (v 0 : Int) then (if -1 ≤ a5.toInt ∧ a5.toInt ≤ 7 then (bndV (f_X11_layWays_67 J L a1 a2 0) (fun Ir6 Lr6 => ck (inb ((8 * a3) + a4) 64) (if (Ir6 75 ((8 * a3) + a4).toNatClampNeg) < 100000000 then (if 0 ≤ a5 then (bndI (f_X11_layPath_67 Ir6 Lr6 a1 a2 a3 a4) (fun r8 Ir8 Lr8 => if r8 ≤ a5 then (some ((-4), Ir8, Lr8)) else (ck (inb a5 9) (some (Ir8 76 a5.toNatClampNeg, Ir8, Lr8))))) else (ck (inb ((8 * a3) + a4) 64) (some (Ir6 75 ((8 * a3) + a4).toNatClampNeg, Ir6, Lr6)))) else (some ((-4), Ir6, Lr6))))) else some (-1, J, L)) else some (-1, J, L)) else some (-1, J, L)) else some (-1, J, L)) else some (-1, J, L) := by
    intro J hJ
    unfold f_X11_way_67
    rw [isCart_n (hJ 2 (by omega)) (by omega), in_l 1 99 (by decide) (by decide), isParish_n (hJ 0 (by omega)) (by omega), isParish_n (hJ 0 (by omega)) (by omega), in_l (-1) 7 (by decide) (by decide)]
    simp only [Option.bind_some, bit_ite]
  simp only [Option.bind_some, bit_ite]
  by_cases q1 : 0 ≤ a1.toInt ∧ a1.toInt < (v 2 : Int)
  · rw [if_pos q1]
    by_cases q2 : 1 ≤ a2.toInt ∧ a2.toInt ≤ 99
    · rw [if_pos q2]
      by_cases q3 : 0 ≤ a3.toInt ∧ a3.toInt < (v 0 : Int)
      · rw [if_pos q3]
        by_cases q4 : 0 ≤ a4.toInt ∧ a4.toInt < (v 0 : Int)
        · rw [if_pos q4]
          by_cases q5 : -1 ≤ a5.toInt ∧ a5.toInt ≤ 7
          · rw [if_pos q5]
            obtain ⟨ca, hca, rfl, -⟩ := ofI q1.1 q1.2
            obtain ⟨ms, hms, rfl, -⟩ := ofI (a := a2) (n := 100) (by omega) (by omega)
            obtain ⟨s, hs, rfl, -⟩ := ofI q3.1 q3.2
            obtain ⟨t, ht, rfl, -⟩ := ofI q4.1 q4.2
            have hms9 : ms ≤ 99 := by omega
            obtain ⟨J1, h1, h2, h3⟩ := harness_hr (L := L) hw hc hca
            have hc1 : CH J1 0 v := hc.frame (fun k a b => h2 k (by omega) (by omega))
            obtain ⟨J2, g1, g2, g3, g4⟩ := weigh_hr (L := L) hw hc1 h3 hms9
            have F := DD_ok hw hca hms9 (show 0 < 256 by omega)
            obtain ⟨J3, t1, t2⟩ := trace_eq (L := L) (g3.rt hw g4) (hw.rb hca hms9 (show 0 < 256 by omega)) F hs ht
            have hf : ∀ k, k < 48 ∨ 66 < k → J3 k = I k := fun k hk => by rw [t1 k hk, g2 k (by omega), h2 k (by omega) (by omega)]
            have hm3 : MH J3 68 v := hm.frame (hf 68 (by omega))
            obtain ⟨J4, m1, m2, m3⟩ := layWays_dd (L := L) (lg := 0) hw hm3 hca hms9 (by omega)
            have hm4 : MH J4 68 v := hm3.frame (m2 68 (by omega))
            have dl := DD_le hw hca hms9 (show 0 < 256 by omega) hs ht
            have z5 : (0 : Int32).toInt = 0 := by decide
            rw [h1, bndV_some, g1, bndV_some]
            have eM : f_X11_way_67 J3 L (nI ca) (nI ms) (nI s) (nI t) a5 = if DD v ca ms 0 s t < 100000000 then (if 0 ≤ a5 then (bndI (f_X11_layPath_67 J4 L (nI ca) (nI ms) (nI s) (nI t)) (fun r8 Ir8 Lr8 => if r8 ≤ a5 then (some ((-4), Ir8, Lr8)) else (ck (inb a5 9) (some (Ir8 76 a5.toNatClampNeg, Ir8, Lr8))))) else some (nI (DD v ca ms 0 s t), J4, L)) else some (-4, J4, L) := by
              rw [hM J3 hm3, if_pos q1, if_pos q2, if_pos q3, if_pos q4, if_pos q5]
              show bndV (f_X11_layWays_67 J3 L (nI ca) (nI ms) (nI 0)) _ = _
              rw [m1, bndV_some, show (8 : Int32) * nI s = nI (8 * s) from n_mul 8 s, n_add, ck_nI (by omega) (by omega), ck_nI (by omega) (by omega), c_nI (by omega), m3 s t hs ht, show (100000000 : Int32) = nI 100000000 from rfl]
              by_cases z : DD v ca ms 0 s t < 100000000
              · rw [if_pos z, if_pos (by rw [lt_nI (by omega) (by omega)]; exact z)]
              · rw [if_neg z, if_neg (by rw [lt_nI (by omega) (by omega)]; exact z)]
            rcases t2 with ⟨z, e1⟩ | ⟨z, e1, e2, l, l1, l2, l3, l4, l5⟩
            · rw [if_neg z] at eM
              exact ⟨-4, J3, L, J4, L, by rw [e1, bndI_some, if_pos rfl], eM, h.scr (fun k hk => by rw [m2 k (by omega), hf k (by omega)])⟩
            · rw [if_pos z] at eM
              rw [e1, bndI_some, if_neg (by decide)]
              by_cases i0 : 0 ≤ a5
              · rw [if_pos i0] at eM ⊢
                rw [Int32.le_iff_toInt_le] at i0
                obtain ⟨i, hi, rfl, -⟩ := ofI (a := a5) (n := 8) (by omega) (by omega)
                obtain ⟨J5, l', p1, p2, p3, p4, p5, p6⟩ := path_eq (I := J4) (L := L) hw hca hms9 ht hs ⟨hm4, m3⟩ z
                have el : l = l' := by
                  apply Classical.byContradiction
                  intro ne
                  by_cases lt' : l < l'
                  · exact p5 l lt' l3
                  · exact l4 l' (by omega) p4
                subst el
                rw [p1, bndI_some, ck_nI (by omega) (by omega), c_nI (by omega)] at eM
                rw [l2, ck_nI (by omega) (by omega), c_nI (by omega)]
                have hR : Rel J5 L := h.scr (fun k hk => by rw [p2 k (by omega) (by omega), m2 k (by omega), hf k (by omega)])
                by_cases y : l + 1 ≤ i
                · rw [if_pos (by rw [le_nI (by omega) (by omega)]; exact y)] at eM ⊢
                  exact ⟨_, J3, L, J5, L, rfl, eM, hR⟩
                · rw [if_neg (by rw [le_nI (by omega) (by omega)]; exact y)] at eM ⊢
                  rw [p6 i (by omega)] at eM
                  rw [l5 i (by omega)]
                  exact ⟨_, J3, L, J5, L, rfl, eM, hR⟩
              · rw [if_neg i0] at eM ⊢
                rw [show nI s * 8 = nI (s * 8) from n_mul s 8, n_add, ck_nI (by omega) (by omega), c_nI (by omega), e2]
                exact ⟨_, J3, L, J4, L, rfl, eM, h.scr (fun k hk => by rw [m2 k (by omega), hf k (by omega)])⟩
          · rw [if_neg q5]
            exact ⟨-1, I, L, I, L, rfl, by rw [hM I hm, if_pos q1, if_pos q2, if_pos q3, if_pos q4, if_neg q5], h⟩
        · rw [if_neg q4]
          exact ⟨-1, I, L, I, L, rfl, by rw [hM I hm, if_pos q1, if_pos q2, if_pos q3, if_neg q4], h⟩
      · rw [if_neg q3]
        exact ⟨-1, I, L, I, L, rfl, by rw [hM I hm, if_pos q1, if_pos q2, if_neg q3], h⟩
    · rw [if_neg q2]
      exact ⟨-1, I, L, I, L, rfl, by rw [hM I hm, if_pos q1, if_neg q2], h⟩
  · rw [if_neg q1]
    exact ⟨-1, I, L, I, L, rfl, by rw [hM I hm, if_neg q1], h⟩
end Way
