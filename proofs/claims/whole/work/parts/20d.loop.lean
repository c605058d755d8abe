/-- every call keeps Rel, and both objects answer the same -/
def AllSt (Rel : mI → mL → Prop) : Prop := (∀ (I : mI) (L : mL) (a1 : Int32), Rel I L → St_parish Rel I L a1) ∧
  (∀ (I : mI) (L : mL) (a1 : Int32) (a2 : Int32) (a3 : Int32), Rel I L → St_pull Rel I L a1 a2 a3) ∧
  (∀ (I : mI) (L : mL) (a1 : Int32) (a2 : Int32) (a3 : Int32), Rel I L → St_road Rel I L a1 a2 a3) ∧
  (∀ (I : mI) (L : mL) (a1 : Int32) (a2 : Int32), Rel I L → St_toll Rel I L a1 a2) ∧
  (∀ (I : mI) (L : mL) (a1 : Int32) (a2 : Int32), Rel I L → St_cart Rel I L a1 a2) ∧
  (∀ (I : mI) (L : mL) (a1 : Int32) (a2 : Int32) (a3 : Int32), Rel I L → St_good Rel I L a1 a2 a3) ∧
  (∀ (I : mI) (L : mL) (a1 : Int32) (a2 : Int32), Rel I L → St_hang Rel I L a1 a2) ∧
  (∀ (I : mI) (L : mL) (a1 : Int32) (a2 : Int32), Rel I L → St_person Rel I L a1 a2) ∧
  (∀ (I : mI) (L : mL) (a1 : Int32) (a2 : Int32), Rel I L → St_of Rel I L a1 a2) ∧
  (∀ (I : mI) (L : mL) (a1 : Int32) (a2 : Int32), Rel I L → St_told Rel I L a1 a2) ∧
  (∀ (I : mI) (L : mL) (a1 : Int32) (a2 : Int32), Rel I L → St_weighs Rel I L a1 a2) ∧
  (∀ (I : mI) (L : mL) (a1 : Int32), Rel I L → St_type Rel I L a1) ∧
  (∀ (I : mI) (L : mL), Rel I L → St_land Rel I L) ∧
  (∀ (I : mI) (L : mL) (a1 : Int32), Rel I L → St_count Rel I L a1) ∧
  (∀ (I : mI) (L : mL) (a1 : Int32), Rel I L → St_weeks Rel I L a1) ∧
  (∀ (I : mI) (L : mL) (a1 : Int32) (a2 : Int32) (a3 : Int32) (a4 : Int32) (a5 : Int32), Rel I L → St_way Rel I L a1 a2 a3 a4 a5) ∧
  (∀ (I : mI) (L : mL) (a1 : Int32) (a2 : Int32) (a3 : Int32), Rel I L → St_net Rel I L a1 a2 a3) ∧
  (∀ (I : mI) (L : mL) (a1 : Int32) (a2 : Int32), Rel I L → St_market Rel I L a1 a2) ∧
  (∀ (I : mI) (L : mL) (a1 : Int32) (a2 : Int32) (a3 : Int32), Rel I L → St_trade Rel I L a1 a2 a3) ∧
  (∀ (I : mI) (L : mL) (a1 : Int32) (a2 : Int32), Rel I L → St_scales Rel I L a1 a2) ∧
  (∀ (I : mI) (L : mL) (a1 : Int32) (a2 : Int32), Rel I L → St_take Rel I L a1 a2) ∧
  (∀ (I : mI) (L : mL) (a1 : Int32) (a2 : Int32) (a3 : Int32) (a4 : Int32), Rel I L → St_councils Rel I L a1 a2 a3 a4) ∧
  (∀ (I : mI) (L : mL) (a1 : Int32) (a2 : Int32), Rel I L → St_league Rel I L a1 a2) ∧
  (∀ (I : mI) (L : mL) (a1 : Int32) (a2 : Int32) (a3 : Int32), Rel I L → St_upper Rel I L a1 a2 a3) ∧
  (∀ (I : mI) (L : mL) (a1 : Int32) (a2 : Int32) (a3 : Int32), Rel I L → St_lower Rel I L a1 a2 a3) ∧
  (∀ (I : mI) (L : mL) (a1 : Int32) (a2 : Int32) (a3 : Int32), Rel I L → St_change Rel I L a1 a2 a3) ∧
  (∀ (I : mI) (L : mL) (a1 : Int32) (a2 : Int32), Rel I L → St_well Rel I L a1 a2) ∧
  (∀ (I : mI) (L : mL), Rel I L → St_image Rel I L) ∧
  (∀ (I : mI) (L : mL), Rel I L → St_restore Rel I L) ∧
  (∀ (I : mI) (L : mL) (a1 : Int32) (a2 : Int32) (a3 : Int32) (a4 : Int32) (a5 : Int32) (a6 : Int32) (a7 : Int32), Rel I L → St_beam Rel I L a1 a2 a3 a4 a5 a6 a7) ∧
  (∀ (I : mI) (L : mL) (a1 : Int32) (a2 : Int32) (a3 : Int32) (a4 : Int32) (a5 : Int32) (a6 : Int32) (a7 : Int32) (a8 : Int32), Rel I L → St_book Rel I L a1 a2 a3 a4 a5 a6 a7 a8) ∧
  (∀ (I : mI) (L : mL) (a1 : Int32) (a2 : Int32) (a3 : Int32) (a4 : Int32), Rel I L → St_mills Rel I L a1 a2 a3 a4) ∧
  (∀ (I : mI) (L : mL) (a1 : Int32) (a2 : Int32) (a3 : Int32), Rel I L → St_film Rel I L a1 a2 a3) ∧
  (∀ (I : mI) (L : mL) (a1 : Int32) (a2 : Int32) (a3 : Int32), Rel I L → St_sheet Rel I L a1 a2 a3) ∧
  (∀ (I : mI) (L : mL) (a1 : Int32), Rel I L → St_drop Rel I L a1) ∧
  (∀ (I : mI) (L : mL) (a1 : Int32) (a2 : Int32) (a3 : Int32) (a4 : Int64), Rel I L → St_item Rel I L a1 a2 a3 a4) ∧
  (∀ (I : mI) (L : mL) (a1 : Int32) (a2 : Int32) (a3 : Int32) (a4 : Int32) (a5 : Int32), Rel I L → St_copy Rel I L a1 a2 a3 a4 a5)
theorem law_loop {p : Program} {l : Launch} {e : Env} {s : State} {m : MethodId} {below : List Frame} {meth : Method} {c : Code} {b N : Nat} {xs : Nat → Int32} {D : va_G} {ad : Nat → Nat} {ca : FieldType → ClassId} (C : LX p s m meth c b N xs D ad ca) (hN : N ≤ 576) {Rel : mI → mL → Prop} (hA : AllSt Rel) : ∀ (n i : Nat) (I : mI) (L : mL), N + 10 ≤ i + n → i ≤ N + 9 → Rel I L → WL p l e s m below meth c b D ad ca 18 [some (.ref 84), some (.ref 0), some (.ref 67), some (.int (nI i))] [] I L := by
  intro n
  induction n with
  | zero =>
    intro i I L h1 h2
    exact absurd h1 (by omega)
  | succ n ih =>
    intro i I L h1 h2 hrel
    refine w_iload_n C (i := 3) dL_law_18 rfl rfl ?_
    refine w_aload_n C (i := 0) dL_law_19 rfl rfl ?_
    refine w_slen C dL_law_20 ?_
    refine w_bipush C (v := 9) dL_law_21 (by decide) ?_
    refine w_isub C dL_law_23 ?_
    refine w_icmpgt C (tgt := 1685) dL_law_24 (by decide) (fun c1 => ?_) (fun c1 => ?_)
    · refine w_iconst C (v := 1) dL_law_1685 (by decide) ?_
      exact w_end C dL_law_1686
    · have hi : i + 9 ≤ N := by
        rcases Nat.lt_or_ge N (i + 9) with q | q
        · exfalso
          apply c1
          rw [Int32.lt_iff_toInt_lt]
          have e1 : (nI i).toInt = i := nI_toInt (by omega)
          have e2 : (Int32.ofNat N - 9).toInt = (N : Int) - 9 := by
            have := pk_sub_toInt (a := N) (b := 9) (by omega) (by omega)
            exact this
          rw [e1, e2]
          omega
        · exact q
      have hin0 : vp_in (nI i) N := vp_in_nI (by omega) (by omega)
      refine w_aload_n C (i := 0) dL_law_27 rfl rfl ?_
      refine w_iload_n C (i := 3) dL_law_28 rfl rfl ?_
      refine w_sld C hin0 dL_law_29 ?_
      rw [show (nI i).toNatClampNeg = i from nI_clamp (by omega)]
      refine w_bipush C (v := 63) dL_law_30 (by decide) ?_
      refine w_iand C dL_law_32 ?_
      have kk : ∀ I L, Rel I L → WL p l e s m below meth c b D ad ca 1679 [some (.ref 84), some (.ref 0), some (.ref 67), some (.int (nI i))] [] I L := by
        intro I L hr
        refine w_iinc C dL_law_1679 rfl (v := nI (i + 9)) (by rw [← nI_add]; rfl) (by decide) rfl ?_
        simp only [List.set_cons_zero, List.set_cons_succ]
        refine w_goto C (tgt := 18) dL_law_1682 (by decide) ?_
        exact ih (i + 9) I L (by omega) (by omega) hr
      generalize xs i &&& 63 = x
      by_cases c_0 : x = 0
      · refine w_tabIn C (tgt := 196) (off := 163) dL_law_33 (by rw [c_0]; decide) (by rw [c_0]; decide) (by rw [c_0]; rfl) (by decide) ?_
        exact case_0 C hN hi (hA.1 I L _ hrel) kk
      by_cases c_1 : x = 1
      · refine w_tabIn C (tgt := 219) (off := 186) dL_law_33 (by rw [c_1]; decide) (by rw [c_1]; decide) (by rw [c_1]; rfl) (by decide) ?_
        exact case_1 C hN hi (hA.2.1 I L _ _ _ hrel) kk
      by_cases c_2 : x = 2
      · refine w_tabIn C (tgt := 262) (off := 229) dL_law_33 (by rw [c_2]; decide) (by rw [c_2]; decide) (by rw [c_2]; rfl) (by decide) ?_
        exact case_2 C hN hi (hA.2.2.1 I L _ _ _ hrel) kk
      by_cases c_3 : x = 3
      · refine w_tabIn C (tgt := 305) (off := 272) dL_law_33 (by rw [c_3]; decide) (by rw [c_3]; decide) (by rw [c_3]; rfl) (by decide) ?_
        exact case_3 C hN hi (hA.2.2.2.1 I L _ _ hrel) kk
      by_cases c_4 : x = 4
      · refine w_tabIn C (tgt := 338) (off := 305) dL_law_33 (by rw [c_4]; decide) (by rw [c_4]; decide) (by rw [c_4]; rfl) (by decide) ?_
        exact case_4 C hN hi (hA.2.2.2.2.1 I L _ _ hrel) kk
      by_cases c_5 : x = 5
      · refine w_tabIn C (tgt := 371) (off := 338) dL_law_33 (by rw [c_5]; decide) (by rw [c_5]; decide) (by rw [c_5]; rfl) (by decide) ?_
        exact case_5 C hN hi (hA.2.2.2.2.2.1 I L _ _ _ hrel) kk
      by_cases c_6 : x = 6
      · refine w_tabIn C (tgt := 414) (off := 381) dL_law_33 (by rw [c_6]; decide) (by rw [c_6]; decide) (by rw [c_6]; rfl) (by decide) ?_
        exact case_6 C hN hi (hA.2.2.2.2.2.2.1 I L _ _ hrel) kk
      by_cases c_7 : x = 7
      · refine w_tabIn C (tgt := 447) (off := 414) dL_law_33 (by rw [c_7]; decide) (by rw [c_7]; decide) (by rw [c_7]; rfl) (by decide) ?_
        exact case_7 C hN hi (hA.2.2.2.2.2.2.2.1 I L _ _ hrel) kk
      by_cases c_8 : x = 8
      · refine w_tabIn C (tgt := 480) (off := 447) dL_law_33 (by rw [c_8]; decide) (by rw [c_8]; decide) (by rw [c_8]; rfl) (by decide) ?_
        exact case_8 C hN hi (hA.2.2.2.2.2.2.2.2.1 I L _ _ hrel) kk
      by_cases c_9 : x = 9
      · refine w_tabIn C (tgt := 513) (off := 480) dL_law_33 (by rw [c_9]; decide) (by rw [c_9]; decide) (by rw [c_9]; rfl) (by decide) ?_
        exact case_9 C hN hi (hA.2.2.2.2.2.2.2.2.2.1 I L _ _ hrel) kk
      by_cases c_10 : x = 10
      · refine w_tabIn C (tgt := 546) (off := 513) dL_law_33 (by rw [c_10]; decide) (by rw [c_10]; decide) (by rw [c_10]; rfl) (by decide) ?_
        exact case_10 C hN hi (hA.2.2.2.2.2.2.2.2.2.2.1 I L _ _ hrel) kk
      by_cases c_11 : x = 11
      · refine w_tabIn C (tgt := 579) (off := 546) dL_law_33 (by rw [c_11]; decide) (by rw [c_11]; decide) (by rw [c_11]; rfl) (by decide) ?_
        exact case_11 C hN hi (hA.2.2.2.2.2.2.2.2.2.2.2.1 I L _ hrel) kk
      by_cases c_12 : x = 12
      · refine w_tabIn C (tgt := 602) (off := 569) dL_law_33 (by rw [c_12]; decide) (by rw [c_12]; decide) (by rw [c_12]; rfl) (by decide) ?_
        exact case_12 C hN hi (hA.2.2.2.2.2.2.2.2.2.2.2.2.1 I L hrel) kk
      by_cases c_13 : x = 13
      · refine w_tabIn C (tgt := 615) (off := 582) dL_law_33 (by rw [c_13]; decide) (by rw [c_13]; decide) (by rw [c_13]; rfl) (by decide) ?_
        exact case_13 C hN hi (hA.2.2.2.2.2.2.2.2.2.2.2.2.2.1 I L _ hrel) kk
      by_cases c_14 : x = 14
      · refine w_tabIn C (tgt := 638) (off := 605) dL_law_33 (by rw [c_14]; decide) (by rw [c_14]; decide) (by rw [c_14]; rfl) (by decide) ?_
        exact case_14 C hN hi (hA.2.2.2.2.2.2.2.2.2.2.2.2.2.2.1 I L _ hrel) kk
      by_cases c_15 : x = 15
      · refine w_tabIn C (tgt := 661) (off := 628) dL_law_33 (by rw [c_15]; decide) (by rw [c_15]; decide) (by rw [c_15]; rfl) (by decide) ?_
        exact case_15 C hN hi (hA.2.2.2.2.2.2.2.2.2.2.2.2.2.2.2.1 I L _ _ _ _ _ hrel) kk
      by_cases c_16 : x = 16
      · refine w_tabIn C (tgt := 724) (off := 691) dL_law_33 (by rw [c_16]; decide) (by rw [c_16]; decide) (by rw [c_16]; rfl) (by decide) ?_
        exact case_16 C hN hi (hA.2.2.2.2.2.2.2.2.2.2.2.2.2.2.2.2.1 I L _ _ _ hrel) kk
      by_cases c_17 : x = 17
      · refine w_tabIn C (tgt := 767) (off := 734) dL_law_33 (by rw [c_17]; decide) (by rw [c_17]; decide) (by rw [c_17]; rfl) (by decide) ?_
        exact case_17 C hN hi (hA.2.2.2.2.2.2.2.2.2.2.2.2.2.2.2.2.2.1 I L _ _ hrel) kk
      by_cases c_18 : x = 18
      · refine w_tabIn C (tgt := 800) (off := 767) dL_law_33 (by rw [c_18]; decide) (by rw [c_18]; decide) (by rw [c_18]; rfl) (by decide) ?_
        exact case_18 C hN hi (hA.2.2.2.2.2.2.2.2.2.2.2.2.2.2.2.2.2.2.1 I L _ _ _ hrel) kk
      by_cases c_19 : x = 19
      · refine w_tabIn C (tgt := 843) (off := 810) dL_law_33 (by rw [c_19]; decide) (by rw [c_19]; decide) (by rw [c_19]; rfl) (by decide) ?_
        exact case_19 C hN hi (hA.2.2.2.2.2.2.2.2.2.2.2.2.2.2.2.2.2.2.2.1 I L _ _ hrel) kk
      by_cases c_20 : x = 20
      · refine w_tabIn C (tgt := 876) (off := 843) dL_law_33 (by rw [c_20]; decide) (by rw [c_20]; decide) (by rw [c_20]; rfl) (by decide) ?_
        exact case_20 C hN hi (hA.2.2.2.2.2.2.2.2.2.2.2.2.2.2.2.2.2.2.2.2.1 I L _ _ hrel) kk
      by_cases c_21 : x = 21
      · refine w_tabIn C (tgt := 909) (off := 876) dL_law_33 (by rw [c_21]; decide) (by rw [c_21]; decide) (by rw [c_21]; rfl) (by decide) ?_
        exact case_21 C hN hi (hA.2.2.2.2.2.2.2.2.2.2.2.2.2.2.2.2.2.2.2.2.2.1 I L _ _ _ _ hrel) kk
      by_cases c_22 : x = 22
      · refine w_tabIn C (tgt := 962) (off := 929) dL_law_33 (by rw [c_22]; decide) (by rw [c_22]; decide) (by rw [c_22]; rfl) (by decide) ?_
        exact case_22 C hN hi (hA.2.2.2.2.2.2.2.2.2.2.2.2.2.2.2.2.2.2.2.2.2.2.1 I L _ _ hrel) kk
      by_cases c_23 : x = 23
      · refine w_tabIn C (tgt := 995) (off := 962) dL_law_33 (by rw [c_23]; decide) (by rw [c_23]; decide) (by rw [c_23]; rfl) (by decide) ?_
        exact case_23 C hN hi (hA.2.2.2.2.2.2.2.2.2.2.2.2.2.2.2.2.2.2.2.2.2.2.2.1 I L _ _ _ hrel) kk
      by_cases c_24 : x = 24
      · refine w_tabIn C (tgt := 1039) (off := 1006) dL_law_33 (by rw [c_24]; decide) (by rw [c_24]; decide) (by rw [c_24]; rfl) (by decide) ?_
        exact case_24 C hN hi (hA.2.2.2.2.2.2.2.2.2.2.2.2.2.2.2.2.2.2.2.2.2.2.2.2.1 I L _ _ _ hrel) kk
      by_cases c_25 : x = 25
      · refine w_tabIn C (tgt := 1083) (off := 1050) dL_law_33 (by rw [c_25]; decide) (by rw [c_25]; decide) (by rw [c_25]; rfl) (by decide) ?_
        exact case_25 C hN hi (hA.2.2.2.2.2.2.2.2.2.2.2.2.2.2.2.2.2.2.2.2.2.2.2.2.2.1 I L _ _ _ hrel) kk
      by_cases c_26 : x = 26
      · refine w_tabIn C (tgt := 1126) (off := 1093) dL_law_33 (by rw [c_26]; decide) (by rw [c_26]; decide) (by rw [c_26]; rfl) (by decide) ?_
        exact case_26 C hN hi (hA.2.2.2.2.2.2.2.2.2.2.2.2.2.2.2.2.2.2.2.2.2.2.2.2.2.2.1 I L _ _ hrel) kk
      by_cases c_27 : x = 27
      · refine w_tabIn C (tgt := 1159) (off := 1126) dL_law_33 (by rw [c_27]; decide) (by rw [c_27]; decide) (by rw [c_27]; rfl) (by decide) ?_
        exact case_27 C hN hi (hA.2.2.2.2.2.2.2.2.2.2.2.2.2.2.2.2.2.2.2.2.2.2.2.2.2.2.2.1 I L hrel) kk
      by_cases c_28 : x = 28
      · refine w_tabIn C (tgt := 1172) (off := 1139) dL_law_33 (by rw [c_28]; decide) (by rw [c_28]; decide) (by rw [c_28]; rfl) (by decide) ?_
        exact case_28 C hN hi (hA.2.2.2.2.2.2.2.2.2.2.2.2.2.2.2.2.2.2.2.2.2.2.2.2.2.2.2.2.1 I L hrel) kk
      by_cases c_29 : x = 29
      · refine w_tabIn C (tgt := 1185) (off := 1152) dL_law_33 (by rw [c_29]; decide) (by rw [c_29]; decide) (by rw [c_29]; rfl) (by decide) ?_
        exact case_29 C hN hi (hA.2.2.2.2.2.2.2.2.2.2.2.2.2.2.2.2.2.2.2.2.2.2.2.2.2.2.2.2.2.1 I L _ _ _ _ _ _ _ hrel) kk
      by_cases c_30 : x = 30
      · refine w_tabIn C (tgt := 1272) (off := 1239) dL_law_33 (by rw [c_30]; decide) (by rw [c_30]; decide) (by rw [c_30]; rfl) (by decide) ?_
        exact case_30 C hN hi (hA.2.2.2.2.2.2.2.2.2.2.2.2.2.2.2.2.2.2.2.2.2.2.2.2.2.2.2.2.2.2.1 I L _ _ _ _ _ _ _ _ hrel) kk
      by_cases c_31 : x = 31
      · refine w_tabIn C (tgt := 1371) (off := 1338) dL_law_33 (by rw [c_31]; decide) (by rw [c_31]; decide) (by rw [c_31]; rfl) (by decide) ?_
        exact case_31 C hN hi (hA.2.2.2.2.2.2.2.2.2.2.2.2.2.2.2.2.2.2.2.2.2.2.2.2.2.2.2.2.2.2.2.1 I L _ _ _ _ hrel) kk
      by_cases c_32 : x = 32
      · refine w_tabIn C (tgt := 1424) (off := 1391) dL_law_33 (by rw [c_32]; decide) (by rw [c_32]; decide) (by rw [c_32]; rfl) (by decide) ?_
        exact case_32 C hN hi (hA.2.2.2.2.2.2.2.2.2.2.2.2.2.2.2.2.2.2.2.2.2.2.2.2.2.2.2.2.2.2.2.2.1 I L _ _ _ hrel) kk
      by_cases c_33 : x = 33
      · refine w_tabIn C (tgt := 1467) (off := 1434) dL_law_33 (by rw [c_33]; decide) (by rw [c_33]; decide) (by rw [c_33]; rfl) (by decide) ?_
        exact case_33 C hN hi (hA.2.2.2.2.2.2.2.2.2.2.2.2.2.2.2.2.2.2.2.2.2.2.2.2.2.2.2.2.2.2.2.2.2.1 I L _ _ _ hrel) kk
      by_cases c_34 : x = 34
      · refine w_tabIn C (tgt := 1510) (off := 1477) dL_law_33 (by rw [c_34]; decide) (by rw [c_34]; decide) (by rw [c_34]; rfl) (by decide) ?_
        exact case_34 C hN hi (hA.2.2.2.2.2.2.2.2.2.2.2.2.2.2.2.2.2.2.2.2.2.2.2.2.2.2.2.2.2.2.2.2.2.2.1 I L _ hrel) kk
      by_cases c_35 : x = 35
      · refine w_tabIn C (tgt := 1533) (off := 1500) dL_law_33 (by rw [c_35]; decide) (by rw [c_35]; decide) (by rw [c_35]; rfl) (by decide) ?_
        exact case_35 C hN hi (hA.2.2.2.2.2.2.2.2.2.2.2.2.2.2.2.2.2.2.2.2.2.2.2.2.2.2.2.2.2.2.2.2.2.2.2.1 I L _ _ _ _ hrel) kk
      by_cases c_36 : x = 36
      · refine w_tabIn C (tgt := 1616) (off := 1583) dL_law_33 (by rw [c_36]; decide) (by rw [c_36]; decide) (by rw [c_36]; rfl) (by decide) ?_
        exact case_36 C hN hi (hA.2.2.2.2.2.2.2.2.2.2.2.2.2.2.2.2.2.2.2.2.2.2.2.2.2.2.2.2.2.2.2.2.2.2.2.2 I L _ _ _ _ _ hrel) kk
      refine w_tabOut C (tgt := 1679) dL_law_33 ?_ (by decide) (kk I L hrel)
      have d_0 := lv_neT c_0 (a := 0) (by decide)
      have d_1 := lv_neT c_1 (a := 1) (by decide)
      have d_2 := lv_neT c_2 (a := 2) (by decide)
      have d_3 := lv_neT c_3 (a := 3) (by decide)
      have d_4 := lv_neT c_4 (a := 4) (by decide)
      have d_5 := lv_neT c_5 (a := 5) (by decide)
      have d_6 := lv_neT c_6 (a := 6) (by decide)
      have d_7 := lv_neT c_7 (a := 7) (by decide)
      have d_8 := lv_neT c_8 (a := 8) (by decide)
      have d_9 := lv_neT c_9 (a := 9) (by decide)
      have d_10 := lv_neT c_10 (a := 10) (by decide)
      have d_11 := lv_neT c_11 (a := 11) (by decide)
      have d_12 := lv_neT c_12 (a := 12) (by decide)
      have d_13 := lv_neT c_13 (a := 13) (by decide)
      have d_14 := lv_neT c_14 (a := 14) (by decide)
      have d_15 := lv_neT c_15 (a := 15) (by decide)
      have d_16 := lv_neT c_16 (a := 16) (by decide)
      have d_17 := lv_neT c_17 (a := 17) (by decide)
      have d_18 := lv_neT c_18 (a := 18) (by decide)
      have d_19 := lv_neT c_19 (a := 19) (by decide)
      have d_20 := lv_neT c_20 (a := 20) (by decide)
      have d_21 := lv_neT c_21 (a := 21) (by decide)
      have d_22 := lv_neT c_22 (a := 22) (by decide)
      have d_23 := lv_neT c_23 (a := 23) (by decide)
      have d_24 := lv_neT c_24 (a := 24) (by decide)
      have d_25 := lv_neT c_25 (a := 25) (by decide)
      have d_26 := lv_neT c_26 (a := 26) (by decide)
      have d_27 := lv_neT c_27 (a := 27) (by decide)
      have d_28 := lv_neT c_28 (a := 28) (by decide)
      have d_29 := lv_neT c_29 (a := 29) (by decide)
      have d_30 := lv_neT c_30 (a := 30) (by decide)
      have d_31 := lv_neT c_31 (a := 31) (by decide)
      have d_32 := lv_neT c_32 (a := 32) (by decide)
      have d_33 := lv_neT c_33 (a := 33) (by decide)
      have d_34 := lv_neT c_34 (a := 34) (by decide)
      have d_35 := lv_neT c_35 (a := 35) (by decide)
      have d_36 := lv_neT c_36 (a := 36) (by decide)
      omega
