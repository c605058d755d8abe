/-! the law: its calls, its cases -/
theorem k_L_13 : CV R_law 13 mX10_parish 1 9 := ⟨_, TX10, 10, i_X10_parish, tb (i := 451) (by decide +kernel) rfl, v_X10_parish.1, v_X10_parish.2, rfl⟩
theorem k_L_18 : CV R_law 18 mX10_pull 3 9 := ⟨_, TX10, 10, i_X10_pull, tb (i := 462) (by decide +kernel) rfl, v_X10_pull.1, v_X10_pull.2, rfl⟩
theorem k_L_23 : CV R_law 23 mX10_road 3 9 := ⟨_, TX10, 10, i_X10_road, tb (i := 470) (by decide +kernel) rfl, v_X10_road.1, v_X10_road.2, rfl⟩
theorem k_L_27 : CV R_law 27 mX10_toll 2 9 := ⟨_, TX10, 10, i_X10_toll, tb (i := 488) (by decide +kernel) rfl, v_X10_toll.1, v_X10_toll.2, rfl⟩
theorem k_L_32 : CV R_law 32 mX10_cart 2 9 := ⟨_, TX10, 10, i_X10_cart, tb (i := 496) (by decide +kernel) rfl, v_X10_cart.1, v_X10_cart.2, rfl⟩
theorem k_L_36 : CV R_law 36 mX10_good 3 9 := ⟨_, TX10, 10, i_X10_good, tb (i := 504) (by decide +kernel) rfl, v_X10_good.1, v_X10_good.2, rfl⟩
theorem k_L_40 : CV R_law 40 mX10_hang 2 9 := ⟨_, TX10, 10, i_X10_hang, tb (i := 512) (by decide +kernel) rfl, v_X10_hang.1, v_X10_hang.2, rfl⟩
theorem k_L_44 : CV R_law 44 mX10_person 2 9 := ⟨_, TX10, 10, i_X10_person, tb (i := 538) (by decide +kernel) rfl, v_X10_person.1, v_X10_person.2, rfl⟩
theorem k_L_48 : CV R_law 48 mX10_of 2 9 := ⟨_, TX10, 10, i_X10_of, tb (i := 546) (by decide +kernel) rfl, v_X10_of.1, v_X10_of.2, rfl⟩
theorem k_L_52 : CV R_law 52 mX10_told 2 9 := ⟨_, TX10, 10, i_X10_told, tb (i := 561) (by decide +kernel) rfl, v_X10_told.1, v_X10_told.2, rfl⟩
theorem k_L_56 : CV R_law 56 mX10_weighs 2 9 := ⟨_, TX10, 10, i_X10_weighs, tb (i := 585) (by decide +kernel) rfl, v_X10_weighs.1, v_X10_weighs.2, rfl⟩
theorem k_L_60 : CV R_law 60 mX10_type 1 9 := ⟨_, TX10, 10, i_X10_type, tb (i := 590) (by decide +kernel) rfl, v_X10_type.1, v_X10_type.2, rfl⟩
theorem k_L_64 : CV R_law 64 mX10_land 0 9 := ⟨_, TX10, 10, i_X10_land, tb (i := 602) (by decide +kernel) rfl, v_X10_land.1, v_X10_land.2, rfl⟩
theorem k_L_69 : CV R_law 69 mX10_count 1 9 := ⟨_, TX10, 10, i_X10_count, tb (i := 744) (by decide +kernel) rfl, v_X10_count.1, v_X10_count.2, rfl⟩
theorem k_L_73 : CV R_law 73 mX10_weeks 1 9 := ⟨_, TX10, 10, i_X10_weeks, tb (i := 753) (by decide +kernel) rfl, v_X10_weeks.1, v_X10_weeks.2, rfl⟩
theorem k_L_77 : CV R_law 77 mX10_way 5 9 := ⟨_, TX10, 10, i_X10_way, tb (i := 767) (by decide +kernel) rfl, v_X10_way.1, v_X10_way.2, rfl⟩
theorem k_L_82 : CV R_law 82 mX10_net 3 9 := ⟨_, TX10, 10, i_X10_net, tb (i := 825) (by decide +kernel) rfl, v_X10_net.1, v_X10_net.2, rfl⟩
theorem k_L_86 : CV R_law 86 mX10_market 2 9 := ⟨_, TX10, 10, i_X10_market, tb (i := 833) (by decide +kernel) rfl, v_X10_market.1, v_X10_market.2, rfl⟩
theorem k_L_90 : CV R_law 90 mX10_trade 3 9 := ⟨_, TX10, 10, i_X10_trade, tb (i := 850) (by decide +kernel) rfl, v_X10_trade.1, v_X10_trade.2, rfl⟩
theorem k_L_94 : CV R_law 94 mX10_scales 2 9 := ⟨_, TX10, 10, i_X10_scales, tb (i := 869) (by decide +kernel) rfl, v_X10_scales.1, v_X10_scales.2, rfl⟩
theorem k_L_98 : CV R_law 98 mX10_take 2 9 := ⟨_, TX10, 10, i_X10_take, tb (i := 891) (by decide +kernel) rfl, v_X10_take.1, v_X10_take.2, rfl⟩
theorem k_L_102 : CV R_law 102 mX10_councils 4 9 := ⟨_, TX10, 10, i_X10_councils, tb (i := 901) (by decide +kernel) rfl, v_X10_councils.1, v_X10_councils.2, rfl⟩
theorem k_L_107 : CV R_law 107 mX10_league 2 9 := ⟨_, TX10, 10, i_X10_league, tb (i := 921) (by decide +kernel) rfl, v_X10_league.1, v_X10_league.2, rfl⟩
theorem k_L_111 : CV R_law 111 mX10_upper 3 9 := ⟨_, TX10, 10, i_X10_upper, tb (i := 940) (by decide +kernel) rfl, v_X10_upper.1, v_X10_upper.2, rfl⟩
theorem k_L_116 : CV R_law 116 mX10_lower 3 9 := ⟨_, TX10, 10, i_X10_lower, tb (i := 964) (by decide +kernel) rfl, v_X10_lower.1, v_X10_lower.2, rfl⟩
theorem k_L_120 : CV R_law 120 mX10_change 3 9 := ⟨_, TX10, 10, i_X10_change, tb (i := 969) (by decide +kernel) rfl, v_X10_change.1, v_X10_change.2, rfl⟩
theorem k_L_124 : CV R_law 124 mX10_well 2 9 := ⟨_, TX10, 10, i_X10_well, tb (i := 981) (by decide +kernel) rfl, v_X10_well.1, v_X10_well.2, rfl⟩
theorem k_L_128 : CV R_law 128 mX10_image 0 9 := ⟨_, TX10, 10, i_X10_image, tb (i := 985) (by decide +kernel) rfl, v_X10_image.1, v_X10_image.2, rfl⟩
theorem k_L_132 : CV R_law 132 mX10_restore 0 9 := ⟨_, TX10, 10, i_X10_restore, tb (i := 994) (by decide +kernel) rfl, v_X10_restore.1, v_X10_restore.2, rfl⟩
theorem k_L_136 : CV R_law 136 mX10_beam 7 9 := ⟨_, TX10, 10, i_X10_beam, tb (i := 998) (by decide +kernel) rfl, v_X10_beam.1, v_X10_beam.2, rfl⟩
theorem k_L_141 : CV R_law 141 mX10_book 8 9 := ⟨_, TX10, 10, i_X10_book, tb (i := 1039) (by decide +kernel) rfl, v_X10_book.1, v_X10_book.2, rfl⟩
theorem k_L_146 : CV R_law 146 mX10_mills 4 9 := ⟨_, TX10, 10, i_X10_mills, tb (i := 1067) (by decide +kernel) rfl, v_X10_mills.1, v_X10_mills.2, rfl⟩
theorem k_L_150 : CV R_law 150 mX10_film 3 9 := ⟨_, TX10, 10, i_X10_film, tb (i := 1072) (by decide +kernel) rfl, v_X10_film.1, v_X10_film.2, rfl⟩
theorem k_L_154 : CV R_law 154 mX10_sheet 3 9 := ⟨_, TX10, 10, i_X10_sheet, tb (i := 1080) (by decide +kernel) rfl, v_X10_sheet.1, v_X10_sheet.2, rfl⟩
theorem k_L_158 : CV R_law 158 mX10_drop 1 9 := ⟨_, TX10, 10, i_X10_drop, tb (i := 1091) (by decide +kernel) rfl, v_X10_drop.1, v_X10_drop.2, rfl⟩
theorem k_L_164 : CV R_law 164 mX10_item 4 9 := ⟨_, TX10, 10, i_X10_item, tb (i := 1101) (by decide +kernel) rfl, v_X10_item.1, v_X10_item.2, rfl⟩
theorem k_L_169 : CV R_law 169 mX10_copy 5 9 := ⟨_, TX10, 10, i_X10_copy, tb (i := 1105) (by decide +kernel) rfl, v_X10_copy.1, v_X10_copy.2, rfl⟩
theorem k_L_17 : CV R_law 17 mX11_parish 1 10 := ⟨_, TX11, 18, i_X11_parish, tb (i := 1172) (by decide +kernel) rfl, v_X11_parish.1, v_X11_parish.2, rfl⟩
theorem k_L_22 : CV R_law 22 mX11_pull 3 10 := ⟨_, TX11, 18, i_X11_pull, tb (i := 1184) (by decide +kernel) rfl, v_X11_pull.1, v_X11_pull.2, rfl⟩
theorem k_L_26 : CV R_law 26 mX11_road 3 10 := ⟨_, TX11, 18, i_X11_road, tb (i := 1193) (by decide +kernel) rfl, v_X11_road.1, v_X11_road.2, rfl⟩
theorem k_L_31 : CV R_law 31 mX11_toll 2 10 := ⟨_, TX11, 18, i_X11_toll, tb (i := 1201) (by decide +kernel) rfl, v_X11_toll.1, v_X11_toll.2, rfl⟩
theorem k_L_35 : CV R_law 35 mX11_cart 2 10 := ⟨_, TX11, 18, i_X11_cart, tb (i := 1209) (by decide +kernel) rfl, v_X11_cart.1, v_X11_cart.2, rfl⟩
theorem k_L_39 : CV R_law 39 mX11_good 3 10 := ⟨_, TX11, 18, i_X11_good, tb (i := 1215) (by decide +kernel) rfl, v_X11_good.1, v_X11_good.2, rfl⟩
theorem k_L_43 : CV R_law 43 mX11_hang 2 10 := ⟨_, TX11, 18, i_X11_hang, tb (i := 1219) (by decide +kernel) rfl, v_X11_hang.1, v_X11_hang.2, rfl⟩
theorem k_L_47 : CV R_law 47 mX11_person 2 10 := ⟨_, TX11, 18, i_X11_person, tb (i := 1238) (by decide +kernel) rfl, v_X11_person.1, v_X11_person.2, rfl⟩
theorem k_L_51 : CV R_law 51 mX11_of 2 10 := ⟨_, TX11, 18, i_X11_of, tb (i := 1242) (by decide +kernel) rfl, v_X11_of.1, v_X11_of.2, rfl⟩
theorem k_L_55 : CV R_law 55 mX11_told 2 10 := ⟨_, TX11, 18, i_X11_told, tb (i := 1247) (by decide +kernel) rfl, v_X11_told.1, v_X11_told.2, rfl⟩
theorem k_L_59 : CV R_law 59 mX11_weighs 2 10 := ⟨_, TX11, 18, i_X11_weighs, tb (i := 1264) (by decide +kernel) rfl, v_X11_weighs.1, v_X11_weighs.2, rfl⟩
theorem k_L_63 : CV R_law 63 mX11_type 1 10 := ⟨_, TX11, 18, i_X11_type, tb (i := 1268) (by decide +kernel) rfl, v_X11_type.1, v_X11_type.2, rfl⟩
theorem k_L_68 : CV R_law 68 mX11_land 0 10 := ⟨_, TX11, 18, i_X11_land, tb (i := 1274) (by decide +kernel) rfl, v_X11_land.1, v_X11_land.2, rfl⟩
theorem k_L_72 : CV R_law 72 mX11_count 1 10 := ⟨_, TX11, 18, i_X11_count, tb (i := 1306) (by decide +kernel) rfl, v_X11_count.1, v_X11_count.2, rfl⟩
theorem k_L_76 : CV R_law 76 mX11_weeks 1 10 := ⟨_, TX11, 18, i_X11_weeks, tb (i := 1310) (by decide +kernel) rfl, v_X11_weeks.1, v_X11_weeks.2, rfl⟩
theorem k_L_81 : CV R_law 81 mX11_way 5 10 := ⟨_, TX11, 18, i_X11_way, tb (i := 1319) (by decide +kernel) rfl, v_X11_way.1, v_X11_way.2, rfl⟩
theorem k_L_85 : CV R_law 85 mX11_net 3 10 := ⟨_, TX11, 18, i_X11_net, tb (i := 1341) (by decide +kernel) rfl, v_X11_net.1, v_X11_net.2, rfl⟩
theorem k_L_89 : CV R_law 89 mX11_market 2 10 := ⟨_, TX11, 18, i_X11_market, tb (i := 1352) (by decide +kernel) rfl, v_X11_market.1, v_X11_market.2, rfl⟩
theorem k_L_93 : CV R_law 93 mX11_trade 3 10 := ⟨_, TX11, 18, i_X11_trade, tb (i := 1360) (by decide +kernel) rfl, v_X11_trade.1, v_X11_trade.2, rfl⟩
theorem k_L_97 : CV R_law 97 mX11_scales 2 10 := ⟨_, TX11, 18, i_X11_scales, tb (i := 1367) (by decide +kernel) rfl, v_X11_scales.1, v_X11_scales.2, rfl⟩
theorem k_L_101 : CV R_law 101 mX11_take 2 10 := ⟨_, TX11, 18, i_X11_take, tb (i := 1382) (by decide +kernel) rfl, v_X11_take.1, v_X11_take.2, rfl⟩
theorem k_L_106 : CV R_law 106 mX11_councils 4 10 := ⟨_, TX11, 18, i_X11_councils, tb (i := 1390) (by decide +kernel) rfl, v_X11_councils.1, v_X11_councils.2, rfl⟩
theorem k_L_110 : CV R_law 110 mX11_league 2 10 := ⟨_, TX11, 18, i_X11_league, tb (i := 1394) (by decide +kernel) rfl, v_X11_league.1, v_X11_league.2, rfl⟩
theorem k_L_115 : CV R_law 115 mX11_upper 3 10 := ⟨_, TX11, 18, i_X11_upper, tb (i := 1406) (by decide +kernel) rfl, v_X11_upper.1, v_X11_upper.2, rfl⟩
theorem k_L_119 : CV R_law 119 mX11_lower 3 10 := ⟨_, TX11, 18, i_X11_lower, tb (i := 1418) (by decide +kernel) rfl, v_X11_lower.1, v_X11_lower.2, rfl⟩
theorem k_L_123 : CV R_law 123 mX11_change 3 10 := ⟨_, TX11, 18, i_X11_change, tb (i := 1422) (by decide +kernel) rfl, v_X11_change.1, v_X11_change.2, rfl⟩
theorem k_L_127 : CV R_law 127 mX11_well 2 10 := ⟨_, TX11, 18, i_X11_well, tb (i := 1426) (by decide +kernel) rfl, v_X11_well.1, v_X11_well.2, rfl⟩
theorem k_L_131 : CV R_law 131 mX11_image 0 10 := ⟨_, TX11, 18, i_X11_image, tb (i := 1430) (by decide +kernel) rfl, v_X11_image.1, v_X11_image.2, rfl⟩
theorem k_L_135 : CV R_law 135 mX11_restore 0 10 := ⟨_, TX11, 18, i_X11_restore, tb (i := 1434) (by decide +kernel) rfl, v_X11_restore.1, v_X11_restore.2, rfl⟩
theorem k_L_140 : CV R_law 140 mX11_beam 7 10 := ⟨_, TX11, 18, i_X11_beam, tb (i := 1438) (by decide +kernel) rfl, v_X11_beam.1, v_X11_beam.2, rfl⟩
theorem k_L_145 : CV R_law 145 mX11_book 8 10 := ⟨_, TX11, 18, i_X11_book, tb (i := 1460) (by decide +kernel) rfl, v_X11_book.1, v_X11_book.2, rfl⟩
theorem k_L_149 : CV R_law 149 mX11_mills 4 10 := ⟨_, TX11, 18, i_X11_mills, tb (i := 1470) (by decide +kernel) rfl, v_X11_mills.1, v_X11_mills.2, rfl⟩
theorem k_L_153 : CV R_law 153 mX11_film 3 10 := ⟨_, TX11, 18, i_X11_film, tb (i := 1474) (by decide +kernel) rfl, v_X11_film.1, v_X11_film.2, rfl⟩
theorem k_L_157 : CV R_law 157 mX11_sheet 3 10 := ⟨_, TX11, 18, i_X11_sheet, tb (i := 1481) (by decide +kernel) rfl, v_X11_sheet.1, v_X11_sheet.2, rfl⟩
theorem k_L_161 : CV R_law 161 mX11_drop 1 10 := ⟨_, TX11, 18, i_X11_drop, tb (i := 1485) (by decide +kernel) rfl, v_X11_drop.1, v_X11_drop.2, rfl⟩
theorem k_L_168 : CV R_law 168 mX11_item 4 10 := ⟨_, TX11, 18, i_X11_item, tb (i := 1489) (by decide +kernel) rfl, v_X11_item.1, v_X11_item.2, rfl⟩
theorem k_L_172 : CV R_law 172 mX11_copy 5 10 := ⟨_, TX11, 18, i_X11_copy, tb (i := 1493) (by decide +kernel) rfl, v_X11_copy.1, v_X11_copy.2, rfl⟩
theorem n_LL_162 : Cond.constantLong R_law 162 (4294967295) ∈ TB := tb (i := 1497) (by decide +kernel) rfl
theorem lc_in {i k N : Nat} (h : i + 9 ≤ N) (hN : N ≤ 576) (hk : k < 9) : vp_in (nI i + nI k) N := by
  rw [nI_add]; exact vp_in_nI (by omega) (by omega)
theorem lc_at {i k : Nat} (h : i + k < 2 ^ 31) : (nI i + nI k).toNatClampNeg = i + k := by
  rw [nI_add]; exact nI_clamp h
/-- the call parish: both answer the same, and Rel stays -/
def St_parish (Rel : mI → mL → Prop) (I : mI) (L : mL) (a1 : Int32) : Prop := ∃ (v : Int32) (I1 : mI) (L1 : mL) (I2 : mI) (L2 : mL), f_X10_parish_0 I L a1 = some (v, I1, L1) ∧ f_X11_parish_67 I1 L1 a1 = some (v, I2, L2) ∧ Rel I2 L2
theorem case_0 {p : Program} {l : Launch} {e : Env} {s : State} {m : MethodId} {below : List Frame} {meth : Method} {c : Code} {b N : Nat} {xs : Nat → Int32} {D : va_G} {ad : Nat → Nat} {ca : FieldType → ClassId} (C : LX p s m meth c b N xs D ad ca) (hN : N ≤ 576) {i : Nat} (hi : i + 9 ≤ N) {Rel : mI → mL → Prop} {I : mI} {L : mL} (h : St_parish Rel I L (xs (i + 1))) (kk : ∀ I L, Rel I L → WL p l e s m below meth c b D ad ca 1679 [some (.ref 84), some (.ref 0), some (.ref 67), some (.int (nI i))] [] I L) : WL p l e s m below meth c b D ad ca 196 [some (.ref 84), some (.ref 0), some (.ref 67), some (.int (nI i))] [] I L := by
  obtain ⟨v, I1, L1, I2, L2, h1, h2, hrel⟩ := h
  refine w_aload_n C (i := 1) dL_law_196 rfl rfl ?_
  refine w_aload_n C (i := 0) dL_law_197 rfl rfl ?_
  refine w_iload_n C (i := 3) dL_law_198 rfl rfl ?_
  refine w_iconst C (v := nI 1) dL_law_199 (by decide) ?_
  refine w_iadd C dL_law_200 ?_
  refine w_sld C (lc_in hi hN (by decide)) dL_law_201 ?_
  rw [lc_at (k := 1) (by omega)]
  refine w_call C (d' := 1) k_L_13 dL_law_202 (by decide) rfl rfl rfl (Nat.le_of_ble_eq_true rfl) (Nat.le_of_ble_eq_true rfl) (ok_X10_parish_0 (Nat.le_refl _) h1) (fun v I' L' hq => ?_)
  obtain ⟨rfl, rfl, rfl⟩ := hq
  simp only [Option.toList_some, Option.toList_none, List.drop_succ_cons, List.drop_zero, List.drop_nil, List.cons_append, List.nil_append]
  refine w_aload_n C (i := 2) dL_law_205 rfl rfl ?_
  refine w_aload_n C (i := 0) dL_law_206 rfl rfl ?_
  refine w_iload_n C (i := 3) dL_law_207 rfl rfl ?_
  refine w_iconst C (v := nI 1) dL_law_208 (by decide) ?_
  refine w_iadd C dL_law_209 ?_
  refine w_sld C (lc_in hi hN (by decide)) dL_law_210 ?_
  rw [lc_at (k := 1) (by omega)]
  refine w_call C (d' := 1) k_L_17 dL_law_211 (by decide) rfl rfl rfl (Nat.le_of_ble_eq_true rfl) (Nat.le_of_ble_eq_true rfl) (ok_X11_parish_67 (Nat.le_refl _) h2) (fun v I' L' hq => ?_)
  obtain ⟨rfl, rfl, rfl⟩ := hq
  simp only [Option.toList_some, Option.toList_none, List.drop_succ_cons, List.drop_zero, List.drop_nil, List.cons_append, List.nil_append]
  refine w_icmpeq C (tgt := 1679) dL_law_214 (by decide) ?_
  exact kk _ _ hrel
/-- the call pull: both answer the same, and Rel stays -/
def St_pull (Rel : mI → mL → Prop) (I : mI) (L : mL) (a1 : Int32) (a2 : Int32) (a3 : Int32) : Prop := ∃ (v : Int32) (I1 : mI) (L1 : mL) (I2 : mI) (L2 : mL), f_X10_pull_0 I L a1 a2 a3 = some (v, I1, L1) ∧ f_X11_pull_67 I1 L1 a1 a2 a3 = some (v, I2, L2) ∧ Rel I2 L2
theorem case_1 {p : Program} {l : Launch} {e : Env} {s : State} {m : MethodId} {below : List Frame} {meth : Method} {c : Code} {b N : Nat} {xs : Nat → Int32} {D : va_G} {ad : Nat → Nat} {ca : FieldType → ClassId} (C : LX p s m meth c b N xs D ad ca) (hN : N ≤ 576) {i : Nat} (hi : i + 9 ≤ N) {Rel : mI → mL → Prop} {I : mI} {L : mL} (h : St_pull Rel I L (xs (i + 1)) (xs (i + 2)) (xs (i + 3))) (kk : ∀ I L, Rel I L → WL p l e s m below meth c b D ad ca 1679 [some (.ref 84), some (.ref 0), some (.ref 67), some (.int (nI i))] [] I L) : WL p l e s m below meth c b D ad ca 219 [some (.ref 84), some (.ref 0), some (.ref 67), some (.int (nI i))] [] I L := by
  obtain ⟨v, I1, L1, I2, L2, h1, h2, hrel⟩ := h
  refine w_aload_n C (i := 1) dL_law_219 rfl rfl ?_
  refine w_aload_n C (i := 0) dL_law_220 rfl rfl ?_
  refine w_iload_n C (i := 3) dL_law_221 rfl rfl ?_
  refine w_iconst C (v := nI 1) dL_law_222 (by decide) ?_
  refine w_iadd C dL_law_223 ?_
  refine w_sld C (lc_in hi hN (by decide)) dL_law_224 ?_
  rw [lc_at (k := 1) (by omega)]
  refine w_aload_n C (i := 0) dL_law_225 rfl rfl ?_
  refine w_iload_n C (i := 3) dL_law_226 rfl rfl ?_
  refine w_iconst C (v := nI 2) dL_law_227 (by decide) ?_
  refine w_iadd C dL_law_228 ?_
  refine w_sld C (lc_in hi hN (by decide)) dL_law_229 ?_
  rw [lc_at (k := 2) (by omega)]
  refine w_aload_n C (i := 0) dL_law_230 rfl rfl ?_
  refine w_iload_n C (i := 3) dL_law_231 rfl rfl ?_
  refine w_iconst C (v := nI 3) dL_law_232 (by decide) ?_
  refine w_iadd C dL_law_233 ?_
  refine w_sld C (lc_in hi hN (by decide)) dL_law_234 ?_
  rw [lc_at (k := 3) (by omega)]
  refine w_call C (d' := 1) k_L_18 dL_law_235 (by decide) rfl rfl rfl (Nat.le_of_ble_eq_true rfl) (Nat.le_of_ble_eq_true rfl) (ok_X10_pull_0 (Nat.le_refl _) h1) (fun v I' L' hq => ?_)
  obtain ⟨rfl, rfl, rfl⟩ := hq
  simp only [Option.toList_some, Option.toList_none, List.drop_succ_cons, List.drop_zero, List.drop_nil, List.cons_append, List.nil_append]
  refine w_aload_n C (i := 2) dL_law_238 rfl rfl ?_
  refine w_aload_n C (i := 0) dL_law_239 rfl rfl ?_
  refine w_iload_n C (i := 3) dL_law_240 rfl rfl ?_
  refine w_iconst C (v := nI 1) dL_law_241 (by decide) ?_
  refine w_iadd C dL_law_242 ?_
  refine w_sld C (lc_in hi hN (by decide)) dL_law_243 ?_
  rw [lc_at (k := 1) (by omega)]
  refine w_aload_n C (i := 0) dL_law_244 rfl rfl ?_
  refine w_iload_n C (i := 3) dL_law_245 rfl rfl ?_
  refine w_iconst C (v := nI 2) dL_law_246 (by decide) ?_
  refine w_iadd C dL_law_247 ?_
  refine w_sld C (lc_in hi hN (by decide)) dL_law_248 ?_
  rw [lc_at (k := 2) (by omega)]
  refine w_aload_n C (i := 0) dL_law_249 rfl rfl ?_
  refine w_iload_n C (i := 3) dL_law_250 rfl rfl ?_
  refine w_iconst C (v := nI 3) dL_law_251 (by decide) ?_
  refine w_iadd C dL_law_252 ?_
  refine w_sld C (lc_in hi hN (by decide)) dL_law_253 ?_
  rw [lc_at (k := 3) (by omega)]
  refine w_call C (d' := 2) k_L_22 dL_law_254 (by decide) rfl rfl rfl (Nat.le_of_ble_eq_true rfl) (Nat.le_of_ble_eq_true rfl) (ok_X11_pull_67 (Nat.le_refl _) h2) (fun v I' L' hq => ?_)
  obtain ⟨rfl, rfl, rfl⟩ := hq
  simp only [Option.toList_some, Option.toList_none, List.drop_succ_cons, List.drop_zero, List.drop_nil, List.cons_append, List.nil_append]
  refine w_icmpeq C (tgt := 1679) dL_law_257 (by decide) ?_
  exact kk _ _ hrel
/-- the call road: both answer the same, and Rel stays -/
def St_road (Rel : mI → mL → Prop) (I : mI) (L : mL) (a1 : Int32) (a2 : Int32) (a3 : Int32) : Prop := ∃ (v : Int32) (I1 : mI) (L1 : mL) (I2 : mI) (L2 : mL), f_X10_road_0 I L a1 a2 a3 = some (v, I1, L1) ∧ f_X11_road_67 I1 L1 a1 a2 a3 = some (v, I2, L2) ∧ Rel I2 L2
theorem case_2 {p : Program} {l : Launch} {e : Env} {s : State} {m : MethodId} {below : List Frame} {meth : Method} {c : Code} {b N : Nat} {xs : Nat → Int32} {D : va_G} {ad : Nat → Nat} {ca : FieldType → ClassId} (C : LX p s m meth c b N xs D ad ca) (hN : N ≤ 576) {i : Nat} (hi : i + 9 ≤ N) {Rel : mI → mL → Prop} {I : mI} {L : mL} (h : St_road Rel I L (xs (i + 1)) (xs (i + 2)) (xs (i + 3))) (kk : ∀ I L, Rel I L → WL p l e s m below meth c b D ad ca 1679 [some (.ref 84), some (.ref 0), some (.ref 67), some (.int (nI i))] [] I L) : WL p l e s m below meth c b D ad ca 262 [some (.ref 84), some (.ref 0), some (.ref 67), some (.int (nI i))] [] I L := by
  obtain ⟨v, I1, L1, I2, L2, h1, h2, hrel⟩ := h
  refine w_aload_n C (i := 1) dL_law_262 rfl rfl ?_
  refine w_aload_n C (i := 0) dL_law_263 rfl rfl ?_
  refine w_iload_n C (i := 3) dL_law_264 rfl rfl ?_
  refine w_iconst C (v := nI 1) dL_law_265 (by decide) ?_
  refine w_iadd C dL_law_266 ?_
  refine w_sld C (lc_in hi hN (by decide)) dL_law_267 ?_
  rw [lc_at (k := 1) (by omega)]
  refine w_aload_n C (i := 0) dL_law_268 rfl rfl ?_
  refine w_iload_n C (i := 3) dL_law_269 rfl rfl ?_
  refine w_iconst C (v := nI 2) dL_law_270 (by decide) ?_
  refine w_iadd C dL_law_271 ?_
  refine w_sld C (lc_in hi hN (by decide)) dL_law_272 ?_
  rw [lc_at (k := 2) (by omega)]
  refine w_aload_n C (i := 0) dL_law_273 rfl rfl ?_
  refine w_iload_n C (i := 3) dL_law_274 rfl rfl ?_
  refine w_iconst C (v := nI 3) dL_law_275 (by decide) ?_
  refine w_iadd C dL_law_276 ?_
  refine w_sld C (lc_in hi hN (by decide)) dL_law_277 ?_
  rw [lc_at (k := 3) (by omega)]
  refine w_call C (d' := 2) k_L_23 dL_law_278 (by decide) rfl rfl rfl (Nat.le_of_ble_eq_true rfl) (Nat.le_of_ble_eq_true rfl) (ok_X10_road_0 (Nat.le_refl _) h1) (fun v I' L' hq => ?_)
  obtain ⟨rfl, rfl, rfl⟩ := hq
  simp only [Option.toList_some, Option.toList_none, List.drop_succ_cons, List.drop_zero, List.drop_nil, List.cons_append, List.nil_append]
  refine w_aload_n C (i := 2) dL_law_281 rfl rfl ?_
  refine w_aload_n C (i := 0) dL_law_282 rfl rfl ?_
  refine w_iload_n C (i := 3) dL_law_283 rfl rfl ?_
  refine w_iconst C (v := nI 1) dL_law_284 (by decide) ?_
  refine w_iadd C dL_law_285 ?_
  refine w_sld C (lc_in hi hN (by decide)) dL_law_286 ?_
  rw [lc_at (k := 1) (by omega)]
  refine w_aload_n C (i := 0) dL_law_287 rfl rfl ?_
  refine w_iload_n C (i := 3) dL_law_288 rfl rfl ?_
  refine w_iconst C (v := nI 2) dL_law_289 (by decide) ?_
  refine w_iadd C dL_law_290 ?_
  refine w_sld C (lc_in hi hN (by decide)) dL_law_291 ?_
  rw [lc_at (k := 2) (by omega)]
  refine w_aload_n C (i := 0) dL_law_292 rfl rfl ?_
  refine w_iload_n C (i := 3) dL_law_293 rfl rfl ?_
  refine w_iconst C (v := nI 3) dL_law_294 (by decide) ?_
  refine w_iadd C dL_law_295 ?_
  refine w_sld C (lc_in hi hN (by decide)) dL_law_296 ?_
  rw [lc_at (k := 3) (by omega)]
  refine w_call C (d' := 2) k_L_26 dL_law_297 (by decide) rfl rfl rfl (Nat.le_of_ble_eq_true rfl) (Nat.le_of_ble_eq_true rfl) (ok_X11_road_67 (Nat.le_refl _) h2) (fun v I' L' hq => ?_)
  obtain ⟨rfl, rfl, rfl⟩ := hq
  simp only [Option.toList_some, Option.toList_none, List.drop_succ_cons, List.drop_zero, List.drop_nil, List.cons_append, List.nil_append]
  refine w_icmpeq C (tgt := 1679) dL_law_300 (by decide) ?_
  exact kk _ _ hrel
/-- the call toll: both answer the same, and Rel stays -/
def St_toll (Rel : mI → mL → Prop) (I : mI) (L : mL) (a1 : Int32) (a2 : Int32) : Prop := ∃ (v : Int32) (I1 : mI) (L1 : mL) (I2 : mI) (L2 : mL), f_X10_toll_0 I L a1 a2 = some (v, I1, L1) ∧ f_X11_toll_67 I1 L1 a1 a2 = some (v, I2, L2) ∧ Rel I2 L2
theorem case_3 {p : Program} {l : Launch} {e : Env} {s : State} {m : MethodId} {below : List Frame} {meth : Method} {c : Code} {b N : Nat} {xs : Nat → Int32} {D : va_G} {ad : Nat → Nat} {ca : FieldType → ClassId} (C : LX p s m meth c b N xs D ad ca) (hN : N ≤ 576) {i : Nat} (hi : i + 9 ≤ N) {Rel : mI → mL → Prop} {I : mI} {L : mL} (h : St_toll Rel I L (xs (i + 1)) (xs (i + 2))) (kk : ∀ I L, Rel I L → WL p l e s m below meth c b D ad ca 1679 [some (.ref 84), some (.ref 0), some (.ref 67), some (.int (nI i))] [] I L) : WL p l e s m below meth c b D ad ca 305 [some (.ref 84), some (.ref 0), some (.ref 67), some (.int (nI i))] [] I L := by
  obtain ⟨v, I1, L1, I2, L2, h1, h2, hrel⟩ := h
  refine w_aload_n C (i := 1) dL_law_305 rfl rfl ?_
  refine w_aload_n C (i := 0) dL_law_306 rfl rfl ?_
  refine w_iload_n C (i := 3) dL_law_307 rfl rfl ?_
  refine w_iconst C (v := nI 1) dL_law_308 (by decide) ?_
  refine w_iadd C dL_law_309 ?_
  refine w_sld C (lc_in hi hN (by decide)) dL_law_310 ?_
  rw [lc_at (k := 1) (by omega)]
  refine w_aload_n C (i := 0) dL_law_311 rfl rfl ?_
  refine w_iload_n C (i := 3) dL_law_312 rfl rfl ?_
  refine w_iconst C (v := nI 2) dL_law_313 (by decide) ?_
  refine w_iadd C dL_law_314 ?_
  refine w_sld C (lc_in hi hN (by decide)) dL_law_315 ?_
  rw [lc_at (k := 2) (by omega)]
  refine w_call C (d' := 1) k_L_27 dL_law_316 (by decide) rfl rfl rfl (Nat.le_of_ble_eq_true rfl) (Nat.le_of_ble_eq_true rfl) (ok_X10_toll_0 (Nat.le_refl _) h1) (fun v I' L' hq => ?_)
  obtain ⟨rfl, rfl, rfl⟩ := hq
  simp only [Option.toList_some, Option.toList_none, List.drop_succ_cons, List.drop_zero, List.drop_nil, List.cons_append, List.nil_append]
  refine w_aload_n C (i := 2) dL_law_319 rfl rfl ?_
  refine w_aload_n C (i := 0) dL_law_320 rfl rfl ?_
  refine w_iload_n C (i := 3) dL_law_321 rfl rfl ?_
  refine w_iconst C (v := nI 1) dL_law_322 (by decide) ?_
  refine w_iadd C dL_law_323 ?_
  refine w_sld C (lc_in hi hN (by decide)) dL_law_324 ?_
  rw [lc_at (k := 1) (by omega)]
  refine w_aload_n C (i := 0) dL_law_325 rfl rfl ?_
  refine w_iload_n C (i := 3) dL_law_326 rfl rfl ?_
  refine w_iconst C (v := nI 2) dL_law_327 (by decide) ?_
  refine w_iadd C dL_law_328 ?_
  refine w_sld C (lc_in hi hN (by decide)) dL_law_329 ?_
  rw [lc_at (k := 2) (by omega)]
  refine w_call C (d' := 2) k_L_31 dL_law_330 (by decide) rfl rfl rfl (Nat.le_of_ble_eq_true rfl) (Nat.le_of_ble_eq_true rfl) (ok_X11_toll_67 (Nat.le_refl _) h2) (fun v I' L' hq => ?_)
  obtain ⟨rfl, rfl, rfl⟩ := hq
  simp only [Option.toList_some, Option.toList_none, List.drop_succ_cons, List.drop_zero, List.drop_nil, List.cons_append, List.nil_append]
  refine w_icmpeq C (tgt := 1679) dL_law_333 (by decide) ?_
  exact kk _ _ hrel
/-- the call cart: both answer the same, and Rel stays -/
def St_cart (Rel : mI → mL → Prop) (I : mI) (L : mL) (a1 : Int32) (a2 : Int32) : Prop := ∃ (v : Int32) (I1 : mI) (L1 : mL) (I2 : mI) (L2 : mL), f_X10_cart_0 I L a1 a2 = some (v, I1, L1) ∧ f_X11_cart_67 I1 L1 a1 a2 = some (v, I2, L2) ∧ Rel I2 L2
theorem case_4 {p : Program} {l : Launch} {e : Env} {s : State} {m : MethodId} {below : List Frame} {meth : Method} {c : Code} {b N : Nat} {xs : Nat → Int32} {D : va_G} {ad : Nat → Nat} {ca : FieldType → ClassId} (C : LX p s m meth c b N xs D ad ca) (hN : N ≤ 576) {i : Nat} (hi : i + 9 ≤ N) {Rel : mI → mL → Prop} {I : mI} {L : mL} (h : St_cart Rel I L (xs (i + 1)) (xs (i + 2))) (kk : ∀ I L, Rel I L → WL p l e s m below meth c b D ad ca 1679 [some (.ref 84), some (.ref 0), some (.ref 67), some (.int (nI i))] [] I L) : WL p l e s m below meth c b D ad ca 338 [some (.ref 84), some (.ref 0), some (.ref 67), some (.int (nI i))] [] I L := by
  obtain ⟨v, I1, L1, I2, L2, h1, h2, hrel⟩ := h
  refine w_aload_n C (i := 1) dL_law_338 rfl rfl ?_
  refine w_aload_n C (i := 0) dL_law_339 rfl rfl ?_
  refine w_iload_n C (i := 3) dL_law_340 rfl rfl ?_
  refine w_iconst C (v := nI 1) dL_law_341 (by decide) ?_
  refine w_iadd C dL_law_342 ?_
  refine w_sld C (lc_in hi hN (by decide)) dL_law_343 ?_
  rw [lc_at (k := 1) (by omega)]
  refine w_aload_n C (i := 0) dL_law_344 rfl rfl ?_
  refine w_iload_n C (i := 3) dL_law_345 rfl rfl ?_
  refine w_iconst C (v := nI 2) dL_law_346 (by decide) ?_
  refine w_iadd C dL_law_347 ?_
  refine w_sld C (lc_in hi hN (by decide)) dL_law_348 ?_
  rw [lc_at (k := 2) (by omega)]
  refine w_call C (d' := 1) k_L_32 dL_law_349 (by decide) rfl rfl rfl (Nat.le_of_ble_eq_true rfl) (Nat.le_of_ble_eq_true rfl) (ok_X10_cart_0 (Nat.le_refl _) h1) (fun v I' L' hq => ?_)
  obtain ⟨rfl, rfl, rfl⟩ := hq
  simp only [Option.toList_some, Option.toList_none, List.drop_succ_cons, List.drop_zero, List.drop_nil, List.cons_append, List.nil_append]
  refine w_aload_n C (i := 2) dL_law_352 rfl rfl ?_
  refine w_aload_n C (i := 0) dL_law_353 rfl rfl ?_
  refine w_iload_n C (i := 3) dL_law_354 rfl rfl ?_
  refine w_iconst C (v := nI 1) dL_law_355 (by decide) ?_
  refine w_iadd C dL_law_356 ?_
  refine w_sld C (lc_in hi hN (by decide)) dL_law_357 ?_
  rw [lc_at (k := 1) (by omega)]
  refine w_aload_n C (i := 0) dL_law_358 rfl rfl ?_
  refine w_iload_n C (i := 3) dL_law_359 rfl rfl ?_
  refine w_iconst C (v := nI 2) dL_law_360 (by decide) ?_
  refine w_iadd C dL_law_361 ?_
  refine w_sld C (lc_in hi hN (by decide)) dL_law_362 ?_
  rw [lc_at (k := 2) (by omega)]
  refine w_call C (d' := 1) k_L_35 dL_law_363 (by decide) rfl rfl rfl (Nat.le_of_ble_eq_true rfl) (Nat.le_of_ble_eq_true rfl) (ok_X11_cart_67 (Nat.le_refl _) h2) (fun v I' L' hq => ?_)
  obtain ⟨rfl, rfl, rfl⟩ := hq
  simp only [Option.toList_some, Option.toList_none, List.drop_succ_cons, List.drop_zero, List.drop_nil, List.cons_append, List.nil_append]
  refine w_icmpeq C (tgt := 1679) dL_law_366 (by decide) ?_
  exact kk _ _ hrel
/-- the call good: both answer the same, and Rel stays -/
def St_good (Rel : mI → mL → Prop) (I : mI) (L : mL) (a1 : Int32) (a2 : Int32) (a3 : Int32) : Prop := ∃ (v : Int32) (I1 : mI) (L1 : mL) (I2 : mI) (L2 : mL), f_X10_good_0 I L a1 a2 a3 = some (v, I1, L1) ∧ f_X11_good_67 I1 L1 a1 a2 a3 = some (v, I2, L2) ∧ Rel I2 L2
theorem case_5 {p : Program} {l : Launch} {e : Env} {s : State} {m : MethodId} {below : List Frame} {meth : Method} {c : Code} {b N : Nat} {xs : Nat → Int32} {D : va_G} {ad : Nat → Nat} {ca : FieldType → ClassId} (C : LX p s m meth c b N xs D ad ca) (hN : N ≤ 576) {i : Nat} (hi : i + 9 ≤ N) {Rel : mI → mL → Prop} {I : mI} {L : mL} (h : St_good Rel I L (xs (i + 1)) (xs (i + 2)) (xs (i + 3))) (kk : ∀ I L, Rel I L → WL p l e s m below meth c b D ad ca 1679 [some (.ref 84), some (.ref 0), some (.ref 67), some (.int (nI i))] [] I L) : WL p l e s m below meth c b D ad ca 371 [some (.ref 84), some (.ref 0), some (.ref 67), some (.int (nI i))] [] I L := by
  obtain ⟨v, I1, L1, I2, L2, h1, h2, hrel⟩ := h
  refine w_aload_n C (i := 1) dL_law_371 rfl rfl ?_
  refine w_aload_n C (i := 0) dL_law_372 rfl rfl ?_
  refine w_iload_n C (i := 3) dL_law_373 rfl rfl ?_
  refine w_iconst C (v := nI 1) dL_law_374 (by decide) ?_
  refine w_iadd C dL_law_375 ?_
  refine w_sld C (lc_in hi hN (by decide)) dL_law_376 ?_
  rw [lc_at (k := 1) (by omega)]
  refine w_aload_n C (i := 0) dL_law_377 rfl rfl ?_
  refine w_iload_n C (i := 3) dL_law_378 rfl rfl ?_
  refine w_iconst C (v := nI 2) dL_law_379 (by decide) ?_
  refine w_iadd C dL_law_380 ?_
  refine w_sld C (lc_in hi hN (by decide)) dL_law_381 ?_
  rw [lc_at (k := 2) (by omega)]
  refine w_aload_n C (i := 0) dL_law_382 rfl rfl ?_
  refine w_iload_n C (i := 3) dL_law_383 rfl rfl ?_
  refine w_iconst C (v := nI 3) dL_law_384 (by decide) ?_
  refine w_iadd C dL_law_385 ?_
  refine w_sld C (lc_in hi hN (by decide)) dL_law_386 ?_
  rw [lc_at (k := 3) (by omega)]
  refine w_call C (d' := 1) k_L_36 dL_law_387 (by decide) rfl rfl rfl (Nat.le_of_ble_eq_true rfl) (Nat.le_of_ble_eq_true rfl) (ok_X10_good_0 (Nat.le_refl _) h1) (fun v I' L' hq => ?_)
  obtain ⟨rfl, rfl, rfl⟩ := hq
  simp only [Option.toList_some, Option.toList_none, List.drop_succ_cons, List.drop_zero, List.drop_nil, List.cons_append, List.nil_append]
  refine w_aload_n C (i := 2) dL_law_390 rfl rfl ?_
  refine w_aload_n C (i := 0) dL_law_391 rfl rfl ?_
  refine w_iload_n C (i := 3) dL_law_392 rfl rfl ?_
  refine w_iconst C (v := nI 1) dL_law_393 (by decide) ?_
  refine w_iadd C dL_law_394 ?_
  refine w_sld C (lc_in hi hN (by decide)) dL_law_395 ?_
  rw [lc_at (k := 1) (by omega)]
  refine w_aload_n C (i := 0) dL_law_396 rfl rfl ?_
  refine w_iload_n C (i := 3) dL_law_397 rfl rfl ?_
  refine w_iconst C (v := nI 2) dL_law_398 (by decide) ?_
  refine w_iadd C dL_law_399 ?_
  refine w_sld C (lc_in hi hN (by decide)) dL_law_400 ?_
  rw [lc_at (k := 2) (by omega)]
  refine w_aload_n C (i := 0) dL_law_401 rfl rfl ?_
  refine w_iload_n C (i := 3) dL_law_402 rfl rfl ?_
  refine w_iconst C (v := nI 3) dL_law_403 (by decide) ?_
  refine w_iadd C dL_law_404 ?_
  refine w_sld C (lc_in hi hN (by decide)) dL_law_405 ?_
  rw [lc_at (k := 3) (by omega)]
  refine w_call C (d' := 2) k_L_39 dL_law_406 (by decide) rfl rfl rfl (Nat.le_of_ble_eq_true rfl) (Nat.le_of_ble_eq_true rfl) (ok_X11_good_67 (Nat.le_refl _) h2) (fun v I' L' hq => ?_)
  obtain ⟨rfl, rfl, rfl⟩ := hq
  simp only [Option.toList_some, Option.toList_none, List.drop_succ_cons, List.drop_zero, List.drop_nil, List.cons_append, List.nil_append]
  refine w_icmpeq C (tgt := 1679) dL_law_409 (by decide) ?_
  exact kk _ _ hrel
/-- the call hang: both answer the same, and Rel stays -/
def St_hang (Rel : mI → mL → Prop) (I : mI) (L : mL) (a1 : Int32) (a2 : Int32) : Prop := ∃ (v : Int32) (I1 : mI) (L1 : mL) (I2 : mI) (L2 : mL), f_X10_hang_0 I L a1 a2 = some (v, I1, L1) ∧ f_X11_hang_67 I1 L1 a1 a2 = some (v, I2, L2) ∧ Rel I2 L2
theorem case_6 {p : Program} {l : Launch} {e : Env} {s : State} {m : MethodId} {below : List Frame} {meth : Method} {c : Code} {b N : Nat} {xs : Nat → Int32} {D : va_G} {ad : Nat → Nat} {ca : FieldType → ClassId} (C : LX p s m meth c b N xs D ad ca) (hN : N ≤ 576) {i : Nat} (hi : i + 9 ≤ N) {Rel : mI → mL → Prop} {I : mI} {L : mL} (h : St_hang Rel I L (xs (i + 1)) (xs (i + 2))) (kk : ∀ I L, Rel I L → WL p l e s m below meth c b D ad ca 1679 [some (.ref 84), some (.ref 0), some (.ref 67), some (.int (nI i))] [] I L) : WL p l e s m below meth c b D ad ca 414 [some (.ref 84), some (.ref 0), some (.ref 67), some (.int (nI i))] [] I L := by
  obtain ⟨v, I1, L1, I2, L2, h1, h2, hrel⟩ := h
  refine w_aload_n C (i := 1) dL_law_414 rfl rfl ?_
  refine w_aload_n C (i := 0) dL_law_415 rfl rfl ?_
  refine w_iload_n C (i := 3) dL_law_416 rfl rfl ?_
  refine w_iconst C (v := nI 1) dL_law_417 (by decide) ?_
  refine w_iadd C dL_law_418 ?_
  refine w_sld C (lc_in hi hN (by decide)) dL_law_419 ?_
  rw [lc_at (k := 1) (by omega)]
  refine w_aload_n C (i := 0) dL_law_420 rfl rfl ?_
  refine w_iload_n C (i := 3) dL_law_421 rfl rfl ?_
  refine w_iconst C (v := nI 2) dL_law_422 (by decide) ?_
  refine w_iadd C dL_law_423 ?_
  refine w_sld C (lc_in hi hN (by decide)) dL_law_424 ?_
  rw [lc_at (k := 2) (by omega)]
  refine w_call C (d' := 4) k_L_40 dL_law_425 (by decide) rfl rfl rfl (Nat.le_of_ble_eq_true rfl) (Nat.le_of_ble_eq_true rfl) (ok_X10_hang_0 (Nat.le_refl _) h1) (fun v I' L' hq => ?_)
  obtain ⟨rfl, rfl, rfl⟩ := hq
  simp only [Option.toList_some, Option.toList_none, List.drop_succ_cons, List.drop_zero, List.drop_nil, List.cons_append, List.nil_append]
  refine w_aload_n C (i := 2) dL_law_428 rfl rfl ?_
  refine w_aload_n C (i := 0) dL_law_429 rfl rfl ?_
  refine w_iload_n C (i := 3) dL_law_430 rfl rfl ?_
  refine w_iconst C (v := nI 1) dL_law_431 (by decide) ?_
  refine w_iadd C dL_law_432 ?_
  refine w_sld C (lc_in hi hN (by decide)) dL_law_433 ?_
  rw [lc_at (k := 1) (by omega)]
  refine w_aload_n C (i := 0) dL_law_434 rfl rfl ?_
  refine w_iload_n C (i := 3) dL_law_435 rfl rfl ?_
  refine w_iconst C (v := nI 2) dL_law_436 (by decide) ?_
  refine w_iadd C dL_law_437 ?_
  refine w_sld C (lc_in hi hN (by decide)) dL_law_438 ?_
  rw [lc_at (k := 2) (by omega)]
  refine w_call C (d' := 2) k_L_43 dL_law_439 (by decide) rfl rfl rfl (Nat.le_of_ble_eq_true rfl) (Nat.le_of_ble_eq_true rfl) (ok_X11_hang_67 (Nat.le_refl _) h2) (fun v I' L' hq => ?_)
  obtain ⟨rfl, rfl, rfl⟩ := hq
  simp only [Option.toList_some, Option.toList_none, List.drop_succ_cons, List.drop_zero, List.drop_nil, List.cons_append, List.nil_append]
  refine w_icmpeq C (tgt := 1679) dL_law_442 (by decide) ?_
  exact kk _ _ hrel
/-- the call person: both answer the same, and Rel stays -/
def St_person (Rel : mI → mL → Prop) (I : mI) (L : mL) (a1 : Int32) (a2 : Int32) : Prop := ∃ (v : Int32) (I1 : mI) (L1 : mL) (I2 : mI) (L2 : mL), f_X10_person_0 I L a1 a2 = some (v, I1, L1) ∧ f_X11_person_67 I1 L1 a1 a2 = some (v, I2, L2) ∧ Rel I2 L2
theorem case_7 {p : Program} {l : Launch} {e : Env} {s : State} {m : MethodId} {below : List Frame} {meth : Method} {c : Code} {b N : Nat} {xs : Nat → Int32} {D : va_G} {ad : Nat → Nat} {ca : FieldType → ClassId} (C : LX p s m meth c b N xs D ad ca) (hN : N ≤ 576) {i : Nat} (hi : i + 9 ≤ N) {Rel : mI → mL → Prop} {I : mI} {L : mL} (h : St_person Rel I L (xs (i + 1)) (xs (i + 2))) (kk : ∀ I L, Rel I L → WL p l e s m below meth c b D ad ca 1679 [some (.ref 84), some (.ref 0), some (.ref 67), some (.int (nI i))] [] I L) : WL p l e s m below meth c b D ad ca 447 [some (.ref 84), some (.ref 0), some (.ref 67), some (.int (nI i))] [] I L := by
  obtain ⟨v, I1, L1, I2, L2, h1, h2, hrel⟩ := h
  refine w_aload_n C (i := 1) dL_law_447 rfl rfl ?_
  refine w_aload_n C (i := 0) dL_law_448 rfl rfl ?_
  refine w_iload_n C (i := 3) dL_law_449 rfl rfl ?_
  refine w_iconst C (v := nI 1) dL_law_450 (by decide) ?_
  refine w_iadd C dL_law_451 ?_
  refine w_sld C (lc_in hi hN (by decide)) dL_law_452 ?_
  rw [lc_at (k := 1) (by omega)]
  refine w_aload_n C (i := 0) dL_law_453 rfl rfl ?_
  refine w_iload_n C (i := 3) dL_law_454 rfl rfl ?_
  refine w_iconst C (v := nI 2) dL_law_455 (by decide) ?_
  refine w_iadd C dL_law_456 ?_
  refine w_sld C (lc_in hi hN (by decide)) dL_law_457 ?_
  rw [lc_at (k := 2) (by omega)]
  refine w_call C (d' := 1) k_L_44 dL_law_458 (by decide) rfl rfl rfl (Nat.le_of_ble_eq_true rfl) (Nat.le_of_ble_eq_true rfl) (ok_X10_person_0 (Nat.le_refl _) h1) (fun v I' L' hq => ?_)
  obtain ⟨rfl, rfl, rfl⟩ := hq
  simp only [Option.toList_some, Option.toList_none, List.drop_succ_cons, List.drop_zero, List.drop_nil, List.cons_append, List.nil_append]
  refine w_aload_n C (i := 2) dL_law_461 rfl rfl ?_
  refine w_aload_n C (i := 0) dL_law_462 rfl rfl ?_
  refine w_iload_n C (i := 3) dL_law_463 rfl rfl ?_
  refine w_iconst C (v := nI 1) dL_law_464 (by decide) ?_
  refine w_iadd C dL_law_465 ?_
  refine w_sld C (lc_in hi hN (by decide)) dL_law_466 ?_
  rw [lc_at (k := 1) (by omega)]
  refine w_aload_n C (i := 0) dL_law_467 rfl rfl ?_
  refine w_iload_n C (i := 3) dL_law_468 rfl rfl ?_
  refine w_iconst C (v := nI 2) dL_law_469 (by decide) ?_
  refine w_iadd C dL_law_470 ?_
  refine w_sld C (lc_in hi hN (by decide)) dL_law_471 ?_
  rw [lc_at (k := 2) (by omega)]
  refine w_call C (d' := 2) k_L_47 dL_law_472 (by decide) rfl rfl rfl (Nat.le_of_ble_eq_true rfl) (Nat.le_of_ble_eq_true rfl) (ok_X11_person_67 (Nat.le_refl _) h2) (fun v I' L' hq => ?_)
  obtain ⟨rfl, rfl, rfl⟩ := hq
  simp only [Option.toList_some, Option.toList_none, List.drop_succ_cons, List.drop_zero, List.drop_nil, List.cons_append, List.nil_append]
  refine w_icmpeq C (tgt := 1679) dL_law_475 (by decide) ?_
  exact kk _ _ hrel
/-- the call of: both answer the same, and Rel stays -/
def St_of (Rel : mI → mL → Prop) (I : mI) (L : mL) (a1 : Int32) (a2 : Int32) : Prop := ∃ (v : Int32), f_X10_of_0 I L a1 a2 = some v ∧ f_X11_of_67 I L a1 a2 = some v ∧ Rel I L
theorem case_8 {p : Program} {l : Launch} {e : Env} {s : State} {m : MethodId} {below : List Frame} {meth : Method} {c : Code} {b N : Nat} {xs : Nat → Int32} {D : va_G} {ad : Nat → Nat} {ca : FieldType → ClassId} (C : LX p s m meth c b N xs D ad ca) (hN : N ≤ 576) {i : Nat} (hi : i + 9 ≤ N) {Rel : mI → mL → Prop} {I : mI} {L : mL} (h : St_of Rel I L (xs (i + 1)) (xs (i + 2))) (kk : ∀ I L, Rel I L → WL p l e s m below meth c b D ad ca 1679 [some (.ref 84), some (.ref 0), some (.ref 67), some (.int (nI i))] [] I L) : WL p l e s m below meth c b D ad ca 480 [some (.ref 84), some (.ref 0), some (.ref 67), some (.int (nI i))] [] I L := by
  obtain ⟨v, h1, h2, hrel⟩ := h
  refine w_aload_n C (i := 1) dL_law_480 rfl rfl ?_
  refine w_aload_n C (i := 0) dL_law_481 rfl rfl ?_
  refine w_iload_n C (i := 3) dL_law_482 rfl rfl ?_
  refine w_iconst C (v := nI 1) dL_law_483 (by decide) ?_
  refine w_iadd C dL_law_484 ?_
  refine w_sld C (lc_in hi hN (by decide)) dL_law_485 ?_
  rw [lc_at (k := 1) (by omega)]
  refine w_aload_n C (i := 0) dL_law_486 rfl rfl ?_
  refine w_iload_n C (i := 3) dL_law_487 rfl rfl ?_
  refine w_iconst C (v := nI 2) dL_law_488 (by decide) ?_
  refine w_iadd C dL_law_489 ?_
  refine w_sld C (lc_in hi hN (by decide)) dL_law_490 ?_
  rw [lc_at (k := 2) (by omega)]
  refine w_call C (d' := 2) k_L_48 dL_law_491 (by decide) rfl rfl rfl (Nat.le_of_ble_eq_true rfl) (Nat.le_of_ble_eq_true rfl) (ok_X10_of_0 (Nat.le_refl _) h1) (fun v I' L' hq => ?_)
  obtain ⟨rfl, rfl, rfl⟩ := hq
  simp only [Option.toList_some, Option.toList_none, List.drop_succ_cons, List.drop_zero, List.drop_nil, List.cons_append, List.nil_append]
  refine w_aload_n C (i := 2) dL_law_494 rfl rfl ?_
  refine w_aload_n C (i := 0) dL_law_495 rfl rfl ?_
  refine w_iload_n C (i := 3) dL_law_496 rfl rfl ?_
  refine w_iconst C (v := nI 1) dL_law_497 (by decide) ?_
  refine w_iadd C dL_law_498 ?_
  refine w_sld C (lc_in hi hN (by decide)) dL_law_499 ?_
  rw [lc_at (k := 1) (by omega)]
  refine w_aload_n C (i := 0) dL_law_500 rfl rfl ?_
  refine w_iload_n C (i := 3) dL_law_501 rfl rfl ?_
  refine w_iconst C (v := nI 2) dL_law_502 (by decide) ?_
  refine w_iadd C dL_law_503 ?_
  refine w_sld C (lc_in hi hN (by decide)) dL_law_504 ?_
  rw [lc_at (k := 2) (by omega)]
  refine w_call C (d' := 2) k_L_51 dL_law_505 (by decide) rfl rfl rfl (Nat.le_of_ble_eq_true rfl) (Nat.le_of_ble_eq_true rfl) (ok_X11_of_67 (Nat.le_refl _) h2) (fun v I' L' hq => ?_)
  obtain ⟨rfl, rfl, rfl⟩ := hq
  simp only [Option.toList_some, Option.toList_none, List.drop_succ_cons, List.drop_zero, List.drop_nil, List.cons_append, List.nil_append]
  refine w_icmpeq C (tgt := 1679) dL_law_508 (by decide) ?_
  exact kk _ _ hrel
/-- the call told: both answer the same, and Rel stays -/
def St_told (Rel : mI → mL → Prop) (I : mI) (L : mL) (a1 : Int32) (a2 : Int32) : Prop := ∃ (v : Int32), f_X10_told_0 I L a1 a2 = some v ∧ f_X11_told_67 I L a1 a2 = some v ∧ Rel I L
theorem case_9 {p : Program} {l : Launch} {e : Env} {s : State} {m : MethodId} {below : List Frame} {meth : Method} {c : Code} {b N : Nat} {xs : Nat → Int32} {D : va_G} {ad : Nat → Nat} {ca : FieldType → ClassId} (C : LX p s m meth c b N xs D ad ca) (hN : N ≤ 576) {i : Nat} (hi : i + 9 ≤ N) {Rel : mI → mL → Prop} {I : mI} {L : mL} (h : St_told Rel I L (xs (i + 1)) (xs (i + 2))) (kk : ∀ I L, Rel I L → WL p l e s m below meth c b D ad ca 1679 [some (.ref 84), some (.ref 0), some (.ref 67), some (.int (nI i))] [] I L) : WL p l e s m below meth c b D ad ca 513 [some (.ref 84), some (.ref 0), some (.ref 67), some (.int (nI i))] [] I L := by
  obtain ⟨v, h1, h2, hrel⟩ := h
  refine w_aload_n C (i := 1) dL_law_513 rfl rfl ?_
  refine w_aload_n C (i := 0) dL_law_514 rfl rfl ?_
  refine w_iload_n C (i := 3) dL_law_515 rfl rfl ?_
  refine w_iconst C (v := nI 1) dL_law_516 (by decide) ?_
  refine w_iadd C dL_law_517 ?_
  refine w_sld C (lc_in hi hN (by decide)) dL_law_518 ?_
  rw [lc_at (k := 1) (by omega)]
  refine w_aload_n C (i := 0) dL_law_519 rfl rfl ?_
  refine w_iload_n C (i := 3) dL_law_520 rfl rfl ?_
  refine w_iconst C (v := nI 2) dL_law_521 (by decide) ?_
  refine w_iadd C dL_law_522 ?_
  refine w_sld C (lc_in hi hN (by decide)) dL_law_523 ?_
  rw [lc_at (k := 2) (by omega)]
  refine w_call C (d' := 2) k_L_52 dL_law_524 (by decide) rfl rfl rfl (Nat.le_of_ble_eq_true rfl) (Nat.le_of_ble_eq_true rfl) (ok_X10_told_0 (Nat.le_refl _) h1) (fun v I' L' hq => ?_)
  obtain ⟨rfl, rfl, rfl⟩ := hq
  simp only [Option.toList_some, Option.toList_none, List.drop_succ_cons, List.drop_zero, List.drop_nil, List.cons_append, List.nil_append]
  refine w_aload_n C (i := 2) dL_law_527 rfl rfl ?_
  refine w_aload_n C (i := 0) dL_law_528 rfl rfl ?_
  refine w_iload_n C (i := 3) dL_law_529 rfl rfl ?_
  refine w_iconst C (v := nI 1) dL_law_530 (by decide) ?_
  refine w_iadd C dL_law_531 ?_
  refine w_sld C (lc_in hi hN (by decide)) dL_law_532 ?_
  rw [lc_at (k := 1) (by omega)]
  refine w_aload_n C (i := 0) dL_law_533 rfl rfl ?_
  refine w_iload_n C (i := 3) dL_law_534 rfl rfl ?_
  refine w_iconst C (v := nI 2) dL_law_535 (by decide) ?_
  refine w_iadd C dL_law_536 ?_
  refine w_sld C (lc_in hi hN (by decide)) dL_law_537 ?_
  rw [lc_at (k := 2) (by omega)]
  refine w_call C (d' := 2) k_L_55 dL_law_538 (by decide) rfl rfl rfl (Nat.le_of_ble_eq_true rfl) (Nat.le_of_ble_eq_true rfl) (ok_X11_told_67 (Nat.le_refl _) h2) (fun v I' L' hq => ?_)
  obtain ⟨rfl, rfl, rfl⟩ := hq
  simp only [Option.toList_some, Option.toList_none, List.drop_succ_cons, List.drop_zero, List.drop_nil, List.cons_append, List.nil_append]
  refine w_icmpeq C (tgt := 1679) dL_law_541 (by decide) ?_
  exact kk _ _ hrel
/-- the call weighs: both answer the same, and Rel stays -/
def St_weighs (Rel : mI → mL → Prop) (I : mI) (L : mL) (a1 : Int32) (a2 : Int32) : Prop := ∃ (v : Int32), f_X10_weighs_0 I L a1 a2 = some v ∧ f_X11_weighs_67 I L a1 a2 = some v ∧ Rel I L
theorem case_10 {p : Program} {l : Launch} {e : Env} {s : State} {m : MethodId} {below : List Frame} {meth : Method} {c : Code} {b N : Nat} {xs : Nat → Int32} {D : va_G} {ad : Nat → Nat} {ca : FieldType → ClassId} (C : LX p s m meth c b N xs D ad ca) (hN : N ≤ 576) {i : Nat} (hi : i + 9 ≤ N) {Rel : mI → mL → Prop} {I : mI} {L : mL} (h : St_weighs Rel I L (xs (i + 1)) (xs (i + 2))) (kk : ∀ I L, Rel I L → WL p l e s m below meth c b D ad ca 1679 [some (.ref 84), some (.ref 0), some (.ref 67), some (.int (nI i))] [] I L) : WL p l e s m below meth c b D ad ca 546 [some (.ref 84), some (.ref 0), some (.ref 67), some (.int (nI i))] [] I L := by
  obtain ⟨v, h1, h2, hrel⟩ := h
  refine w_aload_n C (i := 1) dL_law_546 rfl rfl ?_
  refine w_aload_n C (i := 0) dL_law_547 rfl rfl ?_
  refine w_iload_n C (i := 3) dL_law_548 rfl rfl ?_
  refine w_iconst C (v := nI 1) dL_law_549 (by decide) ?_
  refine w_iadd C dL_law_550 ?_
  refine w_sld C (lc_in hi hN (by decide)) dL_law_551 ?_
  rw [lc_at (k := 1) (by omega)]
  refine w_aload_n C (i := 0) dL_law_552 rfl rfl ?_
  refine w_iload_n C (i := 3) dL_law_553 rfl rfl ?_
  refine w_iconst C (v := nI 2) dL_law_554 (by decide) ?_
  refine w_iadd C dL_law_555 ?_
  refine w_sld C (lc_in hi hN (by decide)) dL_law_556 ?_
  rw [lc_at (k := 2) (by omega)]
  refine w_call C (d' := 3) k_L_56 dL_law_557 (by decide) rfl rfl rfl (Nat.le_of_ble_eq_true rfl) (Nat.le_of_ble_eq_true rfl) (ok_X10_weighs_0 (Nat.le_refl _) h1) (fun v I' L' hq => ?_)
  obtain ⟨rfl, rfl, rfl⟩ := hq
  simp only [Option.toList_some, Option.toList_none, List.drop_succ_cons, List.drop_zero, List.drop_nil, List.cons_append, List.nil_append]
  refine w_aload_n C (i := 2) dL_law_560 rfl rfl ?_
  refine w_aload_n C (i := 0) dL_law_561 rfl rfl ?_
  refine w_iload_n C (i := 3) dL_law_562 rfl rfl ?_
  refine w_iconst C (v := nI 1) dL_law_563 (by decide) ?_
  refine w_iadd C dL_law_564 ?_
  refine w_sld C (lc_in hi hN (by decide)) dL_law_565 ?_
  rw [lc_at (k := 1) (by omega)]
  refine w_aload_n C (i := 0) dL_law_566 rfl rfl ?_
  refine w_iload_n C (i := 3) dL_law_567 rfl rfl ?_
  refine w_iconst C (v := nI 2) dL_law_568 (by decide) ?_
  refine w_iadd C dL_law_569 ?_
  refine w_sld C (lc_in hi hN (by decide)) dL_law_570 ?_
  rw [lc_at (k := 2) (by omega)]
  refine w_call C (d' := 2) k_L_59 dL_law_571 (by decide) rfl rfl rfl (Nat.le_of_ble_eq_true rfl) (Nat.le_of_ble_eq_true rfl) (ok_X11_weighs_67 (Nat.le_refl _) h2) (fun v I' L' hq => ?_)
  obtain ⟨rfl, rfl, rfl⟩ := hq
  simp only [Option.toList_some, Option.toList_none, List.drop_succ_cons, List.drop_zero, List.drop_nil, List.cons_append, List.nil_append]
  refine w_icmpeq C (tgt := 1679) dL_law_574 (by decide) ?_
  exact kk _ _ hrel
/-- the call type: both answer the same, and Rel stays -/
def St_type (Rel : mI → mL → Prop) (I : mI) (L : mL) (a1 : Int32) : Prop := ∃ (v : Int32) (I1 : mI) (L1 : mL) (I2 : mI) (L2 : mL), f_X10_type_0 I L a1 = some (v, I1, L1) ∧ f_X11_type_67 I1 L1 a1 = some (v, I2, L2) ∧ Rel I2 L2
theorem case_11 {p : Program} {l : Launch} {e : Env} {s : State} {m : MethodId} {below : List Frame} {meth : Method} {c : Code} {b N : Nat} {xs : Nat → Int32} {D : va_G} {ad : Nat → Nat} {ca : FieldType → ClassId} (C : LX p s m meth c b N xs D ad ca) (hN : N ≤ 576) {i : Nat} (hi : i + 9 ≤ N) {Rel : mI → mL → Prop} {I : mI} {L : mL} (h : St_type Rel I L (xs (i + 1))) (kk : ∀ I L, Rel I L → WL p l e s m below meth c b D ad ca 1679 [some (.ref 84), some (.ref 0), some (.ref 67), some (.int (nI i))] [] I L) : WL p l e s m below meth c b D ad ca 579 [some (.ref 84), some (.ref 0), some (.ref 67), some (.int (nI i))] [] I L := by
  obtain ⟨v, I1, L1, I2, L2, h1, h2, hrel⟩ := h
  refine w_aload_n C (i := 1) dL_law_579 rfl rfl ?_
  refine w_aload_n C (i := 0) dL_law_580 rfl rfl ?_
  refine w_iload_n C (i := 3) dL_law_581 rfl rfl ?_
  refine w_iconst C (v := nI 1) dL_law_582 (by decide) ?_
  refine w_iadd C dL_law_583 ?_
  refine w_sld C (lc_in hi hN (by decide)) dL_law_584 ?_
  rw [lc_at (k := 1) (by omega)]
  refine w_call C (d' := 1) k_L_60 dL_law_585 (by decide) rfl rfl rfl (Nat.le_of_ble_eq_true rfl) (Nat.le_of_ble_eq_true rfl) (ok_X10_type_0 (Nat.le_refl _) h1) (fun v I' L' hq => ?_)
  obtain ⟨rfl, rfl, rfl⟩ := hq
  simp only [Option.toList_some, Option.toList_none, List.drop_succ_cons, List.drop_zero, List.drop_nil, List.cons_append, List.nil_append]
  refine w_aload_n C (i := 2) dL_law_588 rfl rfl ?_
  refine w_aload_n C (i := 0) dL_law_589 rfl rfl ?_
  refine w_iload_n C (i := 3) dL_law_590 rfl rfl ?_
  refine w_iconst C (v := nI 1) dL_law_591 (by decide) ?_
  refine w_iadd C dL_law_592 ?_
  refine w_sld C (lc_in hi hN (by decide)) dL_law_593 ?_
  rw [lc_at (k := 1) (by omega)]
  refine w_call C (d' := 1) k_L_63 dL_law_594 (by decide) rfl rfl rfl (Nat.le_of_ble_eq_true rfl) (Nat.le_of_ble_eq_true rfl) (ok_X11_type_67 (Nat.le_refl _) h2) (fun v I' L' hq => ?_)
  obtain ⟨rfl, rfl, rfl⟩ := hq
  simp only [Option.toList_some, Option.toList_none, List.drop_succ_cons, List.drop_zero, List.drop_nil, List.cons_append, List.nil_append]
  refine w_icmpeq C (tgt := 1679) dL_law_597 (by decide) ?_
  exact kk _ _ hrel
/-- the call land: both answer the same, and Rel stays -/
def St_land (Rel : mI → mL → Prop) (I : mI) (L : mL) : Prop := ∃ (v : Int32) (I1 : mI) (L1 : mL) (I2 : mI) (L2 : mL), f_X10_land_0 I L = some (v, I1, L1) ∧ f_X11_land_67 I1 L1 = some (v, I2, L2) ∧ Rel I2 L2
theorem case_12 {p : Program} {l : Launch} {e : Env} {s : State} {m : MethodId} {below : List Frame} {meth : Method} {c : Code} {b N : Nat} {xs : Nat → Int32} {D : va_G} {ad : Nat → Nat} {ca : FieldType → ClassId} (C : LX p s m meth c b N xs D ad ca) (hN : N ≤ 576) {i : Nat} (hi : i + 9 ≤ N) {Rel : mI → mL → Prop} {I : mI} {L : mL} (h : St_land Rel I L) (kk : ∀ I L, Rel I L → WL p l e s m below meth c b D ad ca 1679 [some (.ref 84), some (.ref 0), some (.ref 67), some (.int (nI i))] [] I L) : WL p l e s m below meth c b D ad ca 602 [some (.ref 84), some (.ref 0), some (.ref 67), some (.int (nI i))] [] I L := by
  obtain ⟨v, I1, L1, I2, L2, h1, h2, hrel⟩ := h
  refine w_aload_n C (i := 1) dL_law_602 rfl rfl ?_
  refine w_call C (d' := 11) k_L_64 dL_law_603 (by decide) rfl rfl rfl (Nat.le_of_ble_eq_true rfl) (Nat.le_of_ble_eq_true rfl) (ok_X10_land_0 (Nat.le_refl _) h1) (fun v I' L' hq => ?_)
  obtain ⟨rfl, rfl, rfl⟩ := hq
  simp only [Option.toList_some, Option.toList_none, List.drop_succ_cons, List.drop_zero, List.drop_nil, List.cons_append, List.nil_append]
  refine w_aload_n C (i := 2) dL_law_606 rfl rfl ?_
  refine w_call C (d' := 5) k_L_68 dL_law_607 (by decide) rfl rfl rfl (Nat.le_of_ble_eq_true rfl) (Nat.le_of_ble_eq_true rfl) (ok_X11_land_67 (Nat.le_refl _) h2) (fun v I' L' hq => ?_)
  obtain ⟨rfl, rfl, rfl⟩ := hq
  simp only [Option.toList_some, Option.toList_none, List.drop_succ_cons, List.drop_zero, List.drop_nil, List.cons_append, List.nil_append]
  refine w_icmpeq C (tgt := 1679) dL_law_610 (by decide) ?_
  exact kk _ _ hrel
/-- the call count: both answer the same, and Rel stays -/
def St_count (Rel : mI → mL → Prop) (I : mI) (L : mL) (a1 : Int32) : Prop := ∃ (v : Int32), f_X10_count_0 I L a1 = some v ∧ f_X11_count_67 I L a1 = some v ∧ Rel I L
theorem case_13 {p : Program} {l : Launch} {e : Env} {s : State} {m : MethodId} {below : List Frame} {meth : Method} {c : Code} {b N : Nat} {xs : Nat → Int32} {D : va_G} {ad : Nat → Nat} {ca : FieldType → ClassId} (C : LX p s m meth c b N xs D ad ca) (hN : N ≤ 576) {i : Nat} (hi : i + 9 ≤ N) {Rel : mI → mL → Prop} {I : mI} {L : mL} (h : St_count Rel I L (xs (i + 1))) (kk : ∀ I L, Rel I L → WL p l e s m below meth c b D ad ca 1679 [some (.ref 84), some (.ref 0), some (.ref 67), some (.int (nI i))] [] I L) : WL p l e s m below meth c b D ad ca 615 [some (.ref 84), some (.ref 0), some (.ref 67), some (.int (nI i))] [] I L := by
  obtain ⟨v, h1, h2, hrel⟩ := h
  refine w_aload_n C (i := 1) dL_law_615 rfl rfl ?_
  refine w_aload_n C (i := 0) dL_law_616 rfl rfl ?_
  refine w_iload_n C (i := 3) dL_law_617 rfl rfl ?_
  refine w_iconst C (v := nI 1) dL_law_618 (by decide) ?_
  refine w_iadd C dL_law_619 ?_
  refine w_sld C (lc_in hi hN (by decide)) dL_law_620 ?_
  rw [lc_at (k := 1) (by omega)]
  refine w_call C (d' := 2) k_L_69 dL_law_621 (by decide) rfl rfl rfl (Nat.le_of_ble_eq_true rfl) (Nat.le_of_ble_eq_true rfl) (ok_X10_count_0 (Nat.le_refl _) h1) (fun v I' L' hq => ?_)
  obtain ⟨rfl, rfl, rfl⟩ := hq
  simp only [Option.toList_some, Option.toList_none, List.drop_succ_cons, List.drop_zero, List.drop_nil, List.cons_append, List.nil_append]
  refine w_aload_n C (i := 2) dL_law_624 rfl rfl ?_
  refine w_aload_n C (i := 0) dL_law_625 rfl rfl ?_
  refine w_iload_n C (i := 3) dL_law_626 rfl rfl ?_
  refine w_iconst C (v := nI 1) dL_law_627 (by decide) ?_
  refine w_iadd C dL_law_628 ?_
  refine w_sld C (lc_in hi hN (by decide)) dL_law_629 ?_
  rw [lc_at (k := 1) (by omega)]
  refine w_call C (d' := 1) k_L_72 dL_law_630 (by decide) rfl rfl rfl (Nat.le_of_ble_eq_true rfl) (Nat.le_of_ble_eq_true rfl) (ok_X11_count_67 (Nat.le_refl _) h2) (fun v I' L' hq => ?_)
  obtain ⟨rfl, rfl, rfl⟩ := hq
  simp only [Option.toList_some, Option.toList_none, List.drop_succ_cons, List.drop_zero, List.drop_nil, List.cons_append, List.nil_append]
  refine w_icmpeq C (tgt := 1679) dL_law_633 (by decide) ?_
  exact kk _ _ hrel
/-- the call weeks: both answer the same, and Rel stays -/
def St_weeks (Rel : mI → mL → Prop) (I : mI) (L : mL) (a1 : Int32) : Prop := ∃ (v : Int32) (I1 : mI) (L1 : mL) (I2 : mI) (L2 : mL), f_X10_weeks_0 I L a1 = some (v, I1, L1) ∧ f_X11_weeks_67 I1 L1 a1 = some (v, I2, L2) ∧ Rel I2 L2
theorem case_14 {p : Program} {l : Launch} {e : Env} {s : State} {m : MethodId} {below : List Frame} {meth : Method} {c : Code} {b N : Nat} {xs : Nat → Int32} {D : va_G} {ad : Nat → Nat} {ca : FieldType → ClassId} (C : LX p s m meth c b N xs D ad ca) (hN : N ≤ 576) {i : Nat} (hi : i + 9 ≤ N) {Rel : mI → mL → Prop} {I : mI} {L : mL} (h : St_weeks Rel I L (xs (i + 1))) (kk : ∀ I L, Rel I L → WL p l e s m below meth c b D ad ca 1679 [some (.ref 84), some (.ref 0), some (.ref 67), some (.int (nI i))] [] I L) : WL p l e s m below meth c b D ad ca 638 [some (.ref 84), some (.ref 0), some (.ref 67), some (.int (nI i))] [] I L := by
  obtain ⟨v, I1, L1, I2, L2, h1, h2, hrel⟩ := h
  refine w_aload_n C (i := 1) dL_law_638 rfl rfl ?_
  refine w_aload_n C (i := 0) dL_law_639 rfl rfl ?_
  refine w_iload_n C (i := 3) dL_law_640 rfl rfl ?_
  refine w_iconst C (v := nI 1) dL_law_641 (by decide) ?_
  refine w_iadd C dL_law_642 ?_
  refine w_sld C (lc_in hi hN (by decide)) dL_law_643 ?_
  rw [lc_at (k := 1) (by omega)]
  refine w_call C (d' := 5) k_L_73 dL_law_644 (by decide) rfl rfl rfl (Nat.le_of_ble_eq_true rfl) (Nat.le_of_ble_eq_true rfl) (ok_X10_weeks_0 (Nat.le_refl _) h1) (fun v I' L' hq => ?_)
  obtain ⟨rfl, rfl, rfl⟩ := hq
  simp only [Option.toList_some, Option.toList_none, List.drop_succ_cons, List.drop_zero, List.drop_nil, List.cons_append, List.nil_append]
  refine w_aload_n C (i := 2) dL_law_647 rfl rfl ?_
  refine w_aload_n C (i := 0) dL_law_648 rfl rfl ?_
  refine w_iload_n C (i := 3) dL_law_649 rfl rfl ?_
  refine w_iconst C (v := nI 1) dL_law_650 (by decide) ?_
  refine w_iadd C dL_law_651 ?_
  refine w_sld C (lc_in hi hN (by decide)) dL_law_652 ?_
  rw [lc_at (k := 1) (by omega)]
  refine w_call C (d' := 3) k_L_76 dL_law_653 (by decide) rfl rfl rfl (Nat.le_of_ble_eq_true rfl) (Nat.le_of_ble_eq_true rfl) (ok_X11_weeks_67 (Nat.le_refl _) h2) (fun v I' L' hq => ?_)
  obtain ⟨rfl, rfl, rfl⟩ := hq
  simp only [Option.toList_some, Option.toList_none, List.drop_succ_cons, List.drop_zero, List.drop_nil, List.cons_append, List.nil_append]
  refine w_icmpeq C (tgt := 1679) dL_law_656 (by decide) ?_
  exact kk _ _ hrel
/-- the call way: both answer the same, and Rel stays -/
def St_way (Rel : mI → mL → Prop) (I : mI) (L : mL) (a1 : Int32) (a2 : Int32) (a3 : Int32) (a4 : Int32) (a5 : Int32) : Prop := ∃ (v : Int32) (I1 : mI) (L1 : mL) (I2 : mI) (L2 : mL), f_X10_way_0 I L a1 a2 a3 a4 a5 = some (v, I1, L1) ∧ f_X11_way_67 I1 L1 a1 a2 a3 a4 a5 = some (v, I2, L2) ∧ Rel I2 L2
theorem case_15 {p : Program} {l : Launch} {e : Env} {s : State} {m : MethodId} {below : List Frame} {meth : Method} {c : Code} {b N : Nat} {xs : Nat → Int32} {D : va_G} {ad : Nat → Nat} {ca : FieldType → ClassId} (C : LX p s m meth c b N xs D ad ca) (hN : N ≤ 576) {i : Nat} (hi : i + 9 ≤ N) {Rel : mI → mL → Prop} {I : mI} {L : mL} (h : St_way Rel I L (xs (i + 1)) (xs (i + 2)) (xs (i + 3)) (xs (i + 4)) (xs (i + 5))) (kk : ∀ I L, Rel I L → WL p l e s m below meth c b D ad ca 1679 [some (.ref 84), some (.ref 0), some (.ref 67), some (.int (nI i))] [] I L) : WL p l e s m below meth c b D ad ca 661 [some (.ref 84), some (.ref 0), some (.ref 67), some (.int (nI i))] [] I L := by
  obtain ⟨v, I1, L1, I2, L2, h1, h2, hrel⟩ := h
  refine w_aload_n C (i := 1) dL_law_661 rfl rfl ?_
  refine w_aload_n C (i := 0) dL_law_662 rfl rfl ?_
  refine w_iload_n C (i := 3) dL_law_663 rfl rfl ?_
  refine w_iconst C (v := nI 1) dL_law_664 (by decide) ?_
  refine w_iadd C dL_law_665 ?_
  refine w_sld C (lc_in hi hN (by decide)) dL_law_666 ?_
  rw [lc_at (k := 1) (by omega)]
  refine w_aload_n C (i := 0) dL_law_667 rfl rfl ?_
  refine w_iload_n C (i := 3) dL_law_668 rfl rfl ?_
  refine w_iconst C (v := nI 2) dL_law_669 (by decide) ?_
  refine w_iadd C dL_law_670 ?_
  refine w_sld C (lc_in hi hN (by decide)) dL_law_671 ?_
  rw [lc_at (k := 2) (by omega)]
  refine w_aload_n C (i := 0) dL_law_672 rfl rfl ?_
  refine w_iload_n C (i := 3) dL_law_673 rfl rfl ?_
  refine w_iconst C (v := nI 3) dL_law_674 (by decide) ?_
  refine w_iadd C dL_law_675 ?_
  refine w_sld C (lc_in hi hN (by decide)) dL_law_676 ?_
  rw [lc_at (k := 3) (by omega)]
  refine w_aload_n C (i := 0) dL_law_677 rfl rfl ?_
  refine w_iload_n C (i := 3) dL_law_678 rfl rfl ?_
  refine w_iconst C (v := nI 4) dL_law_679 (by decide) ?_
  refine w_iadd C dL_law_680 ?_
  refine w_sld C (lc_in hi hN (by decide)) dL_law_681 ?_
  rw [lc_at (k := 4) (by omega)]
  refine w_aload_n C (i := 0) dL_law_682 rfl rfl ?_
  refine w_iload_n C (i := 3) dL_law_683 rfl rfl ?_
  refine w_iconst C (v := nI 5) dL_law_684 (by decide) ?_
  refine w_iadd C dL_law_685 ?_
  refine w_sld C (lc_in hi hN (by decide)) dL_law_686 ?_
  rw [lc_at (k := 5) (by omega)]
  refine w_call C (d' := 5) k_L_77 dL_law_687 (by decide) rfl rfl rfl (Nat.le_of_ble_eq_true rfl) (Nat.le_of_ble_eq_true rfl) (ok_X10_way_0 (Nat.le_refl _) h1) (fun v I' L' hq => ?_)
  obtain ⟨rfl, rfl, rfl⟩ := hq
  simp only [Option.toList_some, Option.toList_none, List.drop_succ_cons, List.drop_zero, List.drop_nil, List.cons_append, List.nil_append]
  refine w_aload_n C (i := 2) dL_law_690 rfl rfl ?_
  refine w_aload_n C (i := 0) dL_law_691 rfl rfl ?_
  refine w_iload_n C (i := 3) dL_law_692 rfl rfl ?_
  refine w_iconst C (v := nI 1) dL_law_693 (by decide) ?_
  refine w_iadd C dL_law_694 ?_
  refine w_sld C (lc_in hi hN (by decide)) dL_law_695 ?_
  rw [lc_at (k := 1) (by omega)]
  refine w_aload_n C (i := 0) dL_law_696 rfl rfl ?_
  refine w_iload_n C (i := 3) dL_law_697 rfl rfl ?_
  refine w_iconst C (v := nI 2) dL_law_698 (by decide) ?_
  refine w_iadd C dL_law_699 ?_
  refine w_sld C (lc_in hi hN (by decide)) dL_law_700 ?_
  rw [lc_at (k := 2) (by omega)]
  refine w_aload_n C (i := 0) dL_law_701 rfl rfl ?_
  refine w_iload_n C (i := 3) dL_law_702 rfl rfl ?_
  refine w_iconst C (v := nI 3) dL_law_703 (by decide) ?_
  refine w_iadd C dL_law_704 ?_
  refine w_sld C (lc_in hi hN (by decide)) dL_law_705 ?_
  rw [lc_at (k := 3) (by omega)]
  refine w_aload_n C (i := 0) dL_law_706 rfl rfl ?_
  refine w_iload_n C (i := 3) dL_law_707 rfl rfl ?_
  refine w_iconst C (v := nI 4) dL_law_708 (by decide) ?_
  refine w_iadd C dL_law_709 ?_
  refine w_sld C (lc_in hi hN (by decide)) dL_law_710 ?_
  rw [lc_at (k := 4) (by omega)]
  refine w_aload_n C (i := 0) dL_law_711 rfl rfl ?_
  refine w_iload_n C (i := 3) dL_law_712 rfl rfl ?_
  refine w_iconst C (v := nI 5) dL_law_713 (by decide) ?_
  refine w_iadd C dL_law_714 ?_
  refine w_sld C (lc_in hi hN (by decide)) dL_law_715 ?_
  rw [lc_at (k := 5) (by omega)]
  refine w_call C (d' := 4) k_L_81 dL_law_716 (by decide) rfl rfl rfl (Nat.le_of_ble_eq_true rfl) (Nat.le_of_ble_eq_true rfl) (ok_X11_way_67 (Nat.le_refl _) h2) (fun v I' L' hq => ?_)
  obtain ⟨rfl, rfl, rfl⟩ := hq
  simp only [Option.toList_some, Option.toList_none, List.drop_succ_cons, List.drop_zero, List.drop_nil, List.cons_append, List.nil_append]
  refine w_icmpeq C (tgt := 1679) dL_law_719 (by decide) ?_
  exact kk _ _ hrel
/-- the call net: both answer the same, and Rel stays -/
def St_net (Rel : mI → mL → Prop) (I : mI) (L : mL) (a1 : Int32) (a2 : Int32) (a3 : Int32) : Prop := ∃ (v : Int32) (I1 : mI) (L1 : mL) (I2 : mI) (L2 : mL), f_X10_net_0 I L a1 a2 a3 = some (v, I1, L1) ∧ f_X11_net_67 I1 L1 a1 a2 a3 = some (v, I2, L2) ∧ Rel I2 L2
theorem case_16 {p : Program} {l : Launch} {e : Env} {s : State} {m : MethodId} {below : List Frame} {meth : Method} {c : Code} {b N : Nat} {xs : Nat → Int32} {D : va_G} {ad : Nat → Nat} {ca : FieldType → ClassId} (C : LX p s m meth c b N xs D ad ca) (hN : N ≤ 576) {i : Nat} (hi : i + 9 ≤ N) {Rel : mI → mL → Prop} {I : mI} {L : mL} (h : St_net Rel I L (xs (i + 1)) (xs (i + 2)) (xs (i + 3))) (kk : ∀ I L, Rel I L → WL p l e s m below meth c b D ad ca 1679 [some (.ref 84), some (.ref 0), some (.ref 67), some (.int (nI i))] [] I L) : WL p l e s m below meth c b D ad ca 724 [some (.ref 84), some (.ref 0), some (.ref 67), some (.int (nI i))] [] I L := by
  obtain ⟨v, I1, L1, I2, L2, h1, h2, hrel⟩ := h
  refine w_aload_n C (i := 1) dL_law_724 rfl rfl ?_
  refine w_aload_n C (i := 0) dL_law_725 rfl rfl ?_
  refine w_iload_n C (i := 3) dL_law_726 rfl rfl ?_
  refine w_iconst C (v := nI 1) dL_law_727 (by decide) ?_
  refine w_iadd C dL_law_728 ?_
  refine w_sld C (lc_in hi hN (by decide)) dL_law_729 ?_
  rw [lc_at (k := 1) (by omega)]
  refine w_aload_n C (i := 0) dL_law_730 rfl rfl ?_
  refine w_iload_n C (i := 3) dL_law_731 rfl rfl ?_
  refine w_iconst C (v := nI 2) dL_law_732 (by decide) ?_
  refine w_iadd C dL_law_733 ?_
  refine w_sld C (lc_in hi hN (by decide)) dL_law_734 ?_
  rw [lc_at (k := 2) (by omega)]
  refine w_aload_n C (i := 0) dL_law_735 rfl rfl ?_
  refine w_iload_n C (i := 3) dL_law_736 rfl rfl ?_
  refine w_iconst C (v := nI 3) dL_law_737 (by decide) ?_
  refine w_iadd C dL_law_738 ?_
  refine w_sld C (lc_in hi hN (by decide)) dL_law_739 ?_
  rw [lc_at (k := 3) (by omega)]
  refine w_call C (d' := 4) k_L_82 dL_law_740 (by decide) rfl rfl rfl (Nat.le_of_ble_eq_true rfl) (Nat.le_of_ble_eq_true rfl) (ok_X10_net_0 (Nat.le_refl _) h1) (fun v I' L' hq => ?_)
  obtain ⟨rfl, rfl, rfl⟩ := hq
  simp only [Option.toList_some, Option.toList_none, List.drop_succ_cons, List.drop_zero, List.drop_nil, List.cons_append, List.nil_append]
  refine w_aload_n C (i := 2) dL_law_743 rfl rfl ?_
  refine w_aload_n C (i := 0) dL_law_744 rfl rfl ?_
  refine w_iload_n C (i := 3) dL_law_745 rfl rfl ?_
  refine w_iconst C (v := nI 1) dL_law_746 (by decide) ?_
  refine w_iadd C dL_law_747 ?_
  refine w_sld C (lc_in hi hN (by decide)) dL_law_748 ?_
  rw [lc_at (k := 1) (by omega)]
  refine w_aload_n C (i := 0) dL_law_749 rfl rfl ?_
  refine w_iload_n C (i := 3) dL_law_750 rfl rfl ?_
  refine w_iconst C (v := nI 2) dL_law_751 (by decide) ?_
  refine w_iadd C dL_law_752 ?_
  refine w_sld C (lc_in hi hN (by decide)) dL_law_753 ?_
  rw [lc_at (k := 2) (by omega)]
  refine w_aload_n C (i := 0) dL_law_754 rfl rfl ?_
  refine w_iload_n C (i := 3) dL_law_755 rfl rfl ?_
  refine w_iconst C (v := nI 3) dL_law_756 (by decide) ?_
  refine w_iadd C dL_law_757 ?_
  refine w_sld C (lc_in hi hN (by decide)) dL_law_758 ?_
  rw [lc_at (k := 3) (by omega)]
  refine w_call C (d' := 4) k_L_85 dL_law_759 (by decide) rfl rfl rfl (Nat.le_of_ble_eq_true rfl) (Nat.le_of_ble_eq_true rfl) (ok_X11_net_67 (Nat.le_refl _) h2) (fun v I' L' hq => ?_)
  obtain ⟨rfl, rfl, rfl⟩ := hq
  simp only [Option.toList_some, Option.toList_none, List.drop_succ_cons, List.drop_zero, List.drop_nil, List.cons_append, List.nil_append]
  refine w_icmpeq C (tgt := 1679) dL_law_762 (by decide) ?_
  exact kk _ _ hrel
/-- the call market: both answer the same, and Rel stays -/
def St_market (Rel : mI → mL → Prop) (I : mI) (L : mL) (a1 : Int32) (a2 : Int32) : Prop := ∃ (v : Int32) (I1 : mI) (L1 : mL) (I2 : mI) (L2 : mL), f_X10_market_0 I L a1 a2 = some (v, I1, L1) ∧ f_X11_market_67 I1 L1 a1 a2 = some (v, I2, L2) ∧ Rel I2 L2
theorem case_17 {p : Program} {l : Launch} {e : Env} {s : State} {m : MethodId} {below : List Frame} {meth : Method} {c : Code} {b N : Nat} {xs : Nat → Int32} {D : va_G} {ad : Nat → Nat} {ca : FieldType → ClassId} (C : LX p s m meth c b N xs D ad ca) (hN : N ≤ 576) {i : Nat} (hi : i + 9 ≤ N) {Rel : mI → mL → Prop} {I : mI} {L : mL} (h : St_market Rel I L (xs (i + 1)) (xs (i + 2))) (kk : ∀ I L, Rel I L → WL p l e s m below meth c b D ad ca 1679 [some (.ref 84), some (.ref 0), some (.ref 67), some (.int (nI i))] [] I L) : WL p l e s m below meth c b D ad ca 767 [some (.ref 84), some (.ref 0), some (.ref 67), some (.int (nI i))] [] I L := by
  obtain ⟨v, I1, L1, I2, L2, h1, h2, hrel⟩ := h
  refine w_aload_n C (i := 1) dL_law_767 rfl rfl ?_
  refine w_aload_n C (i := 0) dL_law_768 rfl rfl ?_
  refine w_iload_n C (i := 3) dL_law_769 rfl rfl ?_
  refine w_iconst C (v := nI 1) dL_law_770 (by decide) ?_
  refine w_iadd C dL_law_771 ?_
  refine w_sld C (lc_in hi hN (by decide)) dL_law_772 ?_
  rw [lc_at (k := 1) (by omega)]
  refine w_aload_n C (i := 0) dL_law_773 rfl rfl ?_
  refine w_iload_n C (i := 3) dL_law_774 rfl rfl ?_
  refine w_iconst C (v := nI 2) dL_law_775 (by decide) ?_
  refine w_iadd C dL_law_776 ?_
  refine w_sld C (lc_in hi hN (by decide)) dL_law_777 ?_
  rw [lc_at (k := 2) (by omega)]
  refine w_call C (d' := 5) k_L_86 dL_law_778 (by decide) rfl rfl rfl (Nat.le_of_ble_eq_true rfl) (Nat.le_of_ble_eq_true rfl) (ok_X10_market_0 (Nat.le_refl _) h1) (fun v I' L' hq => ?_)
  obtain ⟨rfl, rfl, rfl⟩ := hq
  simp only [Option.toList_some, Option.toList_none, List.drop_succ_cons, List.drop_zero, List.drop_nil, List.cons_append, List.nil_append]
  refine w_aload_n C (i := 2) dL_law_781 rfl rfl ?_
  refine w_aload_n C (i := 0) dL_law_782 rfl rfl ?_
  refine w_iload_n C (i := 3) dL_law_783 rfl rfl ?_
  refine w_iconst C (v := nI 1) dL_law_784 (by decide) ?_
  refine w_iadd C dL_law_785 ?_
  refine w_sld C (lc_in hi hN (by decide)) dL_law_786 ?_
  rw [lc_at (k := 1) (by omega)]
  refine w_aload_n C (i := 0) dL_law_787 rfl rfl ?_
  refine w_iload_n C (i := 3) dL_law_788 rfl rfl ?_
  refine w_iconst C (v := nI 2) dL_law_789 (by decide) ?_
  refine w_iadd C dL_law_790 ?_
  refine w_sld C (lc_in hi hN (by decide)) dL_law_791 ?_
  rw [lc_at (k := 2) (by omega)]
  refine w_call C (d' := 5) k_L_89 dL_law_792 (by decide) rfl rfl rfl (Nat.le_of_ble_eq_true rfl) (Nat.le_of_ble_eq_true rfl) (ok_X11_market_67 (Nat.le_refl _) h2) (fun v I' L' hq => ?_)
  obtain ⟨rfl, rfl, rfl⟩ := hq
  simp only [Option.toList_some, Option.toList_none, List.drop_succ_cons, List.drop_zero, List.drop_nil, List.cons_append, List.nil_append]
  refine w_icmpeq C (tgt := 1679) dL_law_795 (by decide) ?_
  exact kk _ _ hrel
/-- the call trade: both answer the same, and Rel stays -/
def St_trade (Rel : mI → mL → Prop) (I : mI) (L : mL) (a1 : Int32) (a2 : Int32) (a3 : Int32) : Prop := ∃ (v : Int32) (I1 : mI) (L1 : mL) (I2 : mI) (L2 : mL), f_X10_trade_0 I L a1 a2 a3 = some (v, I1, L1) ∧ f_X11_trade_67 I1 L1 a1 a2 a3 = some (v, I2, L2) ∧ Rel I2 L2
theorem case_18 {p : Program} {l : Launch} {e : Env} {s : State} {m : MethodId} {below : List Frame} {meth : Method} {c : Code} {b N : Nat} {xs : Nat → Int32} {D : va_G} {ad : Nat → Nat} {ca : FieldType → ClassId} (C : LX p s m meth c b N xs D ad ca) (hN : N ≤ 576) {i : Nat} (hi : i + 9 ≤ N) {Rel : mI → mL → Prop} {I : mI} {L : mL} (h : St_trade Rel I L (xs (i + 1)) (xs (i + 2)) (xs (i + 3))) (kk : ∀ I L, Rel I L → WL p l e s m below meth c b D ad ca 1679 [some (.ref 84), some (.ref 0), some (.ref 67), some (.int (nI i))] [] I L) : WL p l e s m below meth c b D ad ca 800 [some (.ref 84), some (.ref 0), some (.ref 67), some (.int (nI i))] [] I L := by
  obtain ⟨v, I1, L1, I2, L2, h1, h2, hrel⟩ := h
  refine w_aload_n C (i := 1) dL_law_800 rfl rfl ?_
  refine w_aload_n C (i := 0) dL_law_801 rfl rfl ?_
  refine w_iload_n C (i := 3) dL_law_802 rfl rfl ?_
  refine w_iconst C (v := nI 1) dL_law_803 (by decide) ?_
  refine w_iadd C dL_law_804 ?_
  refine w_sld C (lc_in hi hN (by decide)) dL_law_805 ?_
  rw [lc_at (k := 1) (by omega)]
  refine w_aload_n C (i := 0) dL_law_806 rfl rfl ?_
  refine w_iload_n C (i := 3) dL_law_807 rfl rfl ?_
  refine w_iconst C (v := nI 2) dL_law_808 (by decide) ?_
  refine w_iadd C dL_law_809 ?_
  refine w_sld C (lc_in hi hN (by decide)) dL_law_810 ?_
  rw [lc_at (k := 2) (by omega)]
  refine w_aload_n C (i := 0) dL_law_811 rfl rfl ?_
  refine w_iload_n C (i := 3) dL_law_812 rfl rfl ?_
  refine w_iconst C (v := nI 3) dL_law_813 (by decide) ?_
  refine w_iadd C dL_law_814 ?_
  refine w_sld C (lc_in hi hN (by decide)) dL_law_815 ?_
  rw [lc_at (k := 3) (by omega)]
  refine w_call C (d' := 6) k_L_90 dL_law_816 (by decide) rfl rfl rfl (Nat.le_of_ble_eq_true rfl) (Nat.le_of_ble_eq_true rfl) (ok_X10_trade_0 (Nat.le_refl _) h1) (fun v I' L' hq => ?_)
  obtain ⟨rfl, rfl, rfl⟩ := hq
  simp only [Option.toList_some, Option.toList_none, List.drop_succ_cons, List.drop_zero, List.drop_nil, List.cons_append, List.nil_append]
  refine w_aload_n C (i := 2) dL_law_819 rfl rfl ?_
  refine w_aload_n C (i := 0) dL_law_820 rfl rfl ?_
  refine w_iload_n C (i := 3) dL_law_821 rfl rfl ?_
  refine w_iconst C (v := nI 1) dL_law_822 (by decide) ?_
  refine w_iadd C dL_law_823 ?_
  refine w_sld C (lc_in hi hN (by decide)) dL_law_824 ?_
  rw [lc_at (k := 1) (by omega)]
  refine w_aload_n C (i := 0) dL_law_825 rfl rfl ?_
  refine w_iload_n C (i := 3) dL_law_826 rfl rfl ?_
  refine w_iconst C (v := nI 2) dL_law_827 (by decide) ?_
  refine w_iadd C dL_law_828 ?_
  refine w_sld C (lc_in hi hN (by decide)) dL_law_829 ?_
  rw [lc_at (k := 2) (by omega)]
  refine w_aload_n C (i := 0) dL_law_830 rfl rfl ?_
  refine w_iload_n C (i := 3) dL_law_831 rfl rfl ?_
  refine w_iconst C (v := nI 3) dL_law_832 (by decide) ?_
  refine w_iadd C dL_law_833 ?_
  refine w_sld C (lc_in hi hN (by decide)) dL_law_834 ?_
  rw [lc_at (k := 3) (by omega)]
  refine w_call C (d' := 4) k_L_93 dL_law_835 (by decide) rfl rfl rfl (Nat.le_of_ble_eq_true rfl) (Nat.le_of_ble_eq_true rfl) (ok_X11_trade_67 (Nat.le_refl _) h2) (fun v I' L' hq => ?_)
  obtain ⟨rfl, rfl, rfl⟩ := hq
  simp only [Option.toList_some, Option.toList_none, List.drop_succ_cons, List.drop_zero, List.drop_nil, List.cons_append, List.nil_append]
  refine w_icmpeq C (tgt := 1679) dL_law_838 (by decide) ?_
  exact kk _ _ hrel
/-- the call scales: both answer the same, and Rel stays -/
def St_scales (Rel : mI → mL → Prop) (I : mI) (L : mL) (a1 : Int32) (a2 : Int32) : Prop := ∃ (v : Int32) (I1 : mI) (L1 : mL) (I2 : mI) (L2 : mL), f_X10_scales_0 I L a1 a2 = some (v, I1, L1) ∧ f_X11_scales_67 I1 L1 a1 a2 = some (v, I2, L2) ∧ Rel I2 L2
theorem case_19 {p : Program} {l : Launch} {e : Env} {s : State} {m : MethodId} {below : List Frame} {meth : Method} {c : Code} {b N : Nat} {xs : Nat → Int32} {D : va_G} {ad : Nat → Nat} {ca : FieldType → ClassId} (C : LX p s m meth c b N xs D ad ca) (hN : N ≤ 576) {i : Nat} (hi : i + 9 ≤ N) {Rel : mI → mL → Prop} {I : mI} {L : mL} (h : St_scales Rel I L (xs (i + 1)) (xs (i + 2))) (kk : ∀ I L, Rel I L → WL p l e s m below meth c b D ad ca 1679 [some (.ref 84), some (.ref 0), some (.ref 67), some (.int (nI i))] [] I L) : WL p l e s m below meth c b D ad ca 843 [some (.ref 84), some (.ref 0), some (.ref 67), some (.int (nI i))] [] I L := by
  obtain ⟨v, I1, L1, I2, L2, h1, h2, hrel⟩ := h
  refine w_aload_n C (i := 1) dL_law_843 rfl rfl ?_
  refine w_aload_n C (i := 0) dL_law_844 rfl rfl ?_
  refine w_iload_n C (i := 3) dL_law_845 rfl rfl ?_
  refine w_iconst C (v := nI 1) dL_law_846 (by decide) ?_
  refine w_iadd C dL_law_847 ?_
  refine w_sld C (lc_in hi hN (by decide)) dL_law_848 ?_
  rw [lc_at (k := 1) (by omega)]
  refine w_aload_n C (i := 0) dL_law_849 rfl rfl ?_
  refine w_iload_n C (i := 3) dL_law_850 rfl rfl ?_
  refine w_iconst C (v := nI 2) dL_law_851 (by decide) ?_
  refine w_iadd C dL_law_852 ?_
  refine w_sld C (lc_in hi hN (by decide)) dL_law_853 ?_
  rw [lc_at (k := 2) (by omega)]
  refine w_call C (d' := 6) k_L_94 dL_law_854 (by decide) rfl rfl rfl (Nat.le_of_ble_eq_true rfl) (Nat.le_of_ble_eq_true rfl) (ok_X10_scales_0 (Nat.le_refl _) h1) (fun v I' L' hq => ?_)
  obtain ⟨rfl, rfl, rfl⟩ := hq
  simp only [Option.toList_some, Option.toList_none, List.drop_succ_cons, List.drop_zero, List.drop_nil, List.cons_append, List.nil_append]
  refine w_aload_n C (i := 2) dL_law_857 rfl rfl ?_
  refine w_aload_n C (i := 0) dL_law_858 rfl rfl ?_
  refine w_iload_n C (i := 3) dL_law_859 rfl rfl ?_
  refine w_iconst C (v := nI 1) dL_law_860 (by decide) ?_
  refine w_iadd C dL_law_861 ?_
  refine w_sld C (lc_in hi hN (by decide)) dL_law_862 ?_
  rw [lc_at (k := 1) (by omega)]
  refine w_aload_n C (i := 0) dL_law_863 rfl rfl ?_
  refine w_iload_n C (i := 3) dL_law_864 rfl rfl ?_
  refine w_iconst C (v := nI 2) dL_law_865 (by decide) ?_
  refine w_iadd C dL_law_866 ?_
  refine w_sld C (lc_in hi hN (by decide)) dL_law_867 ?_
  rw [lc_at (k := 2) (by omega)]
  refine w_call C (d' := 4) k_L_97 dL_law_868 (by decide) rfl rfl rfl (Nat.le_of_ble_eq_true rfl) (Nat.le_of_ble_eq_true rfl) (ok_X11_scales_67 (Nat.le_refl _) h2) (fun v I' L' hq => ?_)
  obtain ⟨rfl, rfl, rfl⟩ := hq
  simp only [Option.toList_some, Option.toList_none, List.drop_succ_cons, List.drop_zero, List.drop_nil, List.cons_append, List.nil_append]
  refine w_icmpeq C (tgt := 1679) dL_law_871 (by decide) ?_
  exact kk _ _ hrel
/-- the call take: both answer the same, and Rel stays -/
def St_take (Rel : mI → mL → Prop) (I : mI) (L : mL) (a1 : Int32) (a2 : Int32) : Prop := ∃ (v : Int32) (I1 : mI) (L1 : mL) (I2 : mI) (L2 : mL), f_X10_take_0 I L a1 a2 = some (v, I1, L1) ∧ f_X11_take_67 I1 L1 a1 a2 = some (v, I2, L2) ∧ Rel I2 L2
theorem case_20 {p : Program} {l : Launch} {e : Env} {s : State} {m : MethodId} {below : List Frame} {meth : Method} {c : Code} {b N : Nat} {xs : Nat → Int32} {D : va_G} {ad : Nat → Nat} {ca : FieldType → ClassId} (C : LX p s m meth c b N xs D ad ca) (hN : N ≤ 576) {i : Nat} (hi : i + 9 ≤ N) {Rel : mI → mL → Prop} {I : mI} {L : mL} (h : St_take Rel I L (xs (i + 1)) (xs (i + 2))) (kk : ∀ I L, Rel I L → WL p l e s m below meth c b D ad ca 1679 [some (.ref 84), some (.ref 0), some (.ref 67), some (.int (nI i))] [] I L) : WL p l e s m below meth c b D ad ca 876 [some (.ref 84), some (.ref 0), some (.ref 67), some (.int (nI i))] [] I L := by
  obtain ⟨v, I1, L1, I2, L2, h1, h2, hrel⟩ := h
  refine w_aload_n C (i := 1) dL_law_876 rfl rfl ?_
  refine w_aload_n C (i := 0) dL_law_877 rfl rfl ?_
  refine w_iload_n C (i := 3) dL_law_878 rfl rfl ?_
  refine w_iconst C (v := nI 1) dL_law_879 (by decide) ?_
  refine w_iadd C dL_law_880 ?_
  refine w_sld C (lc_in hi hN (by decide)) dL_law_881 ?_
  rw [lc_at (k := 1) (by omega)]
  refine w_aload_n C (i := 0) dL_law_882 rfl rfl ?_
  refine w_iload_n C (i := 3) dL_law_883 rfl rfl ?_
  refine w_iconst C (v := nI 2) dL_law_884 (by decide) ?_
  refine w_iadd C dL_law_885 ?_
  refine w_sld C (lc_in hi hN (by decide)) dL_law_886 ?_
  rw [lc_at (k := 2) (by omega)]
  refine w_call C (d' := 6) k_L_98 dL_law_887 (by decide) rfl rfl rfl (Nat.le_of_ble_eq_true rfl) (Nat.le_of_ble_eq_true rfl) (ok_X10_take_0 (Nat.le_refl _) h1) (fun v I' L' hq => ?_)
  obtain ⟨rfl, rfl, rfl⟩ := hq
  simp only [Option.toList_some, Option.toList_none, List.drop_succ_cons, List.drop_zero, List.drop_nil, List.cons_append, List.nil_append]
  refine w_aload_n C (i := 2) dL_law_890 rfl rfl ?_
  refine w_aload_n C (i := 0) dL_law_891 rfl rfl ?_
  refine w_iload_n C (i := 3) dL_law_892 rfl rfl ?_
  refine w_iconst C (v := nI 1) dL_law_893 (by decide) ?_
  refine w_iadd C dL_law_894 ?_
  refine w_sld C (lc_in hi hN (by decide)) dL_law_895 ?_
  rw [lc_at (k := 1) (by omega)]
  refine w_aload_n C (i := 0) dL_law_896 rfl rfl ?_
  refine w_iload_n C (i := 3) dL_law_897 rfl rfl ?_
  refine w_iconst C (v := nI 2) dL_law_898 (by decide) ?_
  refine w_iadd C dL_law_899 ?_
  refine w_sld C (lc_in hi hN (by decide)) dL_law_900 ?_
  rw [lc_at (k := 2) (by omega)]
  refine w_call C (d' := 6) k_L_101 dL_law_901 (by decide) rfl rfl rfl (Nat.le_of_ble_eq_true rfl) (Nat.le_of_ble_eq_true rfl) (ok_X11_take_67 (Nat.le_refl _) h2) (fun v I' L' hq => ?_)
  obtain ⟨rfl, rfl, rfl⟩ := hq
  simp only [Option.toList_some, Option.toList_none, List.drop_succ_cons, List.drop_zero, List.drop_nil, List.cons_append, List.nil_append]
  refine w_icmpeq C (tgt := 1679) dL_law_904 (by decide) ?_
  exact kk _ _ hrel
/-- the call councils: both answer the same, and Rel stays -/
def St_councils (Rel : mI → mL → Prop) (I : mI) (L : mL) (a1 : Int32) (a2 : Int32) (a3 : Int32) (a4 : Int32) : Prop := ∃ (v : Int32) (I1 : mI) (L1 : mL) (I2 : mI) (L2 : mL), f_X10_councils_0 I L a1 a2 a3 a4 = some (v, I1, L1) ∧ f_X11_councils_67 I1 L1 a1 a2 a3 a4 = some (v, I2, L2) ∧ Rel I2 L2
theorem case_21 {p : Program} {l : Launch} {e : Env} {s : State} {m : MethodId} {below : List Frame} {meth : Method} {c : Code} {b N : Nat} {xs : Nat → Int32} {D : va_G} {ad : Nat → Nat} {ca : FieldType → ClassId} (C : LX p s m meth c b N xs D ad ca) (hN : N ≤ 576) {i : Nat} (hi : i + 9 ≤ N) {Rel : mI → mL → Prop} {I : mI} {L : mL} (h : St_councils Rel I L (xs (i + 1)) (xs (i + 2)) (xs (i + 3)) (xs (i + 4))) (kk : ∀ I L, Rel I L → WL p l e s m below meth c b D ad ca 1679 [some (.ref 84), some (.ref 0), some (.ref 67), some (.int (nI i))] [] I L) : WL p l e s m below meth c b D ad ca 909 [some (.ref 84), some (.ref 0), some (.ref 67), some (.int (nI i))] [] I L := by
  obtain ⟨v, I1, L1, I2, L2, h1, h2, hrel⟩ := h
  refine w_aload_n C (i := 1) dL_law_909 rfl rfl ?_
  refine w_aload_n C (i := 0) dL_law_910 rfl rfl ?_
  refine w_iload_n C (i := 3) dL_law_911 rfl rfl ?_
  refine w_iconst C (v := nI 1) dL_law_912 (by decide) ?_
  refine w_iadd C dL_law_913 ?_
  refine w_sld C (lc_in hi hN (by decide)) dL_law_914 ?_
  rw [lc_at (k := 1) (by omega)]
  refine w_aload_n C (i := 0) dL_law_915 rfl rfl ?_
  refine w_iload_n C (i := 3) dL_law_916 rfl rfl ?_
  refine w_iconst C (v := nI 2) dL_law_917 (by decide) ?_
  refine w_iadd C dL_law_918 ?_
  refine w_sld C (lc_in hi hN (by decide)) dL_law_919 ?_
  rw [lc_at (k := 2) (by omega)]
  refine w_aload_n C (i := 0) dL_law_920 rfl rfl ?_
  refine w_iload_n C (i := 3) dL_law_921 rfl rfl ?_
  refine w_iconst C (v := nI 3) dL_law_922 (by decide) ?_
  refine w_iadd C dL_law_923 ?_
  refine w_sld C (lc_in hi hN (by decide)) dL_law_924 ?_
  rw [lc_at (k := 3) (by omega)]
  refine w_aload_n C (i := 0) dL_law_925 rfl rfl ?_
  refine w_iload_n C (i := 3) dL_law_926 rfl rfl ?_
  refine w_iconst C (v := nI 4) dL_law_927 (by decide) ?_
  refine w_iadd C dL_law_928 ?_
  refine w_sld C (lc_in hi hN (by decide)) dL_law_929 ?_
  rw [lc_at (k := 4) (by omega)]
  refine w_call C (d' := 6) k_L_102 dL_law_930 (by decide) rfl rfl rfl (Nat.le_of_ble_eq_true rfl) (Nat.le_of_ble_eq_true rfl) (ok_X10_councils_0 (Nat.le_refl _) h1) (fun v I' L' hq => ?_)
  obtain ⟨rfl, rfl, rfl⟩ := hq
  simp only [Option.toList_some, Option.toList_none, List.drop_succ_cons, List.drop_zero, List.drop_nil, List.cons_append, List.nil_append]
  refine w_aload_n C (i := 2) dL_law_933 rfl rfl ?_
  refine w_aload_n C (i := 0) dL_law_934 rfl rfl ?_
  refine w_iload_n C (i := 3) dL_law_935 rfl rfl ?_
  refine w_iconst C (v := nI 1) dL_law_936 (by decide) ?_
  refine w_iadd C dL_law_937 ?_
  refine w_sld C (lc_in hi hN (by decide)) dL_law_938 ?_
  rw [lc_at (k := 1) (by omega)]
  refine w_aload_n C (i := 0) dL_law_939 rfl rfl ?_
  refine w_iload_n C (i := 3) dL_law_940 rfl rfl ?_
  refine w_iconst C (v := nI 2) dL_law_941 (by decide) ?_
  refine w_iadd C dL_law_942 ?_
  refine w_sld C (lc_in hi hN (by decide)) dL_law_943 ?_
  rw [lc_at (k := 2) (by omega)]
  refine w_aload_n C (i := 0) dL_law_944 rfl rfl ?_
  refine w_iload_n C (i := 3) dL_law_945 rfl rfl ?_
  refine w_iconst C (v := nI 3) dL_law_946 (by decide) ?_
  refine w_iadd C dL_law_947 ?_
  refine w_sld C (lc_in hi hN (by decide)) dL_law_948 ?_
  rw [lc_at (k := 3) (by omega)]
  refine w_aload_n C (i := 0) dL_law_949 rfl rfl ?_
  refine w_iload_n C (i := 3) dL_law_950 rfl rfl ?_
  refine w_iconst C (v := nI 4) dL_law_951 (by decide) ?_
  refine w_iadd C dL_law_952 ?_
  refine w_sld C (lc_in hi hN (by decide)) dL_law_953 ?_
  rw [lc_at (k := 4) (by omega)]
  refine w_call C (d' := 6) k_L_106 dL_law_954 (by decide) rfl rfl rfl (Nat.le_of_ble_eq_true rfl) (Nat.le_of_ble_eq_true rfl) (ok_X11_councils_67 (Nat.le_refl _) h2) (fun v I' L' hq => ?_)
  obtain ⟨rfl, rfl, rfl⟩ := hq
  simp only [Option.toList_some, Option.toList_none, List.drop_succ_cons, List.drop_zero, List.drop_nil, List.cons_append, List.nil_append]
  refine w_icmpeq C (tgt := 1679) dL_law_957 (by decide) ?_
  exact kk _ _ hrel
/-- the call league: both answer the same, and Rel stays -/
def St_league (Rel : mI → mL → Prop) (I : mI) (L : mL) (a1 : Int32) (a2 : Int32) : Prop := ∃ (v : Int32) (I1 : mI) (L1 : mL) (I2 : mI) (L2 : mL), f_X10_league_0 I L a1 a2 = some (v, I1, L1) ∧ f_X11_league_67 I1 L1 a1 a2 = some (v, I2, L2) ∧ Rel I2 L2
theorem case_22 {p : Program} {l : Launch} {e : Env} {s : State} {m : MethodId} {below : List Frame} {meth : Method} {c : Code} {b N : Nat} {xs : Nat → Int32} {D : va_G} {ad : Nat → Nat} {ca : FieldType → ClassId} (C : LX p s m meth c b N xs D ad ca) (hN : N ≤ 576) {i : Nat} (hi : i + 9 ≤ N) {Rel : mI → mL → Prop} {I : mI} {L : mL} (h : St_league Rel I L (xs (i + 1)) (xs (i + 2))) (kk : ∀ I L, Rel I L → WL p l e s m below meth c b D ad ca 1679 [some (.ref 84), some (.ref 0), some (.ref 67), some (.int (nI i))] [] I L) : WL p l e s m below meth c b D ad ca 962 [some (.ref 84), some (.ref 0), some (.ref 67), some (.int (nI i))] [] I L := by
  obtain ⟨v, I1, L1, I2, L2, h1, h2, hrel⟩ := h
  refine w_aload_n C (i := 1) dL_law_962 rfl rfl ?_
  refine w_aload_n C (i := 0) dL_law_963 rfl rfl ?_
  refine w_iload_n C (i := 3) dL_law_964 rfl rfl ?_
  refine w_iconst C (v := nI 1) dL_law_965 (by decide) ?_
  refine w_iadd C dL_law_966 ?_
  refine w_sld C (lc_in hi hN (by decide)) dL_law_967 ?_
  rw [lc_at (k := 1) (by omega)]
  refine w_aload_n C (i := 0) dL_law_968 rfl rfl ?_
  refine w_iload_n C (i := 3) dL_law_969 rfl rfl ?_
  refine w_iconst C (v := nI 2) dL_law_970 (by decide) ?_
  refine w_iadd C dL_law_971 ?_
  refine w_sld C (lc_in hi hN (by decide)) dL_law_972 ?_
  rw [lc_at (k := 2) (by omega)]
  refine w_call C (d' := 5) k_L_107 dL_law_973 (by decide) rfl rfl rfl (Nat.le_of_ble_eq_true rfl) (Nat.le_of_ble_eq_true rfl) (ok_X10_league_0 (Nat.le_refl _) h1) (fun v I' L' hq => ?_)
  obtain ⟨rfl, rfl, rfl⟩ := hq
  simp only [Option.toList_some, Option.toList_none, List.drop_succ_cons, List.drop_zero, List.drop_nil, List.cons_append, List.nil_append]
  refine w_aload_n C (i := 2) dL_law_976 rfl rfl ?_
  refine w_aload_n C (i := 0) dL_law_977 rfl rfl ?_
  refine w_iload_n C (i := 3) dL_law_978 rfl rfl ?_
  refine w_iconst C (v := nI 1) dL_law_979 (by decide) ?_
  refine w_iadd C dL_law_980 ?_
  refine w_sld C (lc_in hi hN (by decide)) dL_law_981 ?_
  rw [lc_at (k := 1) (by omega)]
  refine w_aload_n C (i := 0) dL_law_982 rfl rfl ?_
  refine w_iload_n C (i := 3) dL_law_983 rfl rfl ?_
  refine w_iconst C (v := nI 2) dL_law_984 (by decide) ?_
  refine w_iadd C dL_law_985 ?_
  refine w_sld C (lc_in hi hN (by decide)) dL_law_986 ?_
  rw [lc_at (k := 2) (by omega)]
  refine w_call C (d' := 6) k_L_110 dL_law_987 (by decide) rfl rfl rfl (Nat.le_of_ble_eq_true rfl) (Nat.le_of_ble_eq_true rfl) (ok_X11_league_67 (Nat.le_refl _) h2) (fun v I' L' hq => ?_)
  obtain ⟨rfl, rfl, rfl⟩ := hq
  simp only [Option.toList_some, Option.toList_none, List.drop_succ_cons, List.drop_zero, List.drop_nil, List.cons_append, List.nil_append]
  refine w_icmpeq C (tgt := 1679) dL_law_990 (by decide) ?_
  exact kk _ _ hrel
/-- the call upper: both answer the same, and Rel stays -/
def St_upper (Rel : mI → mL → Prop) (I : mI) (L : mL) (a1 : Int32) (a2 : Int32) (a3 : Int32) : Prop := ∃ (v : Int64) (I1 : mI) (L1 : mL) (I2 : mI) (L2 : mL), f_X10_upper_0 I L a1 a2 a3 = some (v, I1, L1) ∧ f_X11_upper_67 I1 L1 a1 a2 a3 = some (v, I2, L2) ∧ Rel I2 L2
theorem case_23 {p : Program} {l : Launch} {e : Env} {s : State} {m : MethodId} {below : List Frame} {meth : Method} {c : Code} {b N : Nat} {xs : Nat → Int32} {D : va_G} {ad : Nat → Nat} {ca : FieldType → ClassId} (C : LX p s m meth c b N xs D ad ca) (hN : N ≤ 576) {i : Nat} (hi : i + 9 ≤ N) {Rel : mI → mL → Prop} {I : mI} {L : mL} (h : St_upper Rel I L (xs (i + 1)) (xs (i + 2)) (xs (i + 3))) (kk : ∀ I L, Rel I L → WL p l e s m below meth c b D ad ca 1679 [some (.ref 84), some (.ref 0), some (.ref 67), some (.int (nI i))] [] I L) : WL p l e s m below meth c b D ad ca 995 [some (.ref 84), some (.ref 0), some (.ref 67), some (.int (nI i))] [] I L := by
  obtain ⟨v, I1, L1, I2, L2, h1, h2, hrel⟩ := h
  refine w_aload_n C (i := 1) dL_law_995 rfl rfl ?_
  refine w_aload_n C (i := 0) dL_law_996 rfl rfl ?_
  refine w_iload_n C (i := 3) dL_law_997 rfl rfl ?_
  refine w_iconst C (v := nI 1) dL_law_998 (by decide) ?_
  refine w_iadd C dL_law_999 ?_
  refine w_sld C (lc_in hi hN (by decide)) dL_law_1000 ?_
  rw [lc_at (k := 1) (by omega)]
  refine w_aload_n C (i := 0) dL_law_1001 rfl rfl ?_
  refine w_iload_n C (i := 3) dL_law_1002 rfl rfl ?_
  refine w_iconst C (v := nI 2) dL_law_1003 (by decide) ?_
  refine w_iadd C dL_law_1004 ?_
  refine w_sld C (lc_in hi hN (by decide)) dL_law_1005 ?_
  rw [lc_at (k := 2) (by omega)]
  refine w_aload_n C (i := 0) dL_law_1006 rfl rfl ?_
  refine w_iload_n C (i := 3) dL_law_1007 rfl rfl ?_
  refine w_iconst C (v := nI 3) dL_law_1008 (by decide) ?_
  refine w_iadd C dL_law_1009 ?_
  refine w_sld C (lc_in hi hN (by decide)) dL_law_1010 ?_
  rw [lc_at (k := 3) (by omega)]
  refine w_call C (d' := 6) k_L_111 dL_law_1011 (by decide) rfl rfl rfl (Nat.le_of_ble_eq_true rfl) (Nat.le_of_ble_eq_true rfl) (ok_X10_upper_0 (Nat.le_refl _) h1) (fun v I' L' hq => ?_)
  obtain ⟨rfl, rfl, rfl⟩ := hq
  simp only [Option.toList_some, Option.toList_none, List.drop_succ_cons, List.drop_zero, List.drop_nil, List.cons_append, List.nil_append]
  refine w_aload_n C (i := 2) dL_law_1014 rfl rfl ?_
  refine w_aload_n C (i := 0) dL_law_1015 rfl rfl ?_
  refine w_iload_n C (i := 3) dL_law_1016 rfl rfl ?_
  refine w_iconst C (v := nI 1) dL_law_1017 (by decide) ?_
  refine w_iadd C dL_law_1018 ?_
  refine w_sld C (lc_in hi hN (by decide)) dL_law_1019 ?_
  rw [lc_at (k := 1) (by omega)]
  refine w_aload_n C (i := 0) dL_law_1020 rfl rfl ?_
  refine w_iload_n C (i := 3) dL_law_1021 rfl rfl ?_
  refine w_iconst C (v := nI 2) dL_law_1022 (by decide) ?_
  refine w_iadd C dL_law_1023 ?_
  refine w_sld C (lc_in hi hN (by decide)) dL_law_1024 ?_
  rw [lc_at (k := 2) (by omega)]
  refine w_aload_n C (i := 0) dL_law_1025 rfl rfl ?_
  refine w_iload_n C (i := 3) dL_law_1026 rfl rfl ?_
  refine w_iconst C (v := nI 3) dL_law_1027 (by decide) ?_
  refine w_iadd C dL_law_1028 ?_
  refine w_sld C (lc_in hi hN (by decide)) dL_law_1029 ?_
  rw [lc_at (k := 3) (by omega)]
  refine w_call C (d' := 7) k_L_115 dL_law_1030 (by decide) rfl rfl rfl (Nat.le_of_ble_eq_true rfl) (Nat.le_of_ble_eq_true rfl) (ok_X11_upper_67 (Nat.le_refl _) h2) (fun v I' L' hq => ?_)
  obtain ⟨rfl, rfl, rfl⟩ := hq
  simp only [Option.toList_some, Option.toList_none, List.drop_succ_cons, List.drop_zero, List.drop_nil, List.cons_append, List.nil_append]
  refine w_lcmp C dL_law_1033 ?_
  refine w_ifeq C (tgt := 1679) (by simp [lg_cmp]) dL_law_1034 (by decide) ?_
  exact kk _ _ hrel
/-- the call lower: both answer the same, and Rel stays -/
def St_lower (Rel : mI → mL → Prop) (I : mI) (L : mL) (a1 : Int32) (a2 : Int32) (a3 : Int32) : Prop := ∃ (v : Int64) (I1 : mI) (L1 : mL) (I2 : mI) (L2 : mL), f_X10_lower_0 I L a1 a2 a3 = some (v, I1, L1) ∧ f_X11_lower_67 I1 L1 a1 a2 a3 = some (v, I2, L2) ∧ Rel I2 L2
theorem case_24 {p : Program} {l : Launch} {e : Env} {s : State} {m : MethodId} {below : List Frame} {meth : Method} {c : Code} {b N : Nat} {xs : Nat → Int32} {D : va_G} {ad : Nat → Nat} {ca : FieldType → ClassId} (C : LX p s m meth c b N xs D ad ca) (hN : N ≤ 576) {i : Nat} (hi : i + 9 ≤ N) {Rel : mI → mL → Prop} {I : mI} {L : mL} (h : St_lower Rel I L (xs (i + 1)) (xs (i + 2)) (xs (i + 3))) (kk : ∀ I L, Rel I L → WL p l e s m below meth c b D ad ca 1679 [some (.ref 84), some (.ref 0), some (.ref 67), some (.int (nI i))] [] I L) : WL p l e s m below meth c b D ad ca 1039 [some (.ref 84), some (.ref 0), some (.ref 67), some (.int (nI i))] [] I L := by
  obtain ⟨v, I1, L1, I2, L2, h1, h2, hrel⟩ := h
  refine w_aload_n C (i := 1) dL_law_1039 rfl rfl ?_
  refine w_aload_n C (i := 0) dL_law_1040 rfl rfl ?_
  refine w_iload_n C (i := 3) dL_law_1041 rfl rfl ?_
  refine w_iconst C (v := nI 1) dL_law_1042 (by decide) ?_
  refine w_iadd C dL_law_1043 ?_
  refine w_sld C (lc_in hi hN (by decide)) dL_law_1044 ?_
  rw [lc_at (k := 1) (by omega)]
  refine w_aload_n C (i := 0) dL_law_1045 rfl rfl ?_
  refine w_iload_n C (i := 3) dL_law_1046 rfl rfl ?_
  refine w_iconst C (v := nI 2) dL_law_1047 (by decide) ?_
  refine w_iadd C dL_law_1048 ?_
  refine w_sld C (lc_in hi hN (by decide)) dL_law_1049 ?_
  rw [lc_at (k := 2) (by omega)]
  refine w_aload_n C (i := 0) dL_law_1050 rfl rfl ?_
  refine w_iload_n C (i := 3) dL_law_1051 rfl rfl ?_
  refine w_iconst C (v := nI 3) dL_law_1052 (by decide) ?_
  refine w_iadd C dL_law_1053 ?_
  refine w_sld C (lc_in hi hN (by decide)) dL_law_1054 ?_
  rw [lc_at (k := 3) (by omega)]
  refine w_call C (d' := 6) k_L_116 dL_law_1055 (by decide) rfl rfl rfl (Nat.le_of_ble_eq_true rfl) (Nat.le_of_ble_eq_true rfl) (ok_X10_lower_0 (Nat.le_refl _) h1) (fun v I' L' hq => ?_)
  obtain ⟨rfl, rfl, rfl⟩ := hq
  simp only [Option.toList_some, Option.toList_none, List.drop_succ_cons, List.drop_zero, List.drop_nil, List.cons_append, List.nil_append]
  refine w_aload_n C (i := 2) dL_law_1058 rfl rfl ?_
  refine w_aload_n C (i := 0) dL_law_1059 rfl rfl ?_
  refine w_iload_n C (i := 3) dL_law_1060 rfl rfl ?_
  refine w_iconst C (v := nI 1) dL_law_1061 (by decide) ?_
  refine w_iadd C dL_law_1062 ?_
  refine w_sld C (lc_in hi hN (by decide)) dL_law_1063 ?_
  rw [lc_at (k := 1) (by omega)]
  refine w_aload_n C (i := 0) dL_law_1064 rfl rfl ?_
  refine w_iload_n C (i := 3) dL_law_1065 rfl rfl ?_
  refine w_iconst C (v := nI 2) dL_law_1066 (by decide) ?_
  refine w_iadd C dL_law_1067 ?_
  refine w_sld C (lc_in hi hN (by decide)) dL_law_1068 ?_
  rw [lc_at (k := 2) (by omega)]
  refine w_aload_n C (i := 0) dL_law_1069 rfl rfl ?_
  refine w_iload_n C (i := 3) dL_law_1070 rfl rfl ?_
  refine w_iconst C (v := nI 3) dL_law_1071 (by decide) ?_
  refine w_iadd C dL_law_1072 ?_
  refine w_sld C (lc_in hi hN (by decide)) dL_law_1073 ?_
  rw [lc_at (k := 3) (by omega)]
  refine w_call C (d' := 7) k_L_119 dL_law_1074 (by decide) rfl rfl rfl (Nat.le_of_ble_eq_true rfl) (Nat.le_of_ble_eq_true rfl) (ok_X11_lower_67 (Nat.le_refl _) h2) (fun v I' L' hq => ?_)
  obtain ⟨rfl, rfl, rfl⟩ := hq
  simp only [Option.toList_some, Option.toList_none, List.drop_succ_cons, List.drop_zero, List.drop_nil, List.cons_append, List.nil_append]
  refine w_lcmp C dL_law_1077 ?_
  refine w_ifeq C (tgt := 1679) (by simp [lg_cmp]) dL_law_1078 (by decide) ?_
  exact kk _ _ hrel
/-- the call change: both answer the same, and Rel stays -/
def St_change (Rel : mI → mL → Prop) (I : mI) (L : mL) (a1 : Int32) (a2 : Int32) (a3 : Int32) : Prop := ∃ (v : Int32), f_X10_change_0 I L a1 a2 a3 = some v ∧ f_X11_change_67 I L a1 a2 a3 = some v ∧ Rel I L
theorem case_25 {p : Program} {l : Launch} {e : Env} {s : State} {m : MethodId} {below : List Frame} {meth : Method} {c : Code} {b N : Nat} {xs : Nat → Int32} {D : va_G} {ad : Nat → Nat} {ca : FieldType → ClassId} (C : LX p s m meth c b N xs D ad ca) (hN : N ≤ 576) {i : Nat} (hi : i + 9 ≤ N) {Rel : mI → mL → Prop} {I : mI} {L : mL} (h : St_change Rel I L (xs (i + 1)) (xs (i + 2)) (xs (i + 3))) (kk : ∀ I L, Rel I L → WL p l e s m below meth c b D ad ca 1679 [some (.ref 84), some (.ref 0), some (.ref 67), some (.int (nI i))] [] I L) : WL p l e s m below meth c b D ad ca 1083 [some (.ref 84), some (.ref 0), some (.ref 67), some (.int (nI i))] [] I L := by
  obtain ⟨v, h1, h2, hrel⟩ := h
  refine w_aload_n C (i := 1) dL_law_1083 rfl rfl ?_
  refine w_aload_n C (i := 0) dL_law_1084 rfl rfl ?_
  refine w_iload_n C (i := 3) dL_law_1085 rfl rfl ?_
  refine w_iconst C (v := nI 1) dL_law_1086 (by decide) ?_
  refine w_iadd C dL_law_1087 ?_
  refine w_sld C (lc_in hi hN (by decide)) dL_law_1088 ?_
  rw [lc_at (k := 1) (by omega)]
  refine w_aload_n C (i := 0) dL_law_1089 rfl rfl ?_
  refine w_iload_n C (i := 3) dL_law_1090 rfl rfl ?_
  refine w_iconst C (v := nI 2) dL_law_1091 (by decide) ?_
  refine w_iadd C dL_law_1092 ?_
  refine w_sld C (lc_in hi hN (by decide)) dL_law_1093 ?_
  rw [lc_at (k := 2) (by omega)]
  refine w_aload_n C (i := 0) dL_law_1094 rfl rfl ?_
  refine w_iload_n C (i := 3) dL_law_1095 rfl rfl ?_
  refine w_iconst C (v := nI 3) dL_law_1096 (by decide) ?_
  refine w_iadd C dL_law_1097 ?_
  refine w_sld C (lc_in hi hN (by decide)) dL_law_1098 ?_
  rw [lc_at (k := 3) (by omega)]
  refine w_call C (d' := 4) k_L_120 dL_law_1099 (by decide) rfl rfl rfl (Nat.le_of_ble_eq_true rfl) (Nat.le_of_ble_eq_true rfl) (ok_X10_change_0 (Nat.le_refl _) h1) (fun v I' L' hq => ?_)
  obtain ⟨rfl, rfl, rfl⟩ := hq
  simp only [Option.toList_some, Option.toList_none, List.drop_succ_cons, List.drop_zero, List.drop_nil, List.cons_append, List.nil_append]
  refine w_aload_n C (i := 2) dL_law_1102 rfl rfl ?_
  refine w_aload_n C (i := 0) dL_law_1103 rfl rfl ?_
  refine w_iload_n C (i := 3) dL_law_1104 rfl rfl ?_
  refine w_iconst C (v := nI 1) dL_law_1105 (by decide) ?_
  refine w_iadd C dL_law_1106 ?_
  refine w_sld C (lc_in hi hN (by decide)) dL_law_1107 ?_
  rw [lc_at (k := 1) (by omega)]
  refine w_aload_n C (i := 0) dL_law_1108 rfl rfl ?_
  refine w_iload_n C (i := 3) dL_law_1109 rfl rfl ?_
  refine w_iconst C (v := nI 2) dL_law_1110 (by decide) ?_
  refine w_iadd C dL_law_1111 ?_
  refine w_sld C (lc_in hi hN (by decide)) dL_law_1112 ?_
  rw [lc_at (k := 2) (by omega)]
  refine w_aload_n C (i := 0) dL_law_1113 rfl rfl ?_
  refine w_iload_n C (i := 3) dL_law_1114 rfl rfl ?_
  refine w_iconst C (v := nI 3) dL_law_1115 (by decide) ?_
  refine w_iadd C dL_law_1116 ?_
  refine w_sld C (lc_in hi hN (by decide)) dL_law_1117 ?_
  rw [lc_at (k := 3) (by omega)]
  refine w_call C (d' := 2) k_L_123 dL_law_1118 (by decide) rfl rfl rfl (Nat.le_of_ble_eq_true rfl) (Nat.le_of_ble_eq_true rfl) (ok_X11_change_67 (Nat.le_refl _) h2) (fun v I' L' hq => ?_)
  obtain ⟨rfl, rfl, rfl⟩ := hq
  simp only [Option.toList_some, Option.toList_none, List.drop_succ_cons, List.drop_zero, List.drop_nil, List.cons_append, List.nil_append]
  refine w_icmpeq C (tgt := 1679) dL_law_1121 (by decide) ?_
  exact kk _ _ hrel
/-- the call well: both answer the same, and Rel stays -/
def St_well (Rel : mI → mL → Prop) (I : mI) (L : mL) (a1 : Int32) (a2 : Int32) : Prop := ∃ (v : Int32), f_X10_well_0 I L a1 a2 = some v ∧ f_X11_well_67 I L a1 a2 = some v ∧ Rel I L
theorem case_26 {p : Program} {l : Launch} {e : Env} {s : State} {m : MethodId} {below : List Frame} {meth : Method} {c : Code} {b N : Nat} {xs : Nat → Int32} {D : va_G} {ad : Nat → Nat} {ca : FieldType → ClassId} (C : LX p s m meth c b N xs D ad ca) (hN : N ≤ 576) {i : Nat} (hi : i + 9 ≤ N) {Rel : mI → mL → Prop} {I : mI} {L : mL} (h : St_well Rel I L (xs (i + 1)) (xs (i + 2))) (kk : ∀ I L, Rel I L → WL p l e s m below meth c b D ad ca 1679 [some (.ref 84), some (.ref 0), some (.ref 67), some (.int (nI i))] [] I L) : WL p l e s m below meth c b D ad ca 1126 [some (.ref 84), some (.ref 0), some (.ref 67), some (.int (nI i))] [] I L := by
  obtain ⟨v, h1, h2, hrel⟩ := h
  refine w_aload_n C (i := 1) dL_law_1126 rfl rfl ?_
  refine w_aload_n C (i := 0) dL_law_1127 rfl rfl ?_
  refine w_iload_n C (i := 3) dL_law_1128 rfl rfl ?_
  refine w_iconst C (v := nI 1) dL_law_1129 (by decide) ?_
  refine w_iadd C dL_law_1130 ?_
  refine w_sld C (lc_in hi hN (by decide)) dL_law_1131 ?_
  rw [lc_at (k := 1) (by omega)]
  refine w_aload_n C (i := 0) dL_law_1132 rfl rfl ?_
  refine w_iload_n C (i := 3) dL_law_1133 rfl rfl ?_
  refine w_iconst C (v := nI 2) dL_law_1134 (by decide) ?_
  refine w_iadd C dL_law_1135 ?_
  refine w_sld C (lc_in hi hN (by decide)) dL_law_1136 ?_
  rw [lc_at (k := 2) (by omega)]
  refine w_call C (d' := 3) k_L_124 dL_law_1137 (by decide) rfl rfl rfl (Nat.le_of_ble_eq_true rfl) (Nat.le_of_ble_eq_true rfl) (ok_X10_well_0 (Nat.le_refl _) h1) (fun v I' L' hq => ?_)
  obtain ⟨rfl, rfl, rfl⟩ := hq
  simp only [Option.toList_some, Option.toList_none, List.drop_succ_cons, List.drop_zero, List.drop_nil, List.cons_append, List.nil_append]
  refine w_aload_n C (i := 2) dL_law_1140 rfl rfl ?_
  refine w_aload_n C (i := 0) dL_law_1141 rfl rfl ?_
  refine w_iload_n C (i := 3) dL_law_1142 rfl rfl ?_
  refine w_iconst C (v := nI 1) dL_law_1143 (by decide) ?_
  refine w_iadd C dL_law_1144 ?_
  refine w_sld C (lc_in hi hN (by decide)) dL_law_1145 ?_
  rw [lc_at (k := 1) (by omega)]
  refine w_aload_n C (i := 0) dL_law_1146 rfl rfl ?_
  refine w_iload_n C (i := 3) dL_law_1147 rfl rfl ?_
  refine w_iconst C (v := nI 2) dL_law_1148 (by decide) ?_
  refine w_iadd C dL_law_1149 ?_
  refine w_sld C (lc_in hi hN (by decide)) dL_law_1150 ?_
  rw [lc_at (k := 2) (by omega)]
  refine w_call C (d' := 2) k_L_127 dL_law_1151 (by decide) rfl rfl rfl (Nat.le_of_ble_eq_true rfl) (Nat.le_of_ble_eq_true rfl) (ok_X11_well_67 (Nat.le_refl _) h2) (fun v I' L' hq => ?_)
  obtain ⟨rfl, rfl, rfl⟩ := hq
  simp only [Option.toList_some, Option.toList_none, List.drop_succ_cons, List.drop_zero, List.drop_nil, List.cons_append, List.nil_append]
  refine w_icmpeq C (tgt := 1679) dL_law_1154 (by decide) ?_
  exact kk _ _ hrel
/-- the call image: both answer the same, and Rel stays -/
def St_image (Rel : mI → mL → Prop) (I : mI) (L : mL) : Prop := ∃ (v : Int32) (I1 : mI) (L1 : mL) (I2 : mI) (L2 : mL), f_X10_image_0 I L = some (v, I1, L1) ∧ f_X11_image_67 I1 L1 = some (v, I2, L2) ∧ Rel I2 L2
theorem case_27 {p : Program} {l : Launch} {e : Env} {s : State} {m : MethodId} {below : List Frame} {meth : Method} {c : Code} {b N : Nat} {xs : Nat → Int32} {D : va_G} {ad : Nat → Nat} {ca : FieldType → ClassId} (C : LX p s m meth c b N xs D ad ca) (hN : N ≤ 576) {i : Nat} (hi : i + 9 ≤ N) {Rel : mI → mL → Prop} {I : mI} {L : mL} (h : St_image Rel I L) (kk : ∀ I L, Rel I L → WL p l e s m below meth c b D ad ca 1679 [some (.ref 84), some (.ref 0), some (.ref 67), some (.int (nI i))] [] I L) : WL p l e s m below meth c b D ad ca 1159 [some (.ref 84), some (.ref 0), some (.ref 67), some (.int (nI i))] [] I L := by
  obtain ⟨v, I1, L1, I2, L2, h1, h2, hrel⟩ := h
  refine w_aload_n C (i := 1) dL_law_1159 rfl rfl ?_
  refine w_call C (d' := 3) k_L_128 dL_law_1160 (by decide) rfl rfl rfl (Nat.le_of_ble_eq_true rfl) (Nat.le_of_ble_eq_true rfl) (ok_X10_image_0 (Nat.le_refl _) h1) (fun v I' L' hq => ?_)
  obtain ⟨rfl, rfl, rfl⟩ := hq
  simp only [Option.toList_some, Option.toList_none, List.drop_succ_cons, List.drop_zero, List.drop_nil, List.cons_append, List.nil_append]
  refine w_aload_n C (i := 2) dL_law_1163 rfl rfl ?_
  refine w_call C (d' := 0) k_L_131 dL_law_1164 (by decide) rfl rfl rfl (Nat.le_of_ble_eq_true rfl) (Nat.le_of_ble_eq_true rfl) (ok_X11_image_67 (Nat.le_refl _) h2) (fun v I' L' hq => ?_)
  obtain ⟨rfl, rfl, rfl⟩ := hq
  simp only [Option.toList_some, Option.toList_none, List.drop_succ_cons, List.drop_zero, List.drop_nil, List.cons_append, List.nil_append]
  refine w_icmpeq C (tgt := 1679) dL_law_1167 (by decide) ?_
  exact kk _ _ hrel
/-- the call restore: both answer the same, and Rel stays -/
def St_restore (Rel : mI → mL → Prop) (I : mI) (L : mL) : Prop := ∃ (v : Int32) (I1 : mI) (L1 : mL) (I2 : mI) (L2 : mL), f_X10_restore_0 I L = some (v, I1, L1) ∧ f_X11_restore_67 I1 L1 = some (v, I2, L2) ∧ Rel I2 L2
theorem case_28 {p : Program} {l : Launch} {e : Env} {s : State} {m : MethodId} {below : List Frame} {meth : Method} {c : Code} {b N : Nat} {xs : Nat → Int32} {D : va_G} {ad : Nat → Nat} {ca : FieldType → ClassId} (C : LX p s m meth c b N xs D ad ca) (hN : N ≤ 576) {i : Nat} (hi : i + 9 ≤ N) {Rel : mI → mL → Prop} {I : mI} {L : mL} (h : St_restore Rel I L) (kk : ∀ I L, Rel I L → WL p l e s m below meth c b D ad ca 1679 [some (.ref 84), some (.ref 0), some (.ref 67), some (.int (nI i))] [] I L) : WL p l e s m below meth c b D ad ca 1172 [some (.ref 84), some (.ref 0), some (.ref 67), some (.int (nI i))] [] I L := by
  obtain ⟨v, I1, L1, I2, L2, h1, h2, hrel⟩ := h
  refine w_aload_n C (i := 1) dL_law_1172 rfl rfl ?_
  refine w_call C (d' := 3) k_L_132 dL_law_1173 (by decide) rfl rfl rfl (Nat.le_of_ble_eq_true rfl) (Nat.le_of_ble_eq_true rfl) (ok_X10_restore_0 (Nat.le_refl _) h1) (fun v I' L' hq => ?_)
  obtain ⟨rfl, rfl, rfl⟩ := hq
  simp only [Option.toList_some, Option.toList_none, List.drop_succ_cons, List.drop_zero, List.drop_nil, List.cons_append, List.nil_append]
  refine w_aload_n C (i := 2) dL_law_1176 rfl rfl ?_
  refine w_call C (d' := 0) k_L_135 dL_law_1177 (by decide) rfl rfl rfl (Nat.le_of_ble_eq_true rfl) (Nat.le_of_ble_eq_true rfl) (ok_X11_restore_67 (Nat.le_refl _) h2) (fun v I' L' hq => ?_)
  obtain ⟨rfl, rfl, rfl⟩ := hq
  simp only [Option.toList_some, Option.toList_none, List.drop_succ_cons, List.drop_zero, List.drop_nil, List.cons_append, List.nil_append]
  refine w_icmpeq C (tgt := 1679) dL_law_1180 (by decide) ?_
  exact kk _ _ hrel
/-- the call beam: both answer the same, and Rel stays -/
def St_beam (Rel : mI → mL → Prop) (I : mI) (L : mL) (a1 : Int32) (a2 : Int32) (a3 : Int32) (a4 : Int32) (a5 : Int32) (a6 : Int32) (a7 : Int32) : Prop := ∃ (v : Int32), f_X10_beam_0 I L a1 a2 a3 a4 a5 a6 a7 = some v ∧ f_X11_beam_67 I L a1 a2 a3 a4 a5 a6 a7 = some v ∧ Rel I L
theorem case_29 {p : Program} {l : Launch} {e : Env} {s : State} {m : MethodId} {below : List Frame} {meth : Method} {c : Code} {b N : Nat} {xs : Nat → Int32} {D : va_G} {ad : Nat → Nat} {ca : FieldType → ClassId} (C : LX p s m meth c b N xs D ad ca) (hN : N ≤ 576) {i : Nat} (hi : i + 9 ≤ N) {Rel : mI → mL → Prop} {I : mI} {L : mL} (h : St_beam Rel I L (xs (i + 1)) (xs (i + 2)) (xs (i + 3)) (xs (i + 4)) (xs (i + 5)) (xs (i + 6)) (xs (i + 7))) (kk : ∀ I L, Rel I L → WL p l e s m below meth c b D ad ca 1679 [some (.ref 84), some (.ref 0), some (.ref 67), some (.int (nI i))] [] I L) : WL p l e s m below meth c b D ad ca 1185 [some (.ref 84), some (.ref 0), some (.ref 67), some (.int (nI i))] [] I L := by
  obtain ⟨v, h1, h2, hrel⟩ := h
  refine w_aload_n C (i := 1) dL_law_1185 rfl rfl ?_
  refine w_aload_n C (i := 0) dL_law_1186 rfl rfl ?_
  refine w_iload_n C (i := 3) dL_law_1187 rfl rfl ?_
  refine w_iconst C (v := nI 1) dL_law_1188 (by decide) ?_
  refine w_iadd C dL_law_1189 ?_
  refine w_sld C (lc_in hi hN (by decide)) dL_law_1190 ?_
  rw [lc_at (k := 1) (by omega)]
  refine w_aload_n C (i := 0) dL_law_1191 rfl rfl ?_
  refine w_iload_n C (i := 3) dL_law_1192 rfl rfl ?_
  refine w_iconst C (v := nI 2) dL_law_1193 (by decide) ?_
  refine w_iadd C dL_law_1194 ?_
  refine w_sld C (lc_in hi hN (by decide)) dL_law_1195 ?_
  rw [lc_at (k := 2) (by omega)]
  refine w_aload_n C (i := 0) dL_law_1196 rfl rfl ?_
  refine w_iload_n C (i := 3) dL_law_1197 rfl rfl ?_
  refine w_iconst C (v := nI 3) dL_law_1198 (by decide) ?_
  refine w_iadd C dL_law_1199 ?_
  refine w_sld C (lc_in hi hN (by decide)) dL_law_1200 ?_
  rw [lc_at (k := 3) (by omega)]
  refine w_aload_n C (i := 0) dL_law_1201 rfl rfl ?_
  refine w_iload_n C (i := 3) dL_law_1202 rfl rfl ?_
  refine w_iconst C (v := nI 4) dL_law_1203 (by decide) ?_
  refine w_iadd C dL_law_1204 ?_
  refine w_sld C (lc_in hi hN (by decide)) dL_law_1205 ?_
  rw [lc_at (k := 4) (by omega)]
  refine w_aload_n C (i := 0) dL_law_1206 rfl rfl ?_
  refine w_iload_n C (i := 3) dL_law_1207 rfl rfl ?_
  refine w_iconst C (v := nI 5) dL_law_1208 (by decide) ?_
  refine w_iadd C dL_law_1209 ?_
  refine w_sld C (lc_in hi hN (by decide)) dL_law_1210 ?_
  rw [lc_at (k := 5) (by omega)]
  refine w_aload_n C (i := 0) dL_law_1211 rfl rfl ?_
  refine w_iload_n C (i := 3) dL_law_1212 rfl rfl ?_
  refine w_bipush C (v := nI 6) dL_law_1213 (by decide) ?_
  refine w_iadd C dL_law_1215 ?_
  refine w_sld C (lc_in hi hN (by decide)) dL_law_1216 ?_
  rw [lc_at (k := 6) (by omega)]
  refine w_aload_n C (i := 0) dL_law_1217 rfl rfl ?_
  refine w_iload_n C (i := 3) dL_law_1218 rfl rfl ?_
  refine w_bipush C (v := nI 7) dL_law_1219 (by decide) ?_
  refine w_iadd C dL_law_1221 ?_
  refine w_sld C (lc_in hi hN (by decide)) dL_law_1222 ?_
  rw [lc_at (k := 7) (by omega)]
  refine w_call C (d' := 4) k_L_136 dL_law_1223 (by decide) rfl rfl rfl (Nat.le_of_ble_eq_true rfl) (Nat.le_of_ble_eq_true rfl) (ok_X10_beam_0 (Nat.le_refl _) h1) (fun v I' L' hq => ?_)
  obtain ⟨rfl, rfl, rfl⟩ := hq
  simp only [Option.toList_some, Option.toList_none, List.drop_succ_cons, List.drop_zero, List.drop_nil, List.cons_append, List.nil_append]
  refine w_aload_n C (i := 2) dL_law_1226 rfl rfl ?_
  refine w_aload_n C (i := 0) dL_law_1227 rfl rfl ?_
  refine w_iload_n C (i := 3) dL_law_1228 rfl rfl ?_
  refine w_iconst C (v := nI 1) dL_law_1229 (by decide) ?_
  refine w_iadd C dL_law_1230 ?_
  refine w_sld C (lc_in hi hN (by decide)) dL_law_1231 ?_
  rw [lc_at (k := 1) (by omega)]
  refine w_aload_n C (i := 0) dL_law_1232 rfl rfl ?_
  refine w_iload_n C (i := 3) dL_law_1233 rfl rfl ?_
  refine w_iconst C (v := nI 2) dL_law_1234 (by decide) ?_
  refine w_iadd C dL_law_1235 ?_
  refine w_sld C (lc_in hi hN (by decide)) dL_law_1236 ?_
  rw [lc_at (k := 2) (by omega)]
  refine w_aload_n C (i := 0) dL_law_1237 rfl rfl ?_
  refine w_iload_n C (i := 3) dL_law_1238 rfl rfl ?_
  refine w_iconst C (v := nI 3) dL_law_1239 (by decide) ?_
  refine w_iadd C dL_law_1240 ?_
  refine w_sld C (lc_in hi hN (by decide)) dL_law_1241 ?_
  rw [lc_at (k := 3) (by omega)]
  refine w_aload_n C (i := 0) dL_law_1242 rfl rfl ?_
  refine w_iload_n C (i := 3) dL_law_1243 rfl rfl ?_
  refine w_iconst C (v := nI 4) dL_law_1244 (by decide) ?_
  refine w_iadd C dL_law_1245 ?_
  refine w_sld C (lc_in hi hN (by decide)) dL_law_1246 ?_
  rw [lc_at (k := 4) (by omega)]
  refine w_aload_n C (i := 0) dL_law_1247 rfl rfl ?_
  refine w_iload_n C (i := 3) dL_law_1248 rfl rfl ?_
  refine w_iconst C (v := nI 5) dL_law_1249 (by decide) ?_
  refine w_iadd C dL_law_1250 ?_
  refine w_sld C (lc_in hi hN (by decide)) dL_law_1251 ?_
  rw [lc_at (k := 5) (by omega)]
  refine w_aload_n C (i := 0) dL_law_1252 rfl rfl ?_
  refine w_iload_n C (i := 3) dL_law_1253 rfl rfl ?_
  refine w_bipush C (v := nI 6) dL_law_1254 (by decide) ?_
  refine w_iadd C dL_law_1256 ?_
  refine w_sld C (lc_in hi hN (by decide)) dL_law_1257 ?_
  rw [lc_at (k := 6) (by omega)]
  refine w_aload_n C (i := 0) dL_law_1258 rfl rfl ?_
  refine w_iload_n C (i := 3) dL_law_1259 rfl rfl ?_
  refine w_bipush C (v := nI 7) dL_law_1260 (by decide) ?_
  refine w_iadd C dL_law_1262 ?_
  refine w_sld C (lc_in hi hN (by decide)) dL_law_1263 ?_
  rw [lc_at (k := 7) (by omega)]
  refine w_call C (d' := 2) k_L_140 dL_law_1264 (by decide) rfl rfl rfl (Nat.le_of_ble_eq_true rfl) (Nat.le_of_ble_eq_true rfl) (ok_X11_beam_67 (Nat.le_refl _) h2) (fun v I' L' hq => ?_)
  obtain ⟨rfl, rfl, rfl⟩ := hq
  simp only [Option.toList_some, Option.toList_none, List.drop_succ_cons, List.drop_zero, List.drop_nil, List.cons_append, List.nil_append]
  refine w_icmpeq C (tgt := 1679) dL_law_1267 (by decide) ?_
  exact kk _ _ hrel
/-- the call book: both answer the same, and Rel stays -/
def St_book (Rel : mI → mL → Prop) (I : mI) (L : mL) (a1 : Int32) (a2 : Int32) (a3 : Int32) (a4 : Int32) (a5 : Int32) (a6 : Int32) (a7 : Int32) (a8 : Int32) : Prop := ∃ (v : Int32) (I1 : mI) (L1 : mL) (I2 : mI) (L2 : mL), f_X10_book_0 I L a1 a2 a3 a4 a5 a6 a7 a8 = some (v, I1, L1) ∧ f_X11_book_67 I1 L1 a1 a2 a3 a4 a5 a6 a7 a8 = some (v, I2, L2) ∧ Rel I2 L2
theorem case_30 {p : Program} {l : Launch} {e : Env} {s : State} {m : MethodId} {below : List Frame} {meth : Method} {c : Code} {b N : Nat} {xs : Nat → Int32} {D : va_G} {ad : Nat → Nat} {ca : FieldType → ClassId} (C : LX p s m meth c b N xs D ad ca) (hN : N ≤ 576) {i : Nat} (hi : i + 9 ≤ N) {Rel : mI → mL → Prop} {I : mI} {L : mL} (h : St_book Rel I L (xs (i + 1)) (xs (i + 2)) (xs (i + 3)) (xs (i + 4)) (xs (i + 5)) (xs (i + 6)) (xs (i + 7)) (xs (i + 8))) (kk : ∀ I L, Rel I L → WL p l e s m below meth c b D ad ca 1679 [some (.ref 84), some (.ref 0), some (.ref 67), some (.int (nI i))] [] I L) : WL p l e s m below meth c b D ad ca 1272 [some (.ref 84), some (.ref 0), some (.ref 67), some (.int (nI i))] [] I L := by
  obtain ⟨v, I1, L1, I2, L2, h1, h2, hrel⟩ := h
  refine w_aload_n C (i := 1) dL_law_1272 rfl rfl ?_
  refine w_aload_n C (i := 0) dL_law_1273 rfl rfl ?_
  refine w_iload_n C (i := 3) dL_law_1274 rfl rfl ?_
  refine w_iconst C (v := nI 1) dL_law_1275 (by decide) ?_
  refine w_iadd C dL_law_1276 ?_
  refine w_sld C (lc_in hi hN (by decide)) dL_law_1277 ?_
  rw [lc_at (k := 1) (by omega)]
  refine w_aload_n C (i := 0) dL_law_1278 rfl rfl ?_
  refine w_iload_n C (i := 3) dL_law_1279 rfl rfl ?_
  refine w_iconst C (v := nI 2) dL_law_1280 (by decide) ?_
  refine w_iadd C dL_law_1281 ?_
  refine w_sld C (lc_in hi hN (by decide)) dL_law_1282 ?_
  rw [lc_at (k := 2) (by omega)]
  refine w_aload_n C (i := 0) dL_law_1283 rfl rfl ?_
  refine w_iload_n C (i := 3) dL_law_1284 rfl rfl ?_
  refine w_iconst C (v := nI 3) dL_law_1285 (by decide) ?_
  refine w_iadd C dL_law_1286 ?_
  refine w_sld C (lc_in hi hN (by decide)) dL_law_1287 ?_
  rw [lc_at (k := 3) (by omega)]
  refine w_aload_n C (i := 0) dL_law_1288 rfl rfl ?_
  refine w_iload_n C (i := 3) dL_law_1289 rfl rfl ?_
  refine w_iconst C (v := nI 4) dL_law_1290 (by decide) ?_
  refine w_iadd C dL_law_1291 ?_
  refine w_sld C (lc_in hi hN (by decide)) dL_law_1292 ?_
  rw [lc_at (k := 4) (by omega)]
  refine w_aload_n C (i := 0) dL_law_1293 rfl rfl ?_
  refine w_iload_n C (i := 3) dL_law_1294 rfl rfl ?_
  refine w_iconst C (v := nI 5) dL_law_1295 (by decide) ?_
  refine w_iadd C dL_law_1296 ?_
  refine w_sld C (lc_in hi hN (by decide)) dL_law_1297 ?_
  rw [lc_at (k := 5) (by omega)]
  refine w_aload_n C (i := 0) dL_law_1298 rfl rfl ?_
  refine w_iload_n C (i := 3) dL_law_1299 rfl rfl ?_
  refine w_bipush C (v := nI 6) dL_law_1300 (by decide) ?_
  refine w_iadd C dL_law_1302 ?_
  refine w_sld C (lc_in hi hN (by decide)) dL_law_1303 ?_
  rw [lc_at (k := 6) (by omega)]
  refine w_aload_n C (i := 0) dL_law_1304 rfl rfl ?_
  refine w_iload_n C (i := 3) dL_law_1305 rfl rfl ?_
  refine w_bipush C (v := nI 7) dL_law_1306 (by decide) ?_
  refine w_iadd C dL_law_1308 ?_
  refine w_sld C (lc_in hi hN (by decide)) dL_law_1309 ?_
  rw [lc_at (k := 7) (by omega)]
  refine w_aload_n C (i := 0) dL_law_1310 rfl rfl ?_
  refine w_iload_n C (i := 3) dL_law_1311 rfl rfl ?_
  refine w_bipush C (v := nI 8) dL_law_1312 (by decide) ?_
  refine w_iadd C dL_law_1314 ?_
  refine w_sld C (lc_in hi hN (by decide)) dL_law_1315 ?_
  rw [lc_at (k := 8) (by omega)]
  refine w_call C (d' := 3) k_L_141 dL_law_1316 (by decide) rfl rfl rfl (Nat.le_of_ble_eq_true rfl) (Nat.le_of_ble_eq_true rfl) (ok_X10_book_0 (Nat.le_refl _) h1) (fun v I' L' hq => ?_)
  obtain ⟨rfl, rfl, rfl⟩ := hq
  simp only [Option.toList_some, Option.toList_none, List.drop_succ_cons, List.drop_zero, List.drop_nil, List.cons_append, List.nil_append]
  refine w_aload_n C (i := 2) dL_law_1319 rfl rfl ?_
  refine w_aload_n C (i := 0) dL_law_1320 rfl rfl ?_
  refine w_iload_n C (i := 3) dL_law_1321 rfl rfl ?_
  refine w_iconst C (v := nI 1) dL_law_1322 (by decide) ?_
  refine w_iadd C dL_law_1323 ?_
  refine w_sld C (lc_in hi hN (by decide)) dL_law_1324 ?_
  rw [lc_at (k := 1) (by omega)]
  refine w_aload_n C (i := 0) dL_law_1325 rfl rfl ?_
  refine w_iload_n C (i := 3) dL_law_1326 rfl rfl ?_
  refine w_iconst C (v := nI 2) dL_law_1327 (by decide) ?_
  refine w_iadd C dL_law_1328 ?_
  refine w_sld C (lc_in hi hN (by decide)) dL_law_1329 ?_
  rw [lc_at (k := 2) (by omega)]
  refine w_aload_n C (i := 0) dL_law_1330 rfl rfl ?_
  refine w_iload_n C (i := 3) dL_law_1331 rfl rfl ?_
  refine w_iconst C (v := nI 3) dL_law_1332 (by decide) ?_
  refine w_iadd C dL_law_1333 ?_
  refine w_sld C (lc_in hi hN (by decide)) dL_law_1334 ?_
  rw [lc_at (k := 3) (by omega)]
  refine w_aload_n C (i := 0) dL_law_1335 rfl rfl ?_
  refine w_iload_n C (i := 3) dL_law_1336 rfl rfl ?_
  refine w_iconst C (v := nI 4) dL_law_1337 (by decide) ?_
  refine w_iadd C dL_law_1338 ?_
  refine w_sld C (lc_in hi hN (by decide)) dL_law_1339 ?_
  rw [lc_at (k := 4) (by omega)]
  refine w_aload_n C (i := 0) dL_law_1340 rfl rfl ?_
  refine w_iload_n C (i := 3) dL_law_1341 rfl rfl ?_
  refine w_iconst C (v := nI 5) dL_law_1342 (by decide) ?_
  refine w_iadd C dL_law_1343 ?_
  refine w_sld C (lc_in hi hN (by decide)) dL_law_1344 ?_
  rw [lc_at (k := 5) (by omega)]
  refine w_aload_n C (i := 0) dL_law_1345 rfl rfl ?_
  refine w_iload_n C (i := 3) dL_law_1346 rfl rfl ?_
  refine w_bipush C (v := nI 6) dL_law_1347 (by decide) ?_
  refine w_iadd C dL_law_1349 ?_
  refine w_sld C (lc_in hi hN (by decide)) dL_law_1350 ?_
  rw [lc_at (k := 6) (by omega)]
  refine w_aload_n C (i := 0) dL_law_1351 rfl rfl ?_
  refine w_iload_n C (i := 3) dL_law_1352 rfl rfl ?_
  refine w_bipush C (v := nI 7) dL_law_1353 (by decide) ?_
  refine w_iadd C dL_law_1355 ?_
  refine w_sld C (lc_in hi hN (by decide)) dL_law_1356 ?_
  rw [lc_at (k := 7) (by omega)]
  refine w_aload_n C (i := 0) dL_law_1357 rfl rfl ?_
  refine w_iload_n C (i := 3) dL_law_1358 rfl rfl ?_
  refine w_bipush C (v := nI 8) dL_law_1359 (by decide) ?_
  refine w_iadd C dL_law_1361 ?_
  refine w_sld C (lc_in hi hN (by decide)) dL_law_1362 ?_
  rw [lc_at (k := 8) (by omega)]
  refine w_call C (d' := 2) k_L_145 dL_law_1363 (by decide) rfl rfl rfl (Nat.le_of_ble_eq_true rfl) (Nat.le_of_ble_eq_true rfl) (ok_X11_book_67 (Nat.le_refl _) h2) (fun v I' L' hq => ?_)
  obtain ⟨rfl, rfl, rfl⟩ := hq
  simp only [Option.toList_some, Option.toList_none, List.drop_succ_cons, List.drop_zero, List.drop_nil, List.cons_append, List.nil_append]
  refine w_icmpeq C (tgt := 1679) dL_law_1366 (by decide) ?_
  exact kk _ _ hrel
/-- the call mills: both answer the same, and Rel stays -/
def St_mills (Rel : mI → mL → Prop) (I : mI) (L : mL) (a1 : Int32) (a2 : Int32) (a3 : Int32) (a4 : Int32) : Prop := ∃ (v : Int32), f_X10_mills_0 I L a1 a2 a3 a4 = some v ∧ f_X11_mills_67 I L a1 a2 a3 a4 = some v ∧ Rel I L
theorem case_31 {p : Program} {l : Launch} {e : Env} {s : State} {m : MethodId} {below : List Frame} {meth : Method} {c : Code} {b N : Nat} {xs : Nat → Int32} {D : va_G} {ad : Nat → Nat} {ca : FieldType → ClassId} (C : LX p s m meth c b N xs D ad ca) (hN : N ≤ 576) {i : Nat} (hi : i + 9 ≤ N) {Rel : mI → mL → Prop} {I : mI} {L : mL} (h : St_mills Rel I L (xs (i + 1)) (xs (i + 2)) (xs (i + 3)) (xs (i + 4))) (kk : ∀ I L, Rel I L → WL p l e s m below meth c b D ad ca 1679 [some (.ref 84), some (.ref 0), some (.ref 67), some (.int (nI i))] [] I L) : WL p l e s m below meth c b D ad ca 1371 [some (.ref 84), some (.ref 0), some (.ref 67), some (.int (nI i))] [] I L := by
  obtain ⟨v, h1, h2, hrel⟩ := h
  refine w_aload_n C (i := 1) dL_law_1371 rfl rfl ?_
  refine w_aload_n C (i := 0) dL_law_1372 rfl rfl ?_
  refine w_iload_n C (i := 3) dL_law_1373 rfl rfl ?_
  refine w_iconst C (v := nI 1) dL_law_1374 (by decide) ?_
  refine w_iadd C dL_law_1375 ?_
  refine w_sld C (lc_in hi hN (by decide)) dL_law_1376 ?_
  rw [lc_at (k := 1) (by omega)]
  refine w_aload_n C (i := 0) dL_law_1377 rfl rfl ?_
  refine w_iload_n C (i := 3) dL_law_1378 rfl rfl ?_
  refine w_iconst C (v := nI 2) dL_law_1379 (by decide) ?_
  refine w_iadd C dL_law_1380 ?_
  refine w_sld C (lc_in hi hN (by decide)) dL_law_1381 ?_
  rw [lc_at (k := 2) (by omega)]
  refine w_aload_n C (i := 0) dL_law_1382 rfl rfl ?_
  refine w_iload_n C (i := 3) dL_law_1383 rfl rfl ?_
  refine w_iconst C (v := nI 3) dL_law_1384 (by decide) ?_
  refine w_iadd C dL_law_1385 ?_
  refine w_sld C (lc_in hi hN (by decide)) dL_law_1386 ?_
  rw [lc_at (k := 3) (by omega)]
  refine w_aload_n C (i := 0) dL_law_1387 rfl rfl ?_
  refine w_iload_n C (i := 3) dL_law_1388 rfl rfl ?_
  refine w_iconst C (v := nI 4) dL_law_1389 (by decide) ?_
  refine w_iadd C dL_law_1390 ?_
  refine w_sld C (lc_in hi hN (by decide)) dL_law_1391 ?_
  rw [lc_at (k := 4) (by omega)]
  refine w_call C (d' := 3) k_L_146 dL_law_1392 (by decide) rfl rfl rfl (Nat.le_of_ble_eq_true rfl) (Nat.le_of_ble_eq_true rfl) (ok_X10_mills_0 (Nat.le_refl _) h1) (fun v I' L' hq => ?_)
  obtain ⟨rfl, rfl, rfl⟩ := hq
  simp only [Option.toList_some, Option.toList_none, List.drop_succ_cons, List.drop_zero, List.drop_nil, List.cons_append, List.nil_append]
  refine w_aload_n C (i := 2) dL_law_1395 rfl rfl ?_
  refine w_aload_n C (i := 0) dL_law_1396 rfl rfl ?_
  refine w_iload_n C (i := 3) dL_law_1397 rfl rfl ?_
  refine w_iconst C (v := nI 1) dL_law_1398 (by decide) ?_
  refine w_iadd C dL_law_1399 ?_
  refine w_sld C (lc_in hi hN (by decide)) dL_law_1400 ?_
  rw [lc_at (k := 1) (by omega)]
  refine w_aload_n C (i := 0) dL_law_1401 rfl rfl ?_
  refine w_iload_n C (i := 3) dL_law_1402 rfl rfl ?_
  refine w_iconst C (v := nI 2) dL_law_1403 (by decide) ?_
  refine w_iadd C dL_law_1404 ?_
  refine w_sld C (lc_in hi hN (by decide)) dL_law_1405 ?_
  rw [lc_at (k := 2) (by omega)]
  refine w_aload_n C (i := 0) dL_law_1406 rfl rfl ?_
  refine w_iload_n C (i := 3) dL_law_1407 rfl rfl ?_
  refine w_iconst C (v := nI 3) dL_law_1408 (by decide) ?_
  refine w_iadd C dL_law_1409 ?_
  refine w_sld C (lc_in hi hN (by decide)) dL_law_1410 ?_
  rw [lc_at (k := 3) (by omega)]
  refine w_aload_n C (i := 0) dL_law_1411 rfl rfl ?_
  refine w_iload_n C (i := 3) dL_law_1412 rfl rfl ?_
  refine w_iconst C (v := nI 4) dL_law_1413 (by decide) ?_
  refine w_iadd C dL_law_1414 ?_
  refine w_sld C (lc_in hi hN (by decide)) dL_law_1415 ?_
  rw [lc_at (k := 4) (by omega)]
  refine w_call C (d' := 2) k_L_149 dL_law_1416 (by decide) rfl rfl rfl (Nat.le_of_ble_eq_true rfl) (Nat.le_of_ble_eq_true rfl) (ok_X11_mills_67 (Nat.le_refl _) h2) (fun v I' L' hq => ?_)
  obtain ⟨rfl, rfl, rfl⟩ := hq
  simp only [Option.toList_some, Option.toList_none, List.drop_succ_cons, List.drop_zero, List.drop_nil, List.cons_append, List.nil_append]
  refine w_icmpeq C (tgt := 1679) dL_law_1419 (by decide) ?_
  exact kk _ _ hrel
/-- the call film: both answer the same, and Rel stays -/
def St_film (Rel : mI → mL → Prop) (I : mI) (L : mL) (a1 : Int32) (a2 : Int32) (a3 : Int32) : Prop := ∃ (v : Int32) (I1 : mI) (L1 : mL) (I2 : mI) (L2 : mL), f_X10_film_0 I L a1 a2 a3 = some (v, I1, L1) ∧ f_X11_film_67 I1 L1 a1 a2 a3 = some (v, I2, L2) ∧ Rel I2 L2
theorem case_32 {p : Program} {l : Launch} {e : Env} {s : State} {m : MethodId} {below : List Frame} {meth : Method} {c : Code} {b N : Nat} {xs : Nat → Int32} {D : va_G} {ad : Nat → Nat} {ca : FieldType → ClassId} (C : LX p s m meth c b N xs D ad ca) (hN : N ≤ 576) {i : Nat} (hi : i + 9 ≤ N) {Rel : mI → mL → Prop} {I : mI} {L : mL} (h : St_film Rel I L (xs (i + 1)) (xs (i + 2)) (xs (i + 3))) (kk : ∀ I L, Rel I L → WL p l e s m below meth c b D ad ca 1679 [some (.ref 84), some (.ref 0), some (.ref 67), some (.int (nI i))] [] I L) : WL p l e s m below meth c b D ad ca 1424 [some (.ref 84), some (.ref 0), some (.ref 67), some (.int (nI i))] [] I L := by
  obtain ⟨v, I1, L1, I2, L2, h1, h2, hrel⟩ := h
  refine w_aload_n C (i := 1) dL_law_1424 rfl rfl ?_
  refine w_aload_n C (i := 0) dL_law_1425 rfl rfl ?_
  refine w_iload_n C (i := 3) dL_law_1426 rfl rfl ?_
  refine w_iconst C (v := nI 1) dL_law_1427 (by decide) ?_
  refine w_iadd C dL_law_1428 ?_
  refine w_sld C (lc_in hi hN (by decide)) dL_law_1429 ?_
  rw [lc_at (k := 1) (by omega)]
  refine w_aload_n C (i := 0) dL_law_1430 rfl rfl ?_
  refine w_iload_n C (i := 3) dL_law_1431 rfl rfl ?_
  refine w_iconst C (v := nI 2) dL_law_1432 (by decide) ?_
  refine w_iadd C dL_law_1433 ?_
  refine w_sld C (lc_in hi hN (by decide)) dL_law_1434 ?_
  rw [lc_at (k := 2) (by omega)]
  refine w_aload_n C (i := 0) dL_law_1435 rfl rfl ?_
  refine w_iload_n C (i := 3) dL_law_1436 rfl rfl ?_
  refine w_iconst C (v := nI 3) dL_law_1437 (by decide) ?_
  refine w_iadd C dL_law_1438 ?_
  refine w_sld C (lc_in hi hN (by decide)) dL_law_1439 ?_
  rw [lc_at (k := 3) (by omega)]
  refine w_call C (d' := 4) k_L_150 dL_law_1440 (by decide) rfl rfl rfl (Nat.le_of_ble_eq_true rfl) (Nat.le_of_ble_eq_true rfl) (ok_X10_film_0 (Nat.le_refl _) h1) (fun v I' L' hq => ?_)
  obtain ⟨rfl, rfl, rfl⟩ := hq
  simp only [Option.toList_some, Option.toList_none, List.drop_succ_cons, List.drop_zero, List.drop_nil, List.cons_append, List.nil_append]
  refine w_aload_n C (i := 2) dL_law_1443 rfl rfl ?_
  refine w_aload_n C (i := 0) dL_law_1444 rfl rfl ?_
  refine w_iload_n C (i := 3) dL_law_1445 rfl rfl ?_
  refine w_iconst C (v := nI 1) dL_law_1446 (by decide) ?_
  refine w_iadd C dL_law_1447 ?_
  refine w_sld C (lc_in hi hN (by decide)) dL_law_1448 ?_
  rw [lc_at (k := 1) (by omega)]
  refine w_aload_n C (i := 0) dL_law_1449 rfl rfl ?_
  refine w_iload_n C (i := 3) dL_law_1450 rfl rfl ?_
  refine w_iconst C (v := nI 2) dL_law_1451 (by decide) ?_
  refine w_iadd C dL_law_1452 ?_
  refine w_sld C (lc_in hi hN (by decide)) dL_law_1453 ?_
  rw [lc_at (k := 2) (by omega)]
  refine w_aload_n C (i := 0) dL_law_1454 rfl rfl ?_
  refine w_iload_n C (i := 3) dL_law_1455 rfl rfl ?_
  refine w_iconst C (v := nI 3) dL_law_1456 (by decide) ?_
  refine w_iadd C dL_law_1457 ?_
  refine w_sld C (lc_in hi hN (by decide)) dL_law_1458 ?_
  rw [lc_at (k := 3) (by omega)]
  refine w_call C (d' := 2) k_L_153 dL_law_1459 (by decide) rfl rfl rfl (Nat.le_of_ble_eq_true rfl) (Nat.le_of_ble_eq_true rfl) (ok_X11_film_67 (Nat.le_refl _) h2) (fun v I' L' hq => ?_)
  obtain ⟨rfl, rfl, rfl⟩ := hq
  simp only [Option.toList_some, Option.toList_none, List.drop_succ_cons, List.drop_zero, List.drop_nil, List.cons_append, List.nil_append]
  refine w_icmpeq C (tgt := 1679) dL_law_1462 (by decide) ?_
  exact kk _ _ hrel
/-- the call sheet: both answer the same, and Rel stays -/
def St_sheet (Rel : mI → mL → Prop) (I : mI) (L : mL) (a1 : Int32) (a2 : Int32) (a3 : Int32) : Prop := ∃ (v : Int32) (I1 : mI) (L1 : mL) (I2 : mI) (L2 : mL), f_X10_sheet_0 I L a1 a2 a3 = some (v, I1, L1) ∧ f_X11_sheet_67 I1 L1 a1 a2 a3 = some (v, I2, L2) ∧ Rel I2 L2
theorem case_33 {p : Program} {l : Launch} {e : Env} {s : State} {m : MethodId} {below : List Frame} {meth : Method} {c : Code} {b N : Nat} {xs : Nat → Int32} {D : va_G} {ad : Nat → Nat} {ca : FieldType → ClassId} (C : LX p s m meth c b N xs D ad ca) (hN : N ≤ 576) {i : Nat} (hi : i + 9 ≤ N) {Rel : mI → mL → Prop} {I : mI} {L : mL} (h : St_sheet Rel I L (xs (i + 1)) (xs (i + 2)) (xs (i + 3))) (kk : ∀ I L, Rel I L → WL p l e s m below meth c b D ad ca 1679 [some (.ref 84), some (.ref 0), some (.ref 67), some (.int (nI i))] [] I L) : WL p l e s m below meth c b D ad ca 1467 [some (.ref 84), some (.ref 0), some (.ref 67), some (.int (nI i))] [] I L := by
  obtain ⟨v, I1, L1, I2, L2, h1, h2, hrel⟩ := h
  refine w_aload_n C (i := 1) dL_law_1467 rfl rfl ?_
  refine w_aload_n C (i := 0) dL_law_1468 rfl rfl ?_
  refine w_iload_n C (i := 3) dL_law_1469 rfl rfl ?_
  refine w_iconst C (v := nI 1) dL_law_1470 (by decide) ?_
  refine w_iadd C dL_law_1471 ?_
  refine w_sld C (lc_in hi hN (by decide)) dL_law_1472 ?_
  rw [lc_at (k := 1) (by omega)]
  refine w_aload_n C (i := 0) dL_law_1473 rfl rfl ?_
  refine w_iload_n C (i := 3) dL_law_1474 rfl rfl ?_
  refine w_iconst C (v := nI 2) dL_law_1475 (by decide) ?_
  refine w_iadd C dL_law_1476 ?_
  refine w_sld C (lc_in hi hN (by decide)) dL_law_1477 ?_
  rw [lc_at (k := 2) (by omega)]
  refine w_aload_n C (i := 0) dL_law_1478 rfl rfl ?_
  refine w_iload_n C (i := 3) dL_law_1479 rfl rfl ?_
  refine w_iconst C (v := nI 3) dL_law_1480 (by decide) ?_
  refine w_iadd C dL_law_1481 ?_
  refine w_sld C (lc_in hi hN (by decide)) dL_law_1482 ?_
  rw [lc_at (k := 3) (by omega)]
  refine w_call C (d' := 2) k_L_154 dL_law_1483 (by decide) rfl rfl rfl (Nat.le_of_ble_eq_true rfl) (Nat.le_of_ble_eq_true rfl) (ok_X10_sheet_0 (Nat.le_refl _) h1) (fun v I' L' hq => ?_)
  obtain ⟨rfl, rfl, rfl⟩ := hq
  simp only [Option.toList_some, Option.toList_none, List.drop_succ_cons, List.drop_zero, List.drop_nil, List.cons_append, List.nil_append]
  refine w_aload_n C (i := 2) dL_law_1486 rfl rfl ?_
  refine w_aload_n C (i := 0) dL_law_1487 rfl rfl ?_
  refine w_iload_n C (i := 3) dL_law_1488 rfl rfl ?_
  refine w_iconst C (v := nI 1) dL_law_1489 (by decide) ?_
  refine w_iadd C dL_law_1490 ?_
  refine w_sld C (lc_in hi hN (by decide)) dL_law_1491 ?_
  rw [lc_at (k := 1) (by omega)]
  refine w_aload_n C (i := 0) dL_law_1492 rfl rfl ?_
  refine w_iload_n C (i := 3) dL_law_1493 rfl rfl ?_
  refine w_iconst C (v := nI 2) dL_law_1494 (by decide) ?_
  refine w_iadd C dL_law_1495 ?_
  refine w_sld C (lc_in hi hN (by decide)) dL_law_1496 ?_
  rw [lc_at (k := 2) (by omega)]
  refine w_aload_n C (i := 0) dL_law_1497 rfl rfl ?_
  refine w_iload_n C (i := 3) dL_law_1498 rfl rfl ?_
  refine w_iconst C (v := nI 3) dL_law_1499 (by decide) ?_
  refine w_iadd C dL_law_1500 ?_
  refine w_sld C (lc_in hi hN (by decide)) dL_law_1501 ?_
  rw [lc_at (k := 3) (by omega)]
  refine w_call C (d' := 2) k_L_157 dL_law_1502 (by decide) rfl rfl rfl (Nat.le_of_ble_eq_true rfl) (Nat.le_of_ble_eq_true rfl) (ok_X11_sheet_67 (Nat.le_refl _) h2) (fun v I' L' hq => ?_)
  obtain ⟨rfl, rfl, rfl⟩ := hq
  simp only [Option.toList_some, Option.toList_none, List.drop_succ_cons, List.drop_zero, List.drop_nil, List.cons_append, List.nil_append]
  refine w_icmpeq C (tgt := 1679) dL_law_1505 (by decide) ?_
  exact kk _ _ hrel
/-- the call drop: both answer the same, and Rel stays -/
def St_drop (Rel : mI → mL → Prop) (I : mI) (L : mL) (a1 : Int32) : Prop := ∃ (v : Int32) (I1 : mI) (L1 : mL) (I2 : mI) (L2 : mL), f_X10_drop_0 I L a1 = some (v, I1, L1) ∧ f_X11_drop_67 I1 L1 a1 = some (v, I2, L2) ∧ Rel I2 L2
theorem case_34 {p : Program} {l : Launch} {e : Env} {s : State} {m : MethodId} {below : List Frame} {meth : Method} {c : Code} {b N : Nat} {xs : Nat → Int32} {D : va_G} {ad : Nat → Nat} {ca : FieldType → ClassId} (C : LX p s m meth c b N xs D ad ca) (hN : N ≤ 576) {i : Nat} (hi : i + 9 ≤ N) {Rel : mI → mL → Prop} {I : mI} {L : mL} (h : St_drop Rel I L (xs (i + 1))) (kk : ∀ I L, Rel I L → WL p l e s m below meth c b D ad ca 1679 [some (.ref 84), some (.ref 0), some (.ref 67), some (.int (nI i))] [] I L) : WL p l e s m below meth c b D ad ca 1510 [some (.ref 84), some (.ref 0), some (.ref 67), some (.int (nI i))] [] I L := by
  obtain ⟨v, I1, L1, I2, L2, h1, h2, hrel⟩ := h
  refine w_aload_n C (i := 1) dL_law_1510 rfl rfl ?_
  refine w_aload_n C (i := 0) dL_law_1511 rfl rfl ?_
  refine w_iload_n C (i := 3) dL_law_1512 rfl rfl ?_
  refine w_iconst C (v := nI 1) dL_law_1513 (by decide) ?_
  refine w_iadd C dL_law_1514 ?_
  refine w_sld C (lc_in hi hN (by decide)) dL_law_1515 ?_
  rw [lc_at (k := 1) (by omega)]
  refine w_call C (d' := 1) k_L_158 dL_law_1516 (by decide) rfl rfl rfl (Nat.le_of_ble_eq_true rfl) (Nat.le_of_ble_eq_true rfl) (ok_X10_drop_0 (Nat.le_refl _) h1) (fun v I' L' hq => ?_)
  obtain ⟨rfl, rfl, rfl⟩ := hq
  simp only [Option.toList_some, Option.toList_none, List.drop_succ_cons, List.drop_zero, List.drop_nil, List.cons_append, List.nil_append]
  refine w_aload_n C (i := 2) dL_law_1519 rfl rfl ?_
  refine w_aload_n C (i := 0) dL_law_1520 rfl rfl ?_
  refine w_iload_n C (i := 3) dL_law_1521 rfl rfl ?_
  refine w_iconst C (v := nI 1) dL_law_1522 (by decide) ?_
  refine w_iadd C dL_law_1523 ?_
  refine w_sld C (lc_in hi hN (by decide)) dL_law_1524 ?_
  rw [lc_at (k := 1) (by omega)]
  refine w_call C (d' := 2) k_L_161 dL_law_1525 (by decide) rfl rfl rfl (Nat.le_of_ble_eq_true rfl) (Nat.le_of_ble_eq_true rfl) (ok_X11_drop_67 (Nat.le_refl _) h2) (fun v I' L' hq => ?_)
  obtain ⟨rfl, rfl, rfl⟩ := hq
  simp only [Option.toList_some, Option.toList_none, List.drop_succ_cons, List.drop_zero, List.drop_nil, List.cons_append, List.nil_append]
  refine w_icmpeq C (tgt := 1679) dL_law_1528 (by decide) ?_
  exact kk _ _ hrel
/-- the call item: both answer the same, and Rel stays -/
def St_item (Rel : mI → mL → Prop) (I : mI) (L : mL) (a1 : Int32) (a2 : Int32) (a3 : Int32) (a4 : Int64) : Prop := ∃ (v : Int32) (I1 : mI) (L1 : mL) (I2 : mI) (L2 : mL), f_X10_item_0 I L a1 a2 a3 a4 = some (v, I1, L1) ∧ f_X11_item_67 I1 L1 a1 a2 a3 a4 = some (v, I2, L2) ∧ Rel I2 L2
theorem case_35 {p : Program} {l : Launch} {e : Env} {s : State} {m : MethodId} {below : List Frame} {meth : Method} {c : Code} {b N : Nat} {xs : Nat → Int32} {D : va_G} {ad : Nat → Nat} {ca : FieldType → ClassId} (C : LX p s m meth c b N xs D ad ca) (hN : N ≤ 576) {i : Nat} (hi : i + 9 ≤ N) {Rel : mI → mL → Prop} {I : mI} {L : mL} (h : St_item Rel I L (xs (i + 1)) (xs (i + 2)) (xs (i + 3)) (((xs (i + 4)).toInt64 <<< ((32 : Int32).toInt64 &&& 63)) ||| ((xs (i + 5)).toInt64 &&& 4294967295))) (kk : ∀ I L, Rel I L → WL p l e s m below meth c b D ad ca 1679 [some (.ref 84), some (.ref 0), some (.ref 67), some (.int (nI i))] [] I L) : WL p l e s m below meth c b D ad ca 1533 [some (.ref 84), some (.ref 0), some (.ref 67), some (.int (nI i))] [] I L := by
  obtain ⟨v, I1, L1, I2, L2, h1, h2, hrel⟩ := h
  refine w_aload_n C (i := 1) dL_law_1533 rfl rfl ?_
  refine w_aload_n C (i := 0) dL_law_1534 rfl rfl ?_
  refine w_iload_n C (i := 3) dL_law_1535 rfl rfl ?_
  refine w_iconst C (v := nI 1) dL_law_1536 (by decide) ?_
  refine w_iadd C dL_law_1537 ?_
  refine w_sld C (lc_in hi hN (by decide)) dL_law_1538 ?_
  rw [lc_at (k := 1) (by omega)]
  refine w_aload_n C (i := 0) dL_law_1539 rfl rfl ?_
  refine w_iload_n C (i := 3) dL_law_1540 rfl rfl ?_
  refine w_iconst C (v := nI 2) dL_law_1541 (by decide) ?_
  refine w_iadd C dL_law_1542 ?_
  refine w_sld C (lc_in hi hN (by decide)) dL_law_1543 ?_
  rw [lc_at (k := 2) (by omega)]
  refine w_aload_n C (i := 0) dL_law_1544 rfl rfl ?_
  refine w_iload_n C (i := 3) dL_law_1545 rfl rfl ?_
  refine w_iconst C (v := nI 3) dL_law_1546 (by decide) ?_
  refine w_iadd C dL_law_1547 ?_
  refine w_sld C (lc_in hi hN (by decide)) dL_law_1548 ?_
  rw [lc_at (k := 3) (by omega)]
  refine w_aload_n C (i := 0) dL_law_1549 rfl rfl ?_
  refine w_iload_n C (i := 3) dL_law_1550 rfl rfl ?_
  refine w_iconst C (v := nI 4) dL_law_1551 (by decide) ?_
  refine w_iadd C dL_law_1552 ?_
  refine w_sld C (lc_in hi hN (by decide)) dL_law_1553 ?_
  rw [lc_at (k := 4) (by omega)]
  refine w_i2l C dL_law_1554 ?_
  refine w_bipush C (v := 32) dL_law_1555 (by decide) ?_
  refine w_lshl C dL_law_1557 ?_
  refine w_aload_n C (i := 0) dL_law_1558 rfl rfl ?_
  refine w_iload_n C (i := 3) dL_law_1559 rfl rfl ?_
  refine w_iconst C (v := nI 5) dL_law_1560 (by decide) ?_
  refine w_iadd C dL_law_1561 ?_
  refine w_sld C (lc_in hi hN (by decide)) dL_law_1562 ?_
  rw [lc_at (k := 5) (by omega)]
  refine w_i2l C dL_law_1563 ?_
  refine w_ldc2 C n_LL_162 dL_law_1564 ?_
  refine w_land C dL_law_1567 ?_
  refine w_lor C dL_law_1568 ?_
  refine w_call C (d' := 2) k_L_164 dL_law_1569 (by decide) rfl rfl rfl (Nat.le_of_ble_eq_true rfl) (Nat.le_of_ble_eq_true rfl) (ok_X10_item_0 (Nat.le_refl _) h1) (fun v I' L' hq => ?_)
  obtain ⟨rfl, rfl, rfl⟩ := hq
  simp only [Option.toList_some, Option.toList_none, List.drop_succ_cons, List.drop_zero, List.drop_nil, List.cons_append, List.nil_append]
  refine w_aload_n C (i := 2) dL_law_1572 rfl rfl ?_
  refine w_aload_n C (i := 0) dL_law_1573 rfl rfl ?_
  refine w_iload_n C (i := 3) dL_law_1574 rfl rfl ?_
  refine w_iconst C (v := nI 1) dL_law_1575 (by decide) ?_
  refine w_iadd C dL_law_1576 ?_
  refine w_sld C (lc_in hi hN (by decide)) dL_law_1577 ?_
  rw [lc_at (k := 1) (by omega)]
  refine w_aload_n C (i := 0) dL_law_1578 rfl rfl ?_
  refine w_iload_n C (i := 3) dL_law_1579 rfl rfl ?_
  refine w_iconst C (v := nI 2) dL_law_1580 (by decide) ?_
  refine w_iadd C dL_law_1581 ?_
  refine w_sld C (lc_in hi hN (by decide)) dL_law_1582 ?_
  rw [lc_at (k := 2) (by omega)]
  refine w_aload_n C (i := 0) dL_law_1583 rfl rfl ?_
  refine w_iload_n C (i := 3) dL_law_1584 rfl rfl ?_
  refine w_iconst C (v := nI 3) dL_law_1585 (by decide) ?_
  refine w_iadd C dL_law_1586 ?_
  refine w_sld C (lc_in hi hN (by decide)) dL_law_1587 ?_
  rw [lc_at (k := 3) (by omega)]
  refine w_aload_n C (i := 0) dL_law_1588 rfl rfl ?_
  refine w_iload_n C (i := 3) dL_law_1589 rfl rfl ?_
  refine w_iconst C (v := nI 4) dL_law_1590 (by decide) ?_
  refine w_iadd C dL_law_1591 ?_
  refine w_sld C (lc_in hi hN (by decide)) dL_law_1592 ?_
  rw [lc_at (k := 4) (by omega)]
  refine w_i2l C dL_law_1593 ?_
  refine w_bipush C (v := 32) dL_law_1594 (by decide) ?_
  refine w_lshl C dL_law_1596 ?_
  refine w_aload_n C (i := 0) dL_law_1597 rfl rfl ?_
  refine w_iload_n C (i := 3) dL_law_1598 rfl rfl ?_
  refine w_iconst C (v := nI 5) dL_law_1599 (by decide) ?_
  refine w_iadd C dL_law_1600 ?_
  refine w_sld C (lc_in hi hN (by decide)) dL_law_1601 ?_
  rw [lc_at (k := 5) (by omega)]
  refine w_i2l C dL_law_1602 ?_
  refine w_ldc2 C n_LL_162 dL_law_1603 ?_
  refine w_land C dL_law_1606 ?_
  refine w_lor C dL_law_1607 ?_
  refine w_call C (d' := 2) k_L_168 dL_law_1608 (by decide) rfl rfl rfl (Nat.le_of_ble_eq_true rfl) (Nat.le_of_ble_eq_true rfl) (ok_X11_item_67 (Nat.le_refl _) h2) (fun v I' L' hq => ?_)
  obtain ⟨rfl, rfl, rfl⟩ := hq
  simp only [Option.toList_some, Option.toList_none, List.drop_succ_cons, List.drop_zero, List.drop_nil, List.cons_append, List.nil_append]
  refine w_icmpeq C (tgt := 1679) dL_law_1611 (by decide) ?_
  exact kk _ _ hrel
/-- the call copy: both answer the same, and Rel stays -/
def St_copy (Rel : mI → mL → Prop) (I : mI) (L : mL) (a1 : Int32) (a2 : Int32) (a3 : Int32) (a4 : Int32) (a5 : Int32) : Prop := ∃ (v : Int32) (I1 : mI) (L1 : mL) (I2 : mI) (L2 : mL), f_X10_copy_0 I L a1 a2 a3 a4 a5 = some (v, I1, L1) ∧ f_X11_copy_67 I1 L1 a1 a2 a3 a4 a5 = some (v, I2, L2) ∧ Rel I2 L2
theorem case_36 {p : Program} {l : Launch} {e : Env} {s : State} {m : MethodId} {below : List Frame} {meth : Method} {c : Code} {b N : Nat} {xs : Nat → Int32} {D : va_G} {ad : Nat → Nat} {ca : FieldType → ClassId} (C : LX p s m meth c b N xs D ad ca) (hN : N ≤ 576) {i : Nat} (hi : i + 9 ≤ N) {Rel : mI → mL → Prop} {I : mI} {L : mL} (h : St_copy Rel I L (xs (i + 1)) (xs (i + 2)) (xs (i + 3)) (xs (i + 4)) (xs (i + 5))) (kk : ∀ I L, Rel I L → WL p l e s m below meth c b D ad ca 1679 [some (.ref 84), some (.ref 0), some (.ref 67), some (.int (nI i))] [] I L) : WL p l e s m below meth c b D ad ca 1616 [some (.ref 84), some (.ref 0), some (.ref 67), some (.int (nI i))] [] I L := by
  obtain ⟨v, I1, L1, I2, L2, h1, h2, hrel⟩ := h
  refine w_aload_n C (i := 1) dL_law_1616 rfl rfl ?_
  refine w_aload_n C (i := 0) dL_law_1617 rfl rfl ?_
  refine w_iload_n C (i := 3) dL_law_1618 rfl rfl ?_
  refine w_iconst C (v := nI 1) dL_law_1619 (by decide) ?_
  refine w_iadd C dL_law_1620 ?_
  refine w_sld C (lc_in hi hN (by decide)) dL_law_1621 ?_
  rw [lc_at (k := 1) (by omega)]
  refine w_aload_n C (i := 0) dL_law_1622 rfl rfl ?_
  refine w_iload_n C (i := 3) dL_law_1623 rfl rfl ?_
  refine w_iconst C (v := nI 2) dL_law_1624 (by decide) ?_
  refine w_iadd C dL_law_1625 ?_
  refine w_sld C (lc_in hi hN (by decide)) dL_law_1626 ?_
  rw [lc_at (k := 2) (by omega)]
  refine w_aload_n C (i := 0) dL_law_1627 rfl rfl ?_
  refine w_iload_n C (i := 3) dL_law_1628 rfl rfl ?_
  refine w_iconst C (v := nI 3) dL_law_1629 (by decide) ?_
  refine w_iadd C dL_law_1630 ?_
  refine w_sld C (lc_in hi hN (by decide)) dL_law_1631 ?_
  rw [lc_at (k := 3) (by omega)]
  refine w_aload_n C (i := 0) dL_law_1632 rfl rfl ?_
  refine w_iload_n C (i := 3) dL_law_1633 rfl rfl ?_
  refine w_iconst C (v := nI 4) dL_law_1634 (by decide) ?_
  refine w_iadd C dL_law_1635 ?_
  refine w_sld C (lc_in hi hN (by decide)) dL_law_1636 ?_
  rw [lc_at (k := 4) (by omega)]
  refine w_aload_n C (i := 0) dL_law_1637 rfl rfl ?_
  refine w_iload_n C (i := 3) dL_law_1638 rfl rfl ?_
  refine w_iconst C (v := nI 5) dL_law_1639 (by decide) ?_
  refine w_iadd C dL_law_1640 ?_
  refine w_sld C (lc_in hi hN (by decide)) dL_law_1641 ?_
  rw [lc_at (k := 5) (by omega)]
  refine w_call C (d' := 1) k_L_169 dL_law_1642 (by decide) rfl rfl rfl (Nat.le_of_ble_eq_true rfl) (Nat.le_of_ble_eq_true rfl) (ok_X10_copy_0 (Nat.le_refl _) h1) (fun v I' L' hq => ?_)
  obtain ⟨rfl, rfl, rfl⟩ := hq
  simp only [Option.toList_some, Option.toList_none, List.drop_succ_cons, List.drop_zero, List.drop_nil, List.cons_append, List.nil_append]
  refine w_aload_n C (i := 2) dL_law_1645 rfl rfl ?_
  refine w_aload_n C (i := 0) dL_law_1646 rfl rfl ?_
  refine w_iload_n C (i := 3) dL_law_1647 rfl rfl ?_
  refine w_iconst C (v := nI 1) dL_law_1648 (by decide) ?_
  refine w_iadd C dL_law_1649 ?_
  refine w_sld C (lc_in hi hN (by decide)) dL_law_1650 ?_
  rw [lc_at (k := 1) (by omega)]
  refine w_aload_n C (i := 0) dL_law_1651 rfl rfl ?_
  refine w_iload_n C (i := 3) dL_law_1652 rfl rfl ?_
  refine w_iconst C (v := nI 2) dL_law_1653 (by decide) ?_
  refine w_iadd C dL_law_1654 ?_
  refine w_sld C (lc_in hi hN (by decide)) dL_law_1655 ?_
  rw [lc_at (k := 2) (by omega)]
  refine w_aload_n C (i := 0) dL_law_1656 rfl rfl ?_
  refine w_iload_n C (i := 3) dL_law_1657 rfl rfl ?_
  refine w_iconst C (v := nI 3) dL_law_1658 (by decide) ?_
  refine w_iadd C dL_law_1659 ?_
  refine w_sld C (lc_in hi hN (by decide)) dL_law_1660 ?_
  rw [lc_at (k := 3) (by omega)]
  refine w_aload_n C (i := 0) dL_law_1661 rfl rfl ?_
  refine w_iload_n C (i := 3) dL_law_1662 rfl rfl ?_
  refine w_iconst C (v := nI 4) dL_law_1663 (by decide) ?_
  refine w_iadd C dL_law_1664 ?_
  refine w_sld C (lc_in hi hN (by decide)) dL_law_1665 ?_
  rw [lc_at (k := 4) (by omega)]
  refine w_aload_n C (i := 0) dL_law_1666 rfl rfl ?_
  refine w_iload_n C (i := 3) dL_law_1667 rfl rfl ?_
  refine w_iconst C (v := nI 5) dL_law_1668 (by decide) ?_
  refine w_iadd C dL_law_1669 ?_
  refine w_sld C (lc_in hi hN (by decide)) dL_law_1670 ?_
  rw [lc_at (k := 5) (by omega)]
  refine w_call C (d' := 2) k_L_172 dL_law_1671 (by decide) rfl rfl rfl (Nat.le_of_ble_eq_true rfl) (Nat.le_of_ble_eq_true rfl) (ok_X11_copy_67 (Nat.le_refl _) h2) (fun v I' L' hq => ?_)
  obtain ⟨rfl, rfl, rfl⟩ := hq
  simp only [Option.toList_some, Option.toList_none, List.drop_succ_cons, List.drop_zero, List.drop_nil, List.cons_append, List.nil_append]
  refine w_icmpeq C (tgt := 1679) dL_law_1674 (by decide) ?_
  exact kk _ _ hrel
