set_option maxHeartbeats 4000000 in
theorem vc_Mo_layers_0_0 (x2 : Int) (x3 : Int) (x4 : Int) (x5 : Int) (all_0 : Int → Int) (r_0 : Int) (permBegin_0 : Int → Int) (permMany_0 : Int → Int) (perm_0 : Int → Int) (turned_0 : Int → Int) (all_1 : Int → Int) (r_1 : Int) (permBegin_1 : Int → Int) (permMany_1 : Int → Int) (perm_1 : Int → Int) (turned_1 : Int → Int) (all_2 : Int → Int) (r_2 : Int) (permBegin_2 : Int → Int) (permMany_2 : Int → Int) (perm_2 : Int → Int) (turned_2 : Int → Int) (all_3 : Int → Int) (r_3 : Int) (permBegin_3 : Int → Int) (permMany_3 : Int → Int) (perm_3 : Int → Int) (turned_3 : Int → Int) (pointMany_0 : Int) (pointMany_1 : Int) (costMany_0 : Int) (costMany_1 : Int) (apartMany_0 : Int) (pointMany_2 : Int) (apartMany_1 : Int) (apartMany_2 : Int) (costMany_2 : Int) (costMany_3 : Int) (apartMany_3 : Int) (costA_0 : Int → Int) (costA_1 : Int → Int) (costA_2 : Int → Int) (costA_3 : Int → Int) (costB_0 : Int → Int) (costB_1 : Int → Int) (costB_2 : Int → Int) (costB_3 : Int → Int) (costW_0 : Int → Int) (costW_1 : Int → Int) (costW_2 : Int → Int) (costW_3 : Int → Int) (costPlain_0 : Int → Int) (costPlain_1 : Int → Int) (costPlain_2 : Int → Int) (costPlain_3 : Int → Int) (apartA_0 : Int → Int) (apartA_1 : Int → Int) (apartA_2 : Int → Int) (apartA_3 : Int → Int) (apartB_0 : Int → Int) (apartB_1 : Int → Int) (apartB_2 : Int → Int) (apartB_3 : Int → Int) (apart_0 : Int → Int) (apart_1 : Int → Int) (apart_2 : Int → Int) (apart_3 : Int → Int) (k2 : 0 ≤ x2 ∧ x2 ≤ 24) (k3 : 0 ≤ x3 ∧ x3 ≤ 0) (k4 : 0 ≤ x4 ∧ x4 ≤ 0) (k5 : 0 ≤ x5 ∧ x5 ≤ 0) (f0 : 1 * x2 + ((-1) * all_0 (r_0 + 0) + 0) ≤ 0) (f1 : (-1) * x2 + (1 * all_0 (r_0 + 0) + 0) ≤ 0) (f2 : SGR (r_0) (all_0)) (f3 : PTB (permBegin_0) (permMany_0) (perm_0)) (f4 : 1 ≤ all_0 (r_0)) (f5 : TRK (r_0) (all_0) (turned_0)) (f7 : 1 * x2 + ((-1) * all_1 (r_0 + 0) + 0) ≤ 0) (f8 : (-1) * x2 + (1 * all_1 (r_0 + 0) + 0) ≤ 0) (f9 : SGR (r_1) (all_1)) (f10 : PTB (permBegin_1) (permMany_1) (perm_1)) (f11 : 1 ≤ all_1 (r_1)) (f12 : TRK (r_1) (all_1) (turned_1)) (f14 : 1 * x2 + ((-1) * all_2 (r_0 + 0) + 0) ≤ 0) (f15 : (-1) * x2 + (1 * all_2 (r_0 + 0) + 0) ≤ 0) (f16 : SGR (r_2) (all_2)) (f17 : PTB (permBegin_2) (permMany_2) (perm_2)) (f18 : 1 ≤ all_2 (r_2)) (f19 : TRK (r_2) (all_2) (turned_2)) (f21 : 1 * x2 + ((-1) * all_3 (r_0 + 0) + 0) ≤ 0) (f22 : (-1) * x2 + (1 * all_3 (r_0 + 0) + 0) ≤ 0) (f23 : SGR (r_3) (all_3)) (f24 : PTB (permBegin_3) (permMany_3) (perm_3)) (f25 : 1 ≤ all_3 (r_3)) (f26 : TRK (r_3) (all_3) (turned_3)) (fe_0_5_1 : r_0 = r_1) (fe_0_79_1 : pointMany_0 = pointMany_1) (fe_0_80_1 : costMany_0 = costMany_1) (fe_0_81_1 : apartMany_0 = x4) (fe_0_5_2 : r_1 = r_2) (fe_0_79_2 : pointMany_1 = pointMany_2) (fe_0_80_2 : costMany_1 = x3) (fe_0_81_2 : apartMany_1 = apartMany_2) (fe_0_5_3 : r_2 = r_3) (fe_0_79_3 : pointMany_2 = x2) (fe_0_80_3 : costMany_2 = costMany_3) (fe_0_81_3 : apartMany_2 = apartMany_3) (hE_0_2_1 : ∀ j : Int, all_0 j = all_1 j) (hE_0_2_2 : ∀ j : Int, all_1 j = all_2 j) (hE_0_2_3 : ∀ j : Int, all_2 j = all_3 j) (hE_0_83_1 : ∀ j : Int, costA_0 j = costA_1 j) (hE_0_83_2 : ∀ j : Int, costA_1 j = costA_2 j) (hE_0_83_3 : ∀ j : Int, costA_2 j = costA_3 j) (hK_0_83 : ∀ j : Int, 0 ≤ j → j < 200 → 0 ≤ costA_0 j ∧ costA_0 j ≤ 75) (hE_0_84_1 : ∀ j : Int, costB_0 j = costB_1 j) (hE_0_84_2 : ∀ j : Int, costB_1 j = costB_2 j) (hE_0_84_3 : ∀ j : Int, costB_2 j = costB_3 j) (hK_0_84 : ∀ j : Int, 0 ≤ j → j < 200 → 0 ≤ costB_0 j ∧ costB_0 j ≤ 75) (hE_0_85_1 : ∀ j : Int, costW_0 j = costW_1 j) (hE_0_85_2 : ∀ j : Int, costW_1 j = costW_2 j) (hE_0_85_3 : ∀ j : Int, costW_2 j = costW_3 j) (hK_0_85 : ∀ j : Int, 0 ≤ j → j < 200 → 0 ≤ costW_0 j ∧ costW_0 j ≤ 72) (hE_0_86_1 : ∀ j : Int, costPlain_0 j = costPlain_1 j) (hE_0_86_2 : ∀ j : Int, costPlain_1 j = costPlain_2 j) (hE_0_86_3 : ∀ j : Int, costPlain_2 j = costPlain_3 j) (hK_0_86 : ∀ j : Int, 0 ≤ j → j < 200 → 0 ≤ costPlain_0 j ∧ costPlain_0 j ≤ 1) (hE_0_87_1 : ∀ j : Int, apartA_0 j = apartA_1 j) (hE_0_87_2 : ∀ j : Int, apartA_1 j = apartA_2 j) (hE_0_87_3 : ∀ j : Int, apartA_2 j = apartA_3 j) (hK_0_87 : ∀ j : Int, 0 ≤ j → j < 200 → 0 ≤ apartA_0 j ∧ apartA_0 j ≤ 75) (hE_0_88_1 : ∀ j : Int, apartB_0 j = apartB_1 j) (hE_0_88_2 : ∀ j : Int, apartB_1 j = apartB_2 j) (hE_0_88_3 : ∀ j : Int, apartB_2 j = apartB_3 j) (hK_0_88 : ∀ j : Int, 0 ≤ j → j < 200 → 0 ≤ apartB_0 j ∧ apartB_0 j ≤ 75) (hE_0_89_1 : ∀ j : Int, apart_0 j = apart_1 j) (hE_0_89_2 : ∀ j : Int, apart_1 j = apart_2 j) (hE_0_89_3 : ∀ j : Int, apart_2 j = apart_3 j) (hK_0_89 : ∀ j : Int, 0 ≤ j → j < 200 → 0 ≤ apart_0 j ∧ apart_0 j ≤ 202) (hE_0_95_1 : ∀ j : Int, turned_0 j = turned_1 j) (hE_0_95_2 : ∀ j : Int, turned_1 j = turned_2 j) (hE_0_95_3 : ∀ j : Int, turned_2 j = turned_3 j) (hK_0_95 : ∀ j : Int, 0 ≤ j → j < 48 → 0 ≤ turned_0 j ∧ turned_0 j ≤ 1) (hE_0_110_1 : ∀ j : Int, permBegin_0 j = permBegin_1 j) (hE_0_110_2 : ∀ j : Int, permBegin_1 j = permBegin_2 j) (hE_0_110_3 : ∀ j : Int, permBegin_2 j = permBegin_3 j) (hK_0_110 : ∀ j : Int, 0 ≤ j → j < 8 → 0 ≤ permBegin_0 j ∧ permBegin_0 j ≤ 5500) (hE_0_111_1 : ∀ j : Int, permMany_0 j = permMany_1 j) (hE_0_111_2 : ∀ j : Int, permMany_1 j = permMany_2 j) (hE_0_111_3 : ∀ j : Int, permMany_2 j = permMany_3 j) (hK_0_111 : ∀ j : Int, 0 ≤ j → j < 8 → 0 ≤ permMany_0 j ∧ permMany_0 j ≤ 720) (hE_0_112_1 : ∀ j : Int, perm_0 j = perm_1 j) (hE_0_112_2 : ∀ j : Int, perm_1 j = perm_2 j) (hE_0_112_3 : ∀ j : Int, perm_2 j = perm_3 j) (hK_0_112 : ∀ j : Int, 0 ≤ j → j < 6000 → 0 ≤ perm_0 j ∧ perm_0 j ≤ 5) (kz_0_79 : 0 ≤ pointMany_0 ∧ pointMany_0 ≤ 76) (kz_0_80 : 0 ≤ costMany_0 ∧ costMany_0 ≤ 200) (kz_0_81 : 0 ≤ apartMany_0 ∧ apartMany_0 ≤ 200) : x5 ≤ all_0 ((r_0 + 1)) := by
  subst fe_0_5_1
  subst fe_0_79_1
  subst fe_0_80_1
  subst fe_0_5_2
  subst fe_0_79_2
  subst fe_0_81_2
  subst fe_0_5_3
  subst fe_0_80_3
  subst fe_0_81_3
  have e_hE_0_2_1 := funext hE_0_2_1; subst e_hE_0_2_1
  have e_hE_0_2_2 := funext hE_0_2_2; subst e_hE_0_2_2
  have e_hE_0_2_3 := funext hE_0_2_3; subst e_hE_0_2_3
  have e_hE_0_83_1 := funext hE_0_83_1; subst e_hE_0_83_1
  have e_hE_0_83_2 := funext hE_0_83_2; subst e_hE_0_83_2
  have e_hE_0_83_3 := funext hE_0_83_3; subst e_hE_0_83_3
  have e_hE_0_84_1 := funext hE_0_84_1; subst e_hE_0_84_1
  have e_hE_0_84_2 := funext hE_0_84_2; subst e_hE_0_84_2
  have e_hE_0_84_3 := funext hE_0_84_3; subst e_hE_0_84_3
  have e_hE_0_85_1 := funext hE_0_85_1; subst e_hE_0_85_1
  have e_hE_0_85_2 := funext hE_0_85_2; subst e_hE_0_85_2
  have e_hE_0_85_3 := funext hE_0_85_3; subst e_hE_0_85_3
  have e_hE_0_86_1 := funext hE_0_86_1; subst e_hE_0_86_1
  have e_hE_0_86_2 := funext hE_0_86_2; subst e_hE_0_86_2
  have e_hE_0_86_3 := funext hE_0_86_3; subst e_hE_0_86_3
  have e_hE_0_87_1 := funext hE_0_87_1; subst e_hE_0_87_1
  have e_hE_0_87_2 := funext hE_0_87_2; subst e_hE_0_87_2
  have e_hE_0_87_3 := funext hE_0_87_3; subst e_hE_0_87_3
  have e_hE_0_88_1 := funext hE_0_88_1; subst e_hE_0_88_1
  have e_hE_0_88_2 := funext hE_0_88_2; subst e_hE_0_88_2
  have e_hE_0_88_3 := funext hE_0_88_3; subst e_hE_0_88_3
  have e_hE_0_89_1 := funext hE_0_89_1; subst e_hE_0_89_1
  have e_hE_0_89_2 := funext hE_0_89_2; subst e_hE_0_89_2
  have e_hE_0_89_3 := funext hE_0_89_3; subst e_hE_0_89_3
  have e_hE_0_95_1 := funext hE_0_95_1; subst e_hE_0_95_1
  have e_hE_0_95_2 := funext hE_0_95_2; subst e_hE_0_95_2
  have e_hE_0_95_3 := funext hE_0_95_3; subst e_hE_0_95_3
  have e_hE_0_110_1 := funext hE_0_110_1; subst e_hE_0_110_1
  have e_hE_0_110_2 := funext hE_0_110_2; subst e_hE_0_110_2
  have e_hE_0_110_3 := funext hE_0_110_3; subst e_hE_0_110_3
  have e_hE_0_111_1 := funext hE_0_111_1; subst e_hE_0_111_1
  have e_hE_0_111_2 := funext hE_0_111_2; subst e_hE_0_111_2
  have e_hE_0_111_3 := funext hE_0_111_3; subst e_hE_0_111_3
  have e_hE_0_112_1 := funext hE_0_112_1; subst e_hE_0_112_1
  have e_hE_0_112_2 := funext hE_0_112_2; subst e_hE_0_112_2
  have e_hE_0_112_3 := funext hE_0_112_3; subst e_hE_0_112_3
  try simp only [Int.add_zero] at *
  first
    | omega
    | (have h := ‹SGR _ _›.1; omega)
    | (have h := ‹LSA _ _ _ _ _ _ _ _ _ _›.2.1; have h2 := ‹LSA _ _ _ _ _ _ _ _ _ _›.2.2.1 0 (by omega) (by omega); omega)
set_option maxHeartbeats 4000000 in
theorem vc_Mo_layers_0_1 (x2 : Int) (x3 : Int) (x4 : Int) (x5 : Int) (all_0 : Int → Int) (r_0 : Int) (permBegin_0 : Int → Int) (permMany_0 : Int → Int) (perm_0 : Int → Int) (turned_0 : Int → Int) (all_1 : Int → Int) (r_1 : Int) (permBegin_1 : Int → Int) (permMany_1 : Int → Int) (perm_1 : Int → Int) (turned_1 : Int → Int) (all_2 : Int → Int) (r_2 : Int) (permBegin_2 : Int → Int) (permMany_2 : Int → Int) (perm_2 : Int → Int) (turned_2 : Int → Int) (all_3 : Int → Int) (r_3 : Int) (permBegin_3 : Int → Int) (permMany_3 : Int → Int) (perm_3 : Int → Int) (turned_3 : Int → Int) (pointMany_0 : Int) (pointMany_1 : Int) (costMany_0 : Int) (costMany_1 : Int) (apartMany_0 : Int) (pointMany_2 : Int) (apartMany_1 : Int) (apartMany_2 : Int) (costMany_2 : Int) (costMany_3 : Int) (apartMany_3 : Int) (costA_0 : Int → Int) (costA_1 : Int → Int) (costA_2 : Int → Int) (costA_3 : Int → Int) (costB_0 : Int → Int) (costB_1 : Int → Int) (costB_2 : Int → Int) (costB_3 : Int → Int) (costW_0 : Int → Int) (costW_1 : Int → Int) (costW_2 : Int → Int) (costW_3 : Int → Int) (costPlain_0 : Int → Int) (costPlain_1 : Int → Int) (costPlain_2 : Int → Int) (costPlain_3 : Int → Int) (apartA_0 : Int → Int) (apartA_1 : Int → Int) (apartA_2 : Int → Int) (apartA_3 : Int → Int) (apartB_0 : Int → Int) (apartB_1 : Int → Int) (apartB_2 : Int → Int) (apartB_3 : Int → Int) (apart_0 : Int → Int) (apart_1 : Int → Int) (apart_2 : Int → Int) (apart_3 : Int → Int) (k2 : 0 ≤ x2 ∧ x2 ≤ 24) (k3 : 0 ≤ x3 ∧ x3 ≤ 0) (k4 : 0 ≤ x4 ∧ x4 ≤ 0) (k5 : 0 ≤ x5 ∧ x5 ≤ 0) (f0 : 1 * x2 + ((-1) * all_0 (r_0 + 0) + 0) ≤ 0) (f1 : (-1) * x2 + (1 * all_0 (r_0 + 0) + 0) ≤ 0) (f2 : SGR (r_0) (all_0)) (f3 : PTB (permBegin_0) (permMany_0) (perm_0)) (f4 : 1 ≤ all_0 (r_0)) (f5 : TRK (r_0) (all_0) (turned_0)) (f7 : 1 * x2 + ((-1) * all_1 (r_0 + 0) + 0) ≤ 0) (f8 : (-1) * x2 + (1 * all_1 (r_0 + 0) + 0) ≤ 0) (f9 : SGR (r_1) (all_1)) (f10 : PTB (permBegin_1) (permMany_1) (perm_1)) (f11 : 1 ≤ all_1 (r_1)) (f12 : TRK (r_1) (all_1) (turned_1)) (f14 : 1 * x2 + ((-1) * all_2 (r_0 + 0) + 0) ≤ 0) (f15 : (-1) * x2 + (1 * all_2 (r_0 + 0) + 0) ≤ 0) (f16 : SGR (r_2) (all_2)) (f17 : PTB (permBegin_2) (permMany_2) (perm_2)) (f18 : 1 ≤ all_2 (r_2)) (f19 : TRK (r_2) (all_2) (turned_2)) (f21 : 1 * x2 + ((-1) * all_3 (r_0 + 0) + 0) ≤ 0) (f22 : (-1) * x2 + (1 * all_3 (r_0 + 0) + 0) ≤ 0) (f23 : SGR (r_3) (all_3)) (f24 : PTB (permBegin_3) (permMany_3) (perm_3)) (f25 : 1 ≤ all_3 (r_3)) (f26 : TRK (r_3) (all_3) (turned_3)) (fe_0_5_1 : r_0 = r_1) (fe_0_79_1 : pointMany_0 = pointMany_1) (fe_0_80_1 : costMany_0 = costMany_1) (fe_0_81_1 : apartMany_0 = x4) (fe_0_5_2 : r_1 = r_2) (fe_0_79_2 : pointMany_1 = pointMany_2) (fe_0_80_2 : costMany_1 = x3) (fe_0_81_2 : apartMany_1 = apartMany_2) (fe_0_5_3 : r_2 = r_3) (fe_0_79_3 : pointMany_2 = x2) (fe_0_80_3 : costMany_2 = costMany_3) (fe_0_81_3 : apartMany_2 = apartMany_3) (hE_0_2_1 : ∀ j : Int, all_0 j = all_1 j) (hE_0_2_2 : ∀ j : Int, all_1 j = all_2 j) (hE_0_2_3 : ∀ j : Int, all_2 j = all_3 j) (hE_0_83_1 : ∀ j : Int, costA_0 j = costA_1 j) (hE_0_83_2 : ∀ j : Int, costA_1 j = costA_2 j) (hE_0_83_3 : ∀ j : Int, costA_2 j = costA_3 j) (hK_0_83 : ∀ j : Int, 0 ≤ j → j < 200 → 0 ≤ costA_0 j ∧ costA_0 j ≤ 75) (hE_0_84_1 : ∀ j : Int, costB_0 j = costB_1 j) (hE_0_84_2 : ∀ j : Int, costB_1 j = costB_2 j) (hE_0_84_3 : ∀ j : Int, costB_2 j = costB_3 j) (hK_0_84 : ∀ j : Int, 0 ≤ j → j < 200 → 0 ≤ costB_0 j ∧ costB_0 j ≤ 75) (hE_0_85_1 : ∀ j : Int, costW_0 j = costW_1 j) (hE_0_85_2 : ∀ j : Int, costW_1 j = costW_2 j) (hE_0_85_3 : ∀ j : Int, costW_2 j = costW_3 j) (hK_0_85 : ∀ j : Int, 0 ≤ j → j < 200 → 0 ≤ costW_0 j ∧ costW_0 j ≤ 72) (hE_0_86_1 : ∀ j : Int, costPlain_0 j = costPlain_1 j) (hE_0_86_2 : ∀ j : Int, costPlain_1 j = costPlain_2 j) (hE_0_86_3 : ∀ j : Int, costPlain_2 j = costPlain_3 j) (hK_0_86 : ∀ j : Int, 0 ≤ j → j < 200 → 0 ≤ costPlain_0 j ∧ costPlain_0 j ≤ 1) (hE_0_87_1 : ∀ j : Int, apartA_0 j = apartA_1 j) (hE_0_87_2 : ∀ j : Int, apartA_1 j = apartA_2 j) (hE_0_87_3 : ∀ j : Int, apartA_2 j = apartA_3 j) (hK_0_87 : ∀ j : Int, 0 ≤ j → j < 200 → 0 ≤ apartA_0 j ∧ apartA_0 j ≤ 75) (hE_0_88_1 : ∀ j : Int, apartB_0 j = apartB_1 j) (hE_0_88_2 : ∀ j : Int, apartB_1 j = apartB_2 j) (hE_0_88_3 : ∀ j : Int, apartB_2 j = apartB_3 j) (hK_0_88 : ∀ j : Int, 0 ≤ j → j < 200 → 0 ≤ apartB_0 j ∧ apartB_0 j ≤ 75) (hE_0_89_1 : ∀ j : Int, apart_0 j = apart_1 j) (hE_0_89_2 : ∀ j : Int, apart_1 j = apart_2 j) (hE_0_89_3 : ∀ j : Int, apart_2 j = apart_3 j) (hK_0_89 : ∀ j : Int, 0 ≤ j → j < 200 → 0 ≤ apart_0 j ∧ apart_0 j ≤ 202) (hE_0_95_1 : ∀ j : Int, turned_0 j = turned_1 j) (hE_0_95_2 : ∀ j : Int, turned_1 j = turned_2 j) (hE_0_95_3 : ∀ j : Int, turned_2 j = turned_3 j) (hK_0_95 : ∀ j : Int, 0 ≤ j → j < 48 → 0 ≤ turned_0 j ∧ turned_0 j ≤ 1) (hE_0_110_1 : ∀ j : Int, permBegin_0 j = permBegin_1 j) (hE_0_110_2 : ∀ j : Int, permBegin_1 j = permBegin_2 j) (hE_0_110_3 : ∀ j : Int, permBegin_2 j = permBegin_3 j) (hK_0_110 : ∀ j : Int, 0 ≤ j → j < 8 → 0 ≤ permBegin_0 j ∧ permBegin_0 j ≤ 5500) (hE_0_111_1 : ∀ j : Int, permMany_0 j = permMany_1 j) (hE_0_111_2 : ∀ j : Int, permMany_1 j = permMany_2 j) (hE_0_111_3 : ∀ j : Int, permMany_2 j = permMany_3 j) (hK_0_111 : ∀ j : Int, 0 ≤ j → j < 8 → 0 ≤ permMany_0 j ∧ permMany_0 j ≤ 720) (hE_0_112_1 : ∀ j : Int, perm_0 j = perm_1 j) (hE_0_112_2 : ∀ j : Int, perm_1 j = perm_2 j) (hE_0_112_3 : ∀ j : Int, perm_2 j = perm_3 j) (hK_0_112 : ∀ j : Int, 0 ≤ j → j < 6000 → 0 ≤ perm_0 j ∧ perm_0 j ≤ 5) (kz_0_79 : 0 ≤ pointMany_0 ∧ pointMany_0 ≤ 76) (kz_0_80 : 0 ≤ costMany_0 ∧ costMany_0 ≤ 200) (kz_0_81 : 0 ≤ apartMany_0 ∧ apartMany_0 ≤ 200) : LCP (r_0) (costMany_0) (apartMany_0) (all_0) (turned_0) (costA_0) (costB_0) (costW_0) (costPlain_0) (apartA_0) (apartB_0) (apart_0) := by
  subst fe_0_5_1
  subst fe_0_79_1
  subst fe_0_80_1
  subst fe_0_5_2
  subst fe_0_79_2
  subst fe_0_81_2
  subst fe_0_5_3
  subst fe_0_80_3
  subst fe_0_81_3
  have e_hE_0_2_1 := funext hE_0_2_1; subst e_hE_0_2_1
  have e_hE_0_2_2 := funext hE_0_2_2; subst e_hE_0_2_2
  have e_hE_0_2_3 := funext hE_0_2_3; subst e_hE_0_2_3
  have e_hE_0_83_1 := funext hE_0_83_1; subst e_hE_0_83_1
  have e_hE_0_83_2 := funext hE_0_83_2; subst e_hE_0_83_2
  have e_hE_0_83_3 := funext hE_0_83_3; subst e_hE_0_83_3
  have e_hE_0_84_1 := funext hE_0_84_1; subst e_hE_0_84_1
  have e_hE_0_84_2 := funext hE_0_84_2; subst e_hE_0_84_2
  have e_hE_0_84_3 := funext hE_0_84_3; subst e_hE_0_84_3
  have e_hE_0_85_1 := funext hE_0_85_1; subst e_hE_0_85_1
  have e_hE_0_85_2 := funext hE_0_85_2; subst e_hE_0_85_2
  have e_hE_0_85_3 := funext hE_0_85_3; subst e_hE_0_85_3
  have e_hE_0_86_1 := funext hE_0_86_1; subst e_hE_0_86_1
  have e_hE_0_86_2 := funext hE_0_86_2; subst e_hE_0_86_2
  have e_hE_0_86_3 := funext hE_0_86_3; subst e_hE_0_86_3
  have e_hE_0_87_1 := funext hE_0_87_1; subst e_hE_0_87_1
  have e_hE_0_87_2 := funext hE_0_87_2; subst e_hE_0_87_2
  have e_hE_0_87_3 := funext hE_0_87_3; subst e_hE_0_87_3
  have e_hE_0_88_1 := funext hE_0_88_1; subst e_hE_0_88_1
  have e_hE_0_88_2 := funext hE_0_88_2; subst e_hE_0_88_2
  have e_hE_0_88_3 := funext hE_0_88_3; subst e_hE_0_88_3
  have e_hE_0_89_1 := funext hE_0_89_1; subst e_hE_0_89_1
  have e_hE_0_89_2 := funext hE_0_89_2; subst e_hE_0_89_2
  have e_hE_0_89_3 := funext hE_0_89_3; subst e_hE_0_89_3
  have e_hE_0_95_1 := funext hE_0_95_1; subst e_hE_0_95_1
  have e_hE_0_95_2 := funext hE_0_95_2; subst e_hE_0_95_2
  have e_hE_0_95_3 := funext hE_0_95_3; subst e_hE_0_95_3
  have e_hE_0_110_1 := funext hE_0_110_1; subst e_hE_0_110_1
  have e_hE_0_110_2 := funext hE_0_110_2; subst e_hE_0_110_2
  have e_hE_0_110_3 := funext hE_0_110_3; subst e_hE_0_110_3
  have e_hE_0_111_1 := funext hE_0_111_1; subst e_hE_0_111_1
  have e_hE_0_111_2 := funext hE_0_111_2; subst e_hE_0_111_2
  have e_hE_0_111_3 := funext hE_0_111_3; subst e_hE_0_111_3
  have e_hE_0_112_1 := funext hE_0_112_1; subst e_hE_0_112_1
  have e_hE_0_112_2 := funext hE_0_112_2; subst e_hE_0_112_2
  have e_hE_0_112_3 := funext hE_0_112_3; subst e_hE_0_112_3
  first
    | assumption
    | exact lcp_zero (by omega) (by omega)
set_option maxHeartbeats 4000000 in
theorem vc_Mo_layers_0_2 (x2 : Int) (x3 : Int) (x4 : Int) (x5 : Int) (all_0 : Int → Int) (r_0 : Int) (permBegin_0 : Int → Int) (permMany_0 : Int → Int) (perm_0 : Int → Int) (turned_0 : Int → Int) (all_1 : Int → Int) (r_1 : Int) (permBegin_1 : Int → Int) (permMany_1 : Int → Int) (perm_1 : Int → Int) (turned_1 : Int → Int) (all_2 : Int → Int) (r_2 : Int) (permBegin_2 : Int → Int) (permMany_2 : Int → Int) (perm_2 : Int → Int) (turned_2 : Int → Int) (all_3 : Int → Int) (r_3 : Int) (permBegin_3 : Int → Int) (permMany_3 : Int → Int) (perm_3 : Int → Int) (turned_3 : Int → Int) (pointMany_0 : Int) (pointMany_1 : Int) (costMany_0 : Int) (costMany_1 : Int) (apartMany_0 : Int) (pointMany_2 : Int) (apartMany_1 : Int) (apartMany_2 : Int) (costMany_2 : Int) (costMany_3 : Int) (apartMany_3 : Int) (costA_0 : Int → Int) (costA_1 : Int → Int) (costA_2 : Int → Int) (costA_3 : Int → Int) (costB_0 : Int → Int) (costB_1 : Int → Int) (costB_2 : Int → Int) (costB_3 : Int → Int) (costW_0 : Int → Int) (costW_1 : Int → Int) (costW_2 : Int → Int) (costW_3 : Int → Int) (costPlain_0 : Int → Int) (costPlain_1 : Int → Int) (costPlain_2 : Int → Int) (costPlain_3 : Int → Int) (apartA_0 : Int → Int) (apartA_1 : Int → Int) (apartA_2 : Int → Int) (apartA_3 : Int → Int) (apartB_0 : Int → Int) (apartB_1 : Int → Int) (apartB_2 : Int → Int) (apartB_3 : Int → Int) (apart_0 : Int → Int) (apart_1 : Int → Int) (apart_2 : Int → Int) (apart_3 : Int → Int) (k2 : 0 ≤ x2 ∧ x2 ≤ 24) (k3 : 0 ≤ x3 ∧ x3 ≤ 0) (k4 : 0 ≤ x4 ∧ x4 ≤ 0) (k5 : 0 ≤ x5 ∧ x5 ≤ 0) (f0 : 1 * x2 + ((-1) * all_0 (r_0 + 0) + 0) ≤ 0) (f1 : (-1) * x2 + (1 * all_0 (r_0 + 0) + 0) ≤ 0) (f2 : SGR (r_0) (all_0)) (f3 : PTB (permBegin_0) (permMany_0) (perm_0)) (f4 : 1 ≤ all_0 (r_0)) (f5 : TRK (r_0) (all_0) (turned_0)) (f7 : 1 * x2 + ((-1) * all_1 (r_0 + 0) + 0) ≤ 0) (f8 : (-1) * x2 + (1 * all_1 (r_0 + 0) + 0) ≤ 0) (f9 : SGR (r_1) (all_1)) (f10 : PTB (permBegin_1) (permMany_1) (perm_1)) (f11 : 1 ≤ all_1 (r_1)) (f12 : TRK (r_1) (all_1) (turned_1)) (f14 : 1 * x2 + ((-1) * all_2 (r_0 + 0) + 0) ≤ 0) (f15 : (-1) * x2 + (1 * all_2 (r_0 + 0) + 0) ≤ 0) (f16 : SGR (r_2) (all_2)) (f17 : PTB (permBegin_2) (permMany_2) (perm_2)) (f18 : 1 ≤ all_2 (r_2)) (f19 : TRK (r_2) (all_2) (turned_2)) (f21 : 1 * x2 + ((-1) * all_3 (r_0 + 0) + 0) ≤ 0) (f22 : (-1) * x2 + (1 * all_3 (r_0 + 0) + 0) ≤ 0) (f23 : SGR (r_3) (all_3)) (f24 : PTB (permBegin_3) (permMany_3) (perm_3)) (f25 : 1 ≤ all_3 (r_3)) (f26 : TRK (r_3) (all_3) (turned_3)) (fe_0_5_1 : r_0 = r_1) (fe_0_79_1 : pointMany_0 = pointMany_1) (fe_0_80_1 : costMany_0 = costMany_1) (fe_0_81_1 : apartMany_0 = x4) (fe_0_5_2 : r_1 = r_2) (fe_0_79_2 : pointMany_1 = pointMany_2) (fe_0_80_2 : costMany_1 = x3) (fe_0_81_2 : apartMany_1 = apartMany_2) (fe_0_5_3 : r_2 = r_3) (fe_0_79_3 : pointMany_2 = x2) (fe_0_80_3 : costMany_2 = costMany_3) (fe_0_81_3 : apartMany_2 = apartMany_3) (hE_0_2_1 : ∀ j : Int, all_0 j = all_1 j) (hE_0_2_2 : ∀ j : Int, all_1 j = all_2 j) (hE_0_2_3 : ∀ j : Int, all_2 j = all_3 j) (hE_0_83_1 : ∀ j : Int, costA_0 j = costA_1 j) (hE_0_83_2 : ∀ j : Int, costA_1 j = costA_2 j) (hE_0_83_3 : ∀ j : Int, costA_2 j = costA_3 j) (hK_0_83 : ∀ j : Int, 0 ≤ j → j < 200 → 0 ≤ costA_0 j ∧ costA_0 j ≤ 75) (hE_0_84_1 : ∀ j : Int, costB_0 j = costB_1 j) (hE_0_84_2 : ∀ j : Int, costB_1 j = costB_2 j) (hE_0_84_3 : ∀ j : Int, costB_2 j = costB_3 j) (hK_0_84 : ∀ j : Int, 0 ≤ j → j < 200 → 0 ≤ costB_0 j ∧ costB_0 j ≤ 75) (hE_0_85_1 : ∀ j : Int, costW_0 j = costW_1 j) (hE_0_85_2 : ∀ j : Int, costW_1 j = costW_2 j) (hE_0_85_3 : ∀ j : Int, costW_2 j = costW_3 j) (hK_0_85 : ∀ j : Int, 0 ≤ j → j < 200 → 0 ≤ costW_0 j ∧ costW_0 j ≤ 72) (hE_0_86_1 : ∀ j : Int, costPlain_0 j = costPlain_1 j) (hE_0_86_2 : ∀ j : Int, costPlain_1 j = costPlain_2 j) (hE_0_86_3 : ∀ j : Int, costPlain_2 j = costPlain_3 j) (hK_0_86 : ∀ j : Int, 0 ≤ j → j < 200 → 0 ≤ costPlain_0 j ∧ costPlain_0 j ≤ 1) (hE_0_87_1 : ∀ j : Int, apartA_0 j = apartA_1 j) (hE_0_87_2 : ∀ j : Int, apartA_1 j = apartA_2 j) (hE_0_87_3 : ∀ j : Int, apartA_2 j = apartA_3 j) (hK_0_87 : ∀ j : Int, 0 ≤ j → j < 200 → 0 ≤ apartA_0 j ∧ apartA_0 j ≤ 75) (hE_0_88_1 : ∀ j : Int, apartB_0 j = apartB_1 j) (hE_0_88_2 : ∀ j : Int, apartB_1 j = apartB_2 j) (hE_0_88_3 : ∀ j : Int, apartB_2 j = apartB_3 j) (hK_0_88 : ∀ j : Int, 0 ≤ j → j < 200 → 0 ≤ apartB_0 j ∧ apartB_0 j ≤ 75) (hE_0_89_1 : ∀ j : Int, apart_0 j = apart_1 j) (hE_0_89_2 : ∀ j : Int, apart_1 j = apart_2 j) (hE_0_89_3 : ∀ j : Int, apart_2 j = apart_3 j) (hK_0_89 : ∀ j : Int, 0 ≤ j → j < 200 → 0 ≤ apart_0 j ∧ apart_0 j ≤ 202) (hE_0_95_1 : ∀ j : Int, turned_0 j = turned_1 j) (hE_0_95_2 : ∀ j : Int, turned_1 j = turned_2 j) (hE_0_95_3 : ∀ j : Int, turned_2 j = turned_3 j) (hK_0_95 : ∀ j : Int, 0 ≤ j → j < 48 → 0 ≤ turned_0 j ∧ turned_0 j ≤ 1) (hE_0_110_1 : ∀ j : Int, permBegin_0 j = permBegin_1 j) (hE_0_110_2 : ∀ j : Int, permBegin_1 j = permBegin_2 j) (hE_0_110_3 : ∀ j : Int, permBegin_2 j = permBegin_3 j) (hK_0_110 : ∀ j : Int, 0 ≤ j → j < 8 → 0 ≤ permBegin_0 j ∧ permBegin_0 j ≤ 5500) (hE_0_111_1 : ∀ j : Int, permMany_0 j = permMany_1 j) (hE_0_111_2 : ∀ j : Int, permMany_1 j = permMany_2 j) (hE_0_111_3 : ∀ j : Int, permMany_2 j = permMany_3 j) (hK_0_111 : ∀ j : Int, 0 ≤ j → j < 8 → 0 ≤ permMany_0 j ∧ permMany_0 j ≤ 720) (hE_0_112_1 : ∀ j : Int, perm_0 j = perm_1 j) (hE_0_112_2 : ∀ j : Int, perm_1 j = perm_2 j) (hE_0_112_3 : ∀ j : Int, perm_2 j = perm_3 j) (hK_0_112 : ∀ j : Int, 0 ≤ j → j < 6000 → 0 ≤ perm_0 j ∧ perm_0 j ≤ 5) (kz_0_79 : 0 ≤ pointMany_0 ∧ pointMany_0 ≤ 76) (kz_0_80 : 0 ≤ costMany_0 ∧ costMany_0 ≤ 200) (kz_0_81 : 0 ≤ apartMany_0 ∧ apartMany_0 ≤ 200) : pointMany_0 = all_0 (r_0) := by
  subst fe_0_5_1
  subst fe_0_79_1
  subst fe_0_80_1
  subst fe_0_5_2
  subst fe_0_79_2
  subst fe_0_81_2
  subst fe_0_5_3
  subst fe_0_80_3
  subst fe_0_81_3
  have e_hE_0_2_1 := funext hE_0_2_1; subst e_hE_0_2_1
  have e_hE_0_2_2 := funext hE_0_2_2; subst e_hE_0_2_2
  have e_hE_0_2_3 := funext hE_0_2_3; subst e_hE_0_2_3
  have e_hE_0_83_1 := funext hE_0_83_1; subst e_hE_0_83_1
  have e_hE_0_83_2 := funext hE_0_83_2; subst e_hE_0_83_2
  have e_hE_0_83_3 := funext hE_0_83_3; subst e_hE_0_83_3
  have e_hE_0_84_1 := funext hE_0_84_1; subst e_hE_0_84_1
  have e_hE_0_84_2 := funext hE_0_84_2; subst e_hE_0_84_2
  have e_hE_0_84_3 := funext hE_0_84_3; subst e_hE_0_84_3
  have e_hE_0_85_1 := funext hE_0_85_1; subst e_hE_0_85_1
  have e_hE_0_85_2 := funext hE_0_85_2; subst e_hE_0_85_2
  have e_hE_0_85_3 := funext hE_0_85_3; subst e_hE_0_85_3
  have e_hE_0_86_1 := funext hE_0_86_1; subst e_hE_0_86_1
  have e_hE_0_86_2 := funext hE_0_86_2; subst e_hE_0_86_2
  have e_hE_0_86_3 := funext hE_0_86_3; subst e_hE_0_86_3
  have e_hE_0_87_1 := funext hE_0_87_1; subst e_hE_0_87_1
  have e_hE_0_87_2 := funext hE_0_87_2; subst e_hE_0_87_2
  have e_hE_0_87_3 := funext hE_0_87_3; subst e_hE_0_87_3
  have e_hE_0_88_1 := funext hE_0_88_1; subst e_hE_0_88_1
  have e_hE_0_88_2 := funext hE_0_88_2; subst e_hE_0_88_2
  have e_hE_0_88_3 := funext hE_0_88_3; subst e_hE_0_88_3
  have e_hE_0_89_1 := funext hE_0_89_1; subst e_hE_0_89_1
  have e_hE_0_89_2 := funext hE_0_89_2; subst e_hE_0_89_2
  have e_hE_0_89_3 := funext hE_0_89_3; subst e_hE_0_89_3
  have e_hE_0_95_1 := funext hE_0_95_1; subst e_hE_0_95_1
  have e_hE_0_95_2 := funext hE_0_95_2; subst e_hE_0_95_2
  have e_hE_0_95_3 := funext hE_0_95_3; subst e_hE_0_95_3
  have e_hE_0_110_1 := funext hE_0_110_1; subst e_hE_0_110_1
  have e_hE_0_110_2 := funext hE_0_110_2; subst e_hE_0_110_2
  have e_hE_0_110_3 := funext hE_0_110_3; subst e_hE_0_110_3
  have e_hE_0_111_1 := funext hE_0_111_1; subst e_hE_0_111_1
  have e_hE_0_111_2 := funext hE_0_111_2; subst e_hE_0_111_2
  have e_hE_0_111_3 := funext hE_0_111_3; subst e_hE_0_111_3
  have e_hE_0_112_1 := funext hE_0_112_1; subst e_hE_0_112_1
  have e_hE_0_112_2 := funext hE_0_112_2; subst e_hE_0_112_2
  have e_hE_0_112_3 := funext hE_0_112_3; subst e_hE_0_112_3
  try simp only [Int.add_zero] at *
  first
    | omega
    | (have h := ‹SGR _ _›.1; omega)
    | (have h := ‹LSA _ _ _ _ _ _ _ _ _ _›.2.1; have h2 := ‹LSA _ _ _ _ _ _ _ _ _ _›.2.2.1 0 (by omega) (by omega); omega)
set_option maxHeartbeats 4000000 in
theorem vc_Mo_layers_0_3 (x2 : Int) (x3 : Int) (x4 : Int) (x5 : Int) (all_0 : Int → Int) (r_0 : Int) (permBegin_0 : Int → Int) (permMany_0 : Int → Int) (perm_0 : Int → Int) (turned_0 : Int → Int) (all_1 : Int → Int) (r_1 : Int) (permBegin_1 : Int → Int) (permMany_1 : Int → Int) (perm_1 : Int → Int) (turned_1 : Int → Int) (all_2 : Int → Int) (r_2 : Int) (permBegin_2 : Int → Int) (permMany_2 : Int → Int) (perm_2 : Int → Int) (turned_2 : Int → Int) (all_3 : Int → Int) (r_3 : Int) (permBegin_3 : Int → Int) (permMany_3 : Int → Int) (perm_3 : Int → Int) (turned_3 : Int → Int) (pointMany_0 : Int) (pointMany_1 : Int) (costMany_0 : Int) (costMany_1 : Int) (apartMany_0 : Int) (pointMany_2 : Int) (apartMany_1 : Int) (apartMany_2 : Int) (costMany_2 : Int) (costMany_3 : Int) (apartMany_3 : Int) (costA_0 : Int → Int) (costA_1 : Int → Int) (costA_2 : Int → Int) (costA_3 : Int → Int) (costB_0 : Int → Int) (costB_1 : Int → Int) (costB_2 : Int → Int) (costB_3 : Int → Int) (costW_0 : Int → Int) (costW_1 : Int → Int) (costW_2 : Int → Int) (costW_3 : Int → Int) (costPlain_0 : Int → Int) (costPlain_1 : Int → Int) (costPlain_2 : Int → Int) (costPlain_3 : Int → Int) (apartA_0 : Int → Int) (apartA_1 : Int → Int) (apartA_2 : Int → Int) (apartA_3 : Int → Int) (apartB_0 : Int → Int) (apartB_1 : Int → Int) (apartB_2 : Int → Int) (apartB_3 : Int → Int) (apart_0 : Int → Int) (apart_1 : Int → Int) (apart_2 : Int → Int) (apart_3 : Int → Int) (k2 : 0 ≤ x2 ∧ x2 ≤ 24) (k3 : 0 ≤ x3 ∧ x3 ≤ 0) (k4 : 0 ≤ x4 ∧ x4 ≤ 0) (k5 : 0 ≤ x5 ∧ x5 ≤ 0) (f0 : 1 * x2 + ((-1) * all_0 (r_0 + 0) + 0) ≤ 0) (f1 : (-1) * x2 + (1 * all_0 (r_0 + 0) + 0) ≤ 0) (f2 : SGR (r_0) (all_0)) (f3 : PTB (permBegin_0) (permMany_0) (perm_0)) (f4 : 1 ≤ all_0 (r_0)) (f5 : TRK (r_0) (all_0) (turned_0)) (f7 : 1 * x2 + ((-1) * all_1 (r_0 + 0) + 0) ≤ 0) (f8 : (-1) * x2 + (1 * all_1 (r_0 + 0) + 0) ≤ 0) (f9 : SGR (r_1) (all_1)) (f10 : PTB (permBegin_1) (permMany_1) (perm_1)) (f11 : 1 ≤ all_1 (r_1)) (f12 : TRK (r_1) (all_1) (turned_1)) (f14 : 1 * x2 + ((-1) * all_2 (r_0 + 0) + 0) ≤ 0) (f15 : (-1) * x2 + (1 * all_2 (r_0 + 0) + 0) ≤ 0) (f16 : SGR (r_2) (all_2)) (f17 : PTB (permBegin_2) (permMany_2) (perm_2)) (f18 : 1 ≤ all_2 (r_2)) (f19 : TRK (r_2) (all_2) (turned_2)) (f21 : 1 * x2 + ((-1) * all_3 (r_0 + 0) + 0) ≤ 0) (f22 : (-1) * x2 + (1 * all_3 (r_0 + 0) + 0) ≤ 0) (f23 : SGR (r_3) (all_3)) (f24 : PTB (permBegin_3) (permMany_3) (perm_3)) (f25 : 1 ≤ all_3 (r_3)) (f26 : TRK (r_3) (all_3) (turned_3)) (fe_0_5_1 : r_0 = r_1) (fe_0_79_1 : pointMany_0 = pointMany_1) (fe_0_80_1 : costMany_0 = costMany_1) (fe_0_81_1 : apartMany_0 = x4) (fe_0_5_2 : r_1 = r_2) (fe_0_79_2 : pointMany_1 = pointMany_2) (fe_0_80_2 : costMany_1 = x3) (fe_0_81_2 : apartMany_1 = apartMany_2) (fe_0_5_3 : r_2 = r_3) (fe_0_79_3 : pointMany_2 = x2) (fe_0_80_3 : costMany_2 = costMany_3) (fe_0_81_3 : apartMany_2 = apartMany_3) (hE_0_2_1 : ∀ j : Int, all_0 j = all_1 j) (hE_0_2_2 : ∀ j : Int, all_1 j = all_2 j) (hE_0_2_3 : ∀ j : Int, all_2 j = all_3 j) (hE_0_83_1 : ∀ j : Int, costA_0 j = costA_1 j) (hE_0_83_2 : ∀ j : Int, costA_1 j = costA_2 j) (hE_0_83_3 : ∀ j : Int, costA_2 j = costA_3 j) (hK_0_83 : ∀ j : Int, 0 ≤ j → j < 200 → 0 ≤ costA_0 j ∧ costA_0 j ≤ 75) (hE_0_84_1 : ∀ j : Int, costB_0 j = costB_1 j) (hE_0_84_2 : ∀ j : Int, costB_1 j = costB_2 j) (hE_0_84_3 : ∀ j : Int, costB_2 j = costB_3 j) (hK_0_84 : ∀ j : Int, 0 ≤ j → j < 200 → 0 ≤ costB_0 j ∧ costB_0 j ≤ 75) (hE_0_85_1 : ∀ j : Int, costW_0 j = costW_1 j) (hE_0_85_2 : ∀ j : Int, costW_1 j = costW_2 j) (hE_0_85_3 : ∀ j : Int, costW_2 j = costW_3 j) (hK_0_85 : ∀ j : Int, 0 ≤ j → j < 200 → 0 ≤ costW_0 j ∧ costW_0 j ≤ 72) (hE_0_86_1 : ∀ j : Int, costPlain_0 j = costPlain_1 j) (hE_0_86_2 : ∀ j : Int, costPlain_1 j = costPlain_2 j) (hE_0_86_3 : ∀ j : Int, costPlain_2 j = costPlain_3 j) (hK_0_86 : ∀ j : Int, 0 ≤ j → j < 200 → 0 ≤ costPlain_0 j ∧ costPlain_0 j ≤ 1) (hE_0_87_1 : ∀ j : Int, apartA_0 j = apartA_1 j) (hE_0_87_2 : ∀ j : Int, apartA_1 j = apartA_2 j) (hE_0_87_3 : ∀ j : Int, apartA_2 j = apartA_3 j) (hK_0_87 : ∀ j : Int, 0 ≤ j → j < 200 → 0 ≤ apartA_0 j ∧ apartA_0 j ≤ 75) (hE_0_88_1 : ∀ j : Int, apartB_0 j = apartB_1 j) (hE_0_88_2 : ∀ j : Int, apartB_1 j = apartB_2 j) (hE_0_88_3 : ∀ j : Int, apartB_2 j = apartB_3 j) (hK_0_88 : ∀ j : Int, 0 ≤ j → j < 200 → 0 ≤ apartB_0 j ∧ apartB_0 j ≤ 75) (hE_0_89_1 : ∀ j : Int, apart_0 j = apart_1 j) (hE_0_89_2 : ∀ j : Int, apart_1 j = apart_2 j) (hE_0_89_3 : ∀ j : Int, apart_2 j = apart_3 j) (hK_0_89 : ∀ j : Int, 0 ≤ j → j < 200 → 0 ≤ apart_0 j ∧ apart_0 j ≤ 202) (hE_0_95_1 : ∀ j : Int, turned_0 j = turned_1 j) (hE_0_95_2 : ∀ j : Int, turned_1 j = turned_2 j) (hE_0_95_3 : ∀ j : Int, turned_2 j = turned_3 j) (hK_0_95 : ∀ j : Int, 0 ≤ j → j < 48 → 0 ≤ turned_0 j ∧ turned_0 j ≤ 1) (hE_0_110_1 : ∀ j : Int, permBegin_0 j = permBegin_1 j) (hE_0_110_2 : ∀ j : Int, permBegin_1 j = permBegin_2 j) (hE_0_110_3 : ∀ j : Int, permBegin_2 j = permBegin_3 j) (hK_0_110 : ∀ j : Int, 0 ≤ j → j < 8 → 0 ≤ permBegin_0 j ∧ permBegin_0 j ≤ 5500) (hE_0_111_1 : ∀ j : Int, permMany_0 j = permMany_1 j) (hE_0_111_2 : ∀ j : Int, permMany_1 j = permMany_2 j) (hE_0_111_3 : ∀ j : Int, permMany_2 j = permMany_3 j) (hK_0_111 : ∀ j : Int, 0 ≤ j → j < 8 → 0 ≤ permMany_0 j ∧ permMany_0 j ≤ 720) (hE_0_112_1 : ∀ j : Int, perm_0 j = perm_1 j) (hE_0_112_2 : ∀ j : Int, perm_1 j = perm_2 j) (hE_0_112_3 : ∀ j : Int, perm_2 j = perm_3 j) (hK_0_112 : ∀ j : Int, 0 ≤ j → j < 6000 → 0 ≤ perm_0 j ∧ perm_0 j ≤ 5) (kz_0_79 : 0 ≤ pointMany_0 ∧ pointMany_0 ≤ 76) (kz_0_80 : 0 ≤ costMany_0 ∧ costMany_0 ≤ 200) (kz_0_81 : 0 ≤ apartMany_0 ∧ apartMany_0 ≤ 200) : costMany_0 = x5 := by
  subst fe_0_5_1
  subst fe_0_79_1
  subst fe_0_80_1
  subst fe_0_5_2
  subst fe_0_79_2
  subst fe_0_81_2
  subst fe_0_5_3
  subst fe_0_80_3
  subst fe_0_81_3
  have e_hE_0_2_1 := funext hE_0_2_1; subst e_hE_0_2_1
  have e_hE_0_2_2 := funext hE_0_2_2; subst e_hE_0_2_2
  have e_hE_0_2_3 := funext hE_0_2_3; subst e_hE_0_2_3
  have e_hE_0_83_1 := funext hE_0_83_1; subst e_hE_0_83_1
  have e_hE_0_83_2 := funext hE_0_83_2; subst e_hE_0_83_2
  have e_hE_0_83_3 := funext hE_0_83_3; subst e_hE_0_83_3
  have e_hE_0_84_1 := funext hE_0_84_1; subst e_hE_0_84_1
  have e_hE_0_84_2 := funext hE_0_84_2; subst e_hE_0_84_2
  have e_hE_0_84_3 := funext hE_0_84_3; subst e_hE_0_84_3
  have e_hE_0_85_1 := funext hE_0_85_1; subst e_hE_0_85_1
  have e_hE_0_85_2 := funext hE_0_85_2; subst e_hE_0_85_2
  have e_hE_0_85_3 := funext hE_0_85_3; subst e_hE_0_85_3
  have e_hE_0_86_1 := funext hE_0_86_1; subst e_hE_0_86_1
  have e_hE_0_86_2 := funext hE_0_86_2; subst e_hE_0_86_2
  have e_hE_0_86_3 := funext hE_0_86_3; subst e_hE_0_86_3
  have e_hE_0_87_1 := funext hE_0_87_1; subst e_hE_0_87_1
  have e_hE_0_87_2 := funext hE_0_87_2; subst e_hE_0_87_2
  have e_hE_0_87_3 := funext hE_0_87_3; subst e_hE_0_87_3
  have e_hE_0_88_1 := funext hE_0_88_1; subst e_hE_0_88_1
  have e_hE_0_88_2 := funext hE_0_88_2; subst e_hE_0_88_2
  have e_hE_0_88_3 := funext hE_0_88_3; subst e_hE_0_88_3
  have e_hE_0_89_1 := funext hE_0_89_1; subst e_hE_0_89_1
  have e_hE_0_89_2 := funext hE_0_89_2; subst e_hE_0_89_2
  have e_hE_0_89_3 := funext hE_0_89_3; subst e_hE_0_89_3
  have e_hE_0_95_1 := funext hE_0_95_1; subst e_hE_0_95_1
  have e_hE_0_95_2 := funext hE_0_95_2; subst e_hE_0_95_2
  have e_hE_0_95_3 := funext hE_0_95_3; subst e_hE_0_95_3
  have e_hE_0_110_1 := funext hE_0_110_1; subst e_hE_0_110_1
  have e_hE_0_110_2 := funext hE_0_110_2; subst e_hE_0_110_2
  have e_hE_0_110_3 := funext hE_0_110_3; subst e_hE_0_110_3
  have e_hE_0_111_1 := funext hE_0_111_1; subst e_hE_0_111_1
  have e_hE_0_111_2 := funext hE_0_111_2; subst e_hE_0_111_2
  have e_hE_0_111_3 := funext hE_0_111_3; subst e_hE_0_111_3
  have e_hE_0_112_1 := funext hE_0_112_1; subst e_hE_0_112_1
  have e_hE_0_112_2 := funext hE_0_112_2; subst e_hE_0_112_2
  have e_hE_0_112_3 := funext hE_0_112_3; subst e_hE_0_112_3
  try simp only [Int.add_zero] at *
  first
    | omega
    | (have h := ‹SGR _ _›.1; omega)
    | (have h := ‹LSA _ _ _ _ _ _ _ _ _ _›.2.1; have h2 := ‹LSA _ _ _ _ _ _ _ _ _ _›.2.2.1 0 (by omega) (by omega); omega)
set_option maxHeartbeats 4000000 in
theorem vc_Mo_layers_0_4 (x2 : Int) (x3 : Int) (x4 : Int) (x5 : Int) (all_0 : Int → Int) (r_0 : Int) (permBegin_0 : Int → Int) (permMany_0 : Int → Int) (perm_0 : Int → Int) (turned_0 : Int → Int) (all_1 : Int → Int) (r_1 : Int) (permBegin_1 : Int → Int) (permMany_1 : Int → Int) (perm_1 : Int → Int) (turned_1 : Int → Int) (all_2 : Int → Int) (r_2 : Int) (permBegin_2 : Int → Int) (permMany_2 : Int → Int) (perm_2 : Int → Int) (turned_2 : Int → Int) (all_3 : Int → Int) (r_3 : Int) (permBegin_3 : Int → Int) (permMany_3 : Int → Int) (perm_3 : Int → Int) (turned_3 : Int → Int) (pointMany_0 : Int) (pointMany_1 : Int) (costMany_0 : Int) (costMany_1 : Int) (apartMany_0 : Int) (pointMany_2 : Int) (apartMany_1 : Int) (apartMany_2 : Int) (costMany_2 : Int) (costMany_3 : Int) (apartMany_3 : Int) (costA_0 : Int → Int) (costA_1 : Int → Int) (costA_2 : Int → Int) (costA_3 : Int → Int) (costB_0 : Int → Int) (costB_1 : Int → Int) (costB_2 : Int → Int) (costB_3 : Int → Int) (costW_0 : Int → Int) (costW_1 : Int → Int) (costW_2 : Int → Int) (costW_3 : Int → Int) (costPlain_0 : Int → Int) (costPlain_1 : Int → Int) (costPlain_2 : Int → Int) (costPlain_3 : Int → Int) (apartA_0 : Int → Int) (apartA_1 : Int → Int) (apartA_2 : Int → Int) (apartA_3 : Int → Int) (apartB_0 : Int → Int) (apartB_1 : Int → Int) (apartB_2 : Int → Int) (apartB_3 : Int → Int) (apart_0 : Int → Int) (apart_1 : Int → Int) (apart_2 : Int → Int) (apart_3 : Int → Int) (k2 : 0 ≤ x2 ∧ x2 ≤ 24) (k3 : 0 ≤ x3 ∧ x3 ≤ 0) (k4 : 0 ≤ x4 ∧ x4 ≤ 0) (k5 : 0 ≤ x5 ∧ x5 ≤ 0) (f0 : 1 * x2 + ((-1) * all_0 (r_0 + 0) + 0) ≤ 0) (f1 : (-1) * x2 + (1 * all_0 (r_0 + 0) + 0) ≤ 0) (f2 : SGR (r_0) (all_0)) (f3 : PTB (permBegin_0) (permMany_0) (perm_0)) (f4 : 1 ≤ all_0 (r_0)) (f5 : TRK (r_0) (all_0) (turned_0)) (f7 : 1 * x2 + ((-1) * all_1 (r_0 + 0) + 0) ≤ 0) (f8 : (-1) * x2 + (1 * all_1 (r_0 + 0) + 0) ≤ 0) (f9 : SGR (r_1) (all_1)) (f10 : PTB (permBegin_1) (permMany_1) (perm_1)) (f11 : 1 ≤ all_1 (r_1)) (f12 : TRK (r_1) (all_1) (turned_1)) (f14 : 1 * x2 + ((-1) * all_2 (r_0 + 0) + 0) ≤ 0) (f15 : (-1) * x2 + (1 * all_2 (r_0 + 0) + 0) ≤ 0) (f16 : SGR (r_2) (all_2)) (f17 : PTB (permBegin_2) (permMany_2) (perm_2)) (f18 : 1 ≤ all_2 (r_2)) (f19 : TRK (r_2) (all_2) (turned_2)) (f21 : 1 * x2 + ((-1) * all_3 (r_0 + 0) + 0) ≤ 0) (f22 : (-1) * x2 + (1 * all_3 (r_0 + 0) + 0) ≤ 0) (f23 : SGR (r_3) (all_3)) (f24 : PTB (permBegin_3) (permMany_3) (perm_3)) (f25 : 1 ≤ all_3 (r_3)) (f26 : TRK (r_3) (all_3) (turned_3)) (fe_0_5_1 : r_0 = r_1) (fe_0_79_1 : pointMany_0 = pointMany_1) (fe_0_80_1 : costMany_0 = costMany_1) (fe_0_81_1 : apartMany_0 = x4) (fe_0_5_2 : r_1 = r_2) (fe_0_79_2 : pointMany_1 = pointMany_2) (fe_0_80_2 : costMany_1 = x3) (fe_0_81_2 : apartMany_1 = apartMany_2) (fe_0_5_3 : r_2 = r_3) (fe_0_79_3 : pointMany_2 = x2) (fe_0_80_3 : costMany_2 = costMany_3) (fe_0_81_3 : apartMany_2 = apartMany_3) (hE_0_2_1 : ∀ j : Int, all_0 j = all_1 j) (hE_0_2_2 : ∀ j : Int, all_1 j = all_2 j) (hE_0_2_3 : ∀ j : Int, all_2 j = all_3 j) (hE_0_83_1 : ∀ j : Int, costA_0 j = costA_1 j) (hE_0_83_2 : ∀ j : Int, costA_1 j = costA_2 j) (hE_0_83_3 : ∀ j : Int, costA_2 j = costA_3 j) (hK_0_83 : ∀ j : Int, 0 ≤ j → j < 200 → 0 ≤ costA_0 j ∧ costA_0 j ≤ 75) (hE_0_84_1 : ∀ j : Int, costB_0 j = costB_1 j) (hE_0_84_2 : ∀ j : Int, costB_1 j = costB_2 j) (hE_0_84_3 : ∀ j : Int, costB_2 j = costB_3 j) (hK_0_84 : ∀ j : Int, 0 ≤ j → j < 200 → 0 ≤ costB_0 j ∧ costB_0 j ≤ 75) (hE_0_85_1 : ∀ j : Int, costW_0 j = costW_1 j) (hE_0_85_2 : ∀ j : Int, costW_1 j = costW_2 j) (hE_0_85_3 : ∀ j : Int, costW_2 j = costW_3 j) (hK_0_85 : ∀ j : Int, 0 ≤ j → j < 200 → 0 ≤ costW_0 j ∧ costW_0 j ≤ 72) (hE_0_86_1 : ∀ j : Int, costPlain_0 j = costPlain_1 j) (hE_0_86_2 : ∀ j : Int, costPlain_1 j = costPlain_2 j) (hE_0_86_3 : ∀ j : Int, costPlain_2 j = costPlain_3 j) (hK_0_86 : ∀ j : Int, 0 ≤ j → j < 200 → 0 ≤ costPlain_0 j ∧ costPlain_0 j ≤ 1) (hE_0_87_1 : ∀ j : Int, apartA_0 j = apartA_1 j) (hE_0_87_2 : ∀ j : Int, apartA_1 j = apartA_2 j) (hE_0_87_3 : ∀ j : Int, apartA_2 j = apartA_3 j) (hK_0_87 : ∀ j : Int, 0 ≤ j → j < 200 → 0 ≤ apartA_0 j ∧ apartA_0 j ≤ 75) (hE_0_88_1 : ∀ j : Int, apartB_0 j = apartB_1 j) (hE_0_88_2 : ∀ j : Int, apartB_1 j = apartB_2 j) (hE_0_88_3 : ∀ j : Int, apartB_2 j = apartB_3 j) (hK_0_88 : ∀ j : Int, 0 ≤ j → j < 200 → 0 ≤ apartB_0 j ∧ apartB_0 j ≤ 75) (hE_0_89_1 : ∀ j : Int, apart_0 j = apart_1 j) (hE_0_89_2 : ∀ j : Int, apart_1 j = apart_2 j) (hE_0_89_3 : ∀ j : Int, apart_2 j = apart_3 j) (hK_0_89 : ∀ j : Int, 0 ≤ j → j < 200 → 0 ≤ apart_0 j ∧ apart_0 j ≤ 202) (hE_0_95_1 : ∀ j : Int, turned_0 j = turned_1 j) (hE_0_95_2 : ∀ j : Int, turned_1 j = turned_2 j) (hE_0_95_3 : ∀ j : Int, turned_2 j = turned_3 j) (hK_0_95 : ∀ j : Int, 0 ≤ j → j < 48 → 0 ≤ turned_0 j ∧ turned_0 j ≤ 1) (hE_0_110_1 : ∀ j : Int, permBegin_0 j = permBegin_1 j) (hE_0_110_2 : ∀ j : Int, permBegin_1 j = permBegin_2 j) (hE_0_110_3 : ∀ j : Int, permBegin_2 j = permBegin_3 j) (hK_0_110 : ∀ j : Int, 0 ≤ j → j < 8 → 0 ≤ permBegin_0 j ∧ permBegin_0 j ≤ 5500) (hE_0_111_1 : ∀ j : Int, permMany_0 j = permMany_1 j) (hE_0_111_2 : ∀ j : Int, permMany_1 j = permMany_2 j) (hE_0_111_3 : ∀ j : Int, permMany_2 j = permMany_3 j) (hK_0_111 : ∀ j : Int, 0 ≤ j → j < 8 → 0 ≤ permMany_0 j ∧ permMany_0 j ≤ 720) (hE_0_112_1 : ∀ j : Int, perm_0 j = perm_1 j) (hE_0_112_2 : ∀ j : Int, perm_1 j = perm_2 j) (hE_0_112_3 : ∀ j : Int, perm_2 j = perm_3 j) (hK_0_112 : ∀ j : Int, 0 ≤ j → j < 6000 → 0 ≤ perm_0 j ∧ perm_0 j ≤ 5) (kz_0_79 : 0 ≤ pointMany_0 ∧ pointMany_0 ≤ 76) (kz_0_80 : 0 ≤ costMany_0 ∧ costMany_0 ≤ 200) (kz_0_81 : 0 ≤ apartMany_0 ∧ apartMany_0 ≤ 200) : apartMany_0 = x5 := by
  subst fe_0_5_1
  subst fe_0_79_1
  subst fe_0_80_1
  subst fe_0_5_2
  subst fe_0_79_2
  subst fe_0_81_2
  subst fe_0_5_3
  subst fe_0_80_3
  subst fe_0_81_3
  have e_hE_0_2_1 := funext hE_0_2_1; subst e_hE_0_2_1
  have e_hE_0_2_2 := funext hE_0_2_2; subst e_hE_0_2_2
  have e_hE_0_2_3 := funext hE_0_2_3; subst e_hE_0_2_3
  have e_hE_0_83_1 := funext hE_0_83_1; subst e_hE_0_83_1
  have e_hE_0_83_2 := funext hE_0_83_2; subst e_hE_0_83_2
  have e_hE_0_83_3 := funext hE_0_83_3; subst e_hE_0_83_3
  have e_hE_0_84_1 := funext hE_0_84_1; subst e_hE_0_84_1
  have e_hE_0_84_2 := funext hE_0_84_2; subst e_hE_0_84_2
  have e_hE_0_84_3 := funext hE_0_84_3; subst e_hE_0_84_3
  have e_hE_0_85_1 := funext hE_0_85_1; subst e_hE_0_85_1
  have e_hE_0_85_2 := funext hE_0_85_2; subst e_hE_0_85_2
  have e_hE_0_85_3 := funext hE_0_85_3; subst e_hE_0_85_3
  have e_hE_0_86_1 := funext hE_0_86_1; subst e_hE_0_86_1
  have e_hE_0_86_2 := funext hE_0_86_2; subst e_hE_0_86_2
  have e_hE_0_86_3 := funext hE_0_86_3; subst e_hE_0_86_3
  have e_hE_0_87_1 := funext hE_0_87_1; subst e_hE_0_87_1
  have e_hE_0_87_2 := funext hE_0_87_2; subst e_hE_0_87_2
  have e_hE_0_87_3 := funext hE_0_87_3; subst e_hE_0_87_3
  have e_hE_0_88_1 := funext hE_0_88_1; subst e_hE_0_88_1
  have e_hE_0_88_2 := funext hE_0_88_2; subst e_hE_0_88_2
  have e_hE_0_88_3 := funext hE_0_88_3; subst e_hE_0_88_3
  have e_hE_0_89_1 := funext hE_0_89_1; subst e_hE_0_89_1
  have e_hE_0_89_2 := funext hE_0_89_2; subst e_hE_0_89_2
  have e_hE_0_89_3 := funext hE_0_89_3; subst e_hE_0_89_3
  have e_hE_0_95_1 := funext hE_0_95_1; subst e_hE_0_95_1
  have e_hE_0_95_2 := funext hE_0_95_2; subst e_hE_0_95_2
  have e_hE_0_95_3 := funext hE_0_95_3; subst e_hE_0_95_3
  have e_hE_0_110_1 := funext hE_0_110_1; subst e_hE_0_110_1
  have e_hE_0_110_2 := funext hE_0_110_2; subst e_hE_0_110_2
  have e_hE_0_110_3 := funext hE_0_110_3; subst e_hE_0_110_3
  have e_hE_0_111_1 := funext hE_0_111_1; subst e_hE_0_111_1
  have e_hE_0_111_2 := funext hE_0_111_2; subst e_hE_0_111_2
  have e_hE_0_111_3 := funext hE_0_111_3; subst e_hE_0_111_3
  have e_hE_0_112_1 := funext hE_0_112_1; subst e_hE_0_112_1
  have e_hE_0_112_2 := funext hE_0_112_2; subst e_hE_0_112_2
  have e_hE_0_112_3 := funext hE_0_112_3; subst e_hE_0_112_3
  try simp only [Int.add_zero] at *
  first
    | omega
    | (have h := ‹SGR _ _›.1; omega)
    | (have h := ‹LSA _ _ _ _ _ _ _ _ _ _›.2.1; have h2 := ‹LSA _ _ _ _ _ _ _ _ _ _›.2.2.1 0 (by omega) (by omega); omega)
def o_Mo_layers_0 : or_T := (24, 6, [(0, (2, 0, 0, [150])), (2, (0, 0, 24, [])), (3, (0, 0, 0, [])), (4, (0, 0, 0, [])), (5, (0, 0, 0, []))], [(20, [2, 0], [30, 0, 1, 0, 0, -1, 3, 2005000]), (20, [2, 0], [30, 0, -1, 0, 0, 1, 3, 2005000]), (20, [0], [60, 1, 1, 122, 5, 2]), (20, [0], [60, 0, 3, 291, 110, 111, 112]), (20, [0], [50, 1, 1, 5, 2, 0, 2, 0, 1, 3, 0, 2, 2, 0, 5]), (20, [0], [60, 1, 2, 290, 5, 2, 95]), (101, [0, 4], [81]), (20, [2, 0], [30, 0, 1, 0, 0, -1, 3, 2005000]), (20, [2, 0], [30, 0, -1, 0, 0, 1, 3, 2005000]), (20, [0], [60, 1, 1, 122, 5, 2]), (20, [0], [60, 0, 3, 291, 110, 111, 112]), (20, [0], [50, 1, 1, 5, 2, 0, 2, 0, 1, 3, 0, 2, 2, 0, 5]), (20, [0], [60, 1, 2, 290, 5, 2, 95]), (101, [0, 3], [80]), (20, [2, 0], [30, 0, 1, 0, 0, -1, 3, 2005000]), (20, [2, 0], [30, 0, -1, 0, 0, 1, 3, 2005000]), (20, [0], [60, 1, 1, 122, 5, 2]), (20, [0], [60, 0, 3, 291, 110, 111, 112]), (20, [0], [50, 1, 1, 5, 2, 0, 2, 0, 1, 3, 0, 2, 2, 0, 5]), (20, [0], [60, 1, 2, 290, 5, 2, 95]), (101, [0, 2], [79]), (20, [2, 0], [30, 0, 1, 0, 0, -1, 3, 2005000]), (20, [2, 0], [30, 0, -1, 0, 0, 1, 3, 2005000]), (20, [0], [60, 1, 1, 122, 5, 2]), (20, [0], [60, 0, 3, 291, 110, 111, 112]), (20, [0], [50, 1, 1, 5, 2, 0, 2, 0, 1, 3, 0, 2, 2, 0, 5]), (20, [0], [60, 1, 2, 290, 5, 2, 95])], [], [], [(20, [5, 0], [50, 1, 1, 1005, 1002, 0, 2, 1, 0, 3, 1, 2, 4, 3, 2, 1, 5, 0, 1]), (20, [0], [60, 3, 9, 358, 5, 80, 81, 2, 95, 83, 84, 85, 86, 87, 88, 89]), (20, [0], [50, 2, 1, 79, 5, 2, 1, 3, 2, 0, 79, 3, 0, 2, 2, 0, 5]), (20, [0, 5], [50, 1, 0, 80, 1, 3, 2, 0, 80, 1, 1]), (20, [0, 5], [50, 1, 0, 81, 1, 3, 2, 0, 81, 1, 1])], [], [])
theorem oo_Mo_layers_0 {kA : Nat → ClassId} : or_ok PRD kA GG o_Mo_layers_0 := by
  intro A ta ws vs hD hth hl hk hds hf
  have hl : vs.length = 6 := hl
  have hk : ∀ q ∈ ([(0, (2, 0, 0, [150])), (2, (0, 0, 24, [])), (3, (0, 0, 0, [])), (4, (0, 0, 0, [])), (5, (0, 0, 0, []))] : List (Nat × tv_T)), tv_ok ta q.2 (n_v vs q.1) := hk
  obtain ⟨t0, hk⟩ := List.forall_mem_cons.mp hk
  have t0 : tv_ok ta (2, 0, 0, [150]) (n_v vs 0) := t0
  have r0 : ta (v_ad (n_v vs 0)) = some 150 := tv_rg t0
  obtain ⟨t2, hk⟩ := List.forall_mem_cons.mp hk
  have t2 : tv_ok ta (0, 0, 24, []) (n_v vs 2) := t2
  have k2 : 0 ≤ v_iv (n_v vs 2) ∧ v_iv (n_v vs 2) ≤ 24 := tv_rng t2
  obtain ⟨t3, hk⟩ := List.forall_mem_cons.mp hk
  have t3 : tv_ok ta (0, 0, 0, []) (n_v vs 3) := t3
  have k3 : 0 ≤ v_iv (n_v vs 3) ∧ v_iv (n_v vs 3) ≤ 0 := tv_rng t3
  obtain ⟨t4, hk⟩ := List.forall_mem_cons.mp hk
  have t4 : tv_ok ta (0, 0, 0, []) (n_v vs 4) := t4
  have k4 : 0 ≤ v_iv (n_v vs 4) ∧ v_iv (n_v vs 4) ≤ 0 := tv_rng t4
  obtain ⟨t5, hk⟩ := List.forall_mem_cons.mp hk
  have t5 : tv_ok ta (0, 0, 0, []) (n_v vs 5) := t5
  have k5 : 0 ≤ v_iv (n_v vs 5) ∧ v_iv (n_v vs 5) ≤ 0 := tv_rng t5
  have hf : fc_ok PRD [(20, [2, 0], [30, 0, 1, 0, 0, -1, 3, 2005000]), (20, [2, 0], [30, 0, -1, 0, 0, 1, 3, 2005000]), (20, [0], [60, 1, 1, 122, 5, 2]), (20, [0], [60, 0, 3, 291, 110, 111, 112]), (20, [0], [50, 1, 1, 5, 2, 0, 2, 0, 1, 3, 0, 2, 2, 0, 5]), (20, [0], [60, 1, 2, 290, 5, 2, 95]), (101, [0, 4], [81]), (20, [2, 0], [30, 0, 1, 0, 0, -1, 3, 2005000]), (20, [2, 0], [30, 0, -1, 0, 0, 1, 3, 2005000]), (20, [0], [60, 1, 1, 122, 5, 2]), (20, [0], [60, 0, 3, 291, 110, 111, 112]), (20, [0], [50, 1, 1, 5, 2, 0, 2, 0, 1, 3, 0, 2, 2, 0, 5]), (20, [0], [60, 1, 2, 290, 5, 2, 95]), (101, [0, 3], [80]), (20, [2, 0], [30, 0, 1, 0, 0, -1, 3, 2005000]), (20, [2, 0], [30, 0, -1, 0, 0, 1, 3, 2005000]), (20, [0], [60, 1, 1, 122, 5, 2]), (20, [0], [60, 0, 3, 291, 110, 111, 112]), (20, [0], [50, 1, 1, 5, 2, 0, 2, 0, 1, 3, 0, 2, 2, 0, 5]), (20, [0], [60, 1, 2, 290, 5, 2, 95]), (101, [0, 2], [79]), (20, [2, 0], [30, 0, 1, 0, 0, -1, 3, 2005000]), (20, [2, 0], [30, 0, -1, 0, 0, 1, 3, 2005000]), (20, [0], [60, 1, 1, 122, 5, 2]), (20, [0], [60, 0, 3, 291, 110, 111, 112]), (20, [0], [50, 1, 1, 5, 2, 0, 2, 0, 1, 3, 0, 2, 2, 0, 5]), (20, [0], [60, 1, 2, 290, 5, 2, 95])] ta ws vs := hf
  obtain ⟨f0, hf⟩ := fc_un (show (20 : Nat) < 100 from by decide) hf
  have f0 : 1 * v_iv (n_v vs 2) + ((-1) * w_el ws (w_ar ws (n_v vs 0) 2) (w_fi ws (n_v vs 0) 5 + 0).toNat + 0) ≤ 0 := f0
  obtain ⟨f1, hf⟩ := fc_un (show (20 : Nat) < 100 from by decide) hf
  have f1 : (-1) * v_iv (n_v vs 2) + (1 * w_el ws (w_ar ws (n_v vs 0) 2) (w_fi ws (n_v vs 0) 5 + 0).toNat + 0) ≤ 0 := f1
  obtain ⟨f2, hf⟩ := fc_un (show (20 : Nat) < 100 from by decide) hf
  have f2 : SGR (w_fi ws (n_v vs 0) 5) (w_ei ws (w_ar ws (n_v vs 0) 2)) := f2
  obtain ⟨f3, hf⟩ := fc_un (show (20 : Nat) < 100 from by decide) hf
  have f3 : PTB (w_ei ws (w_ar ws (n_v vs 0) 110)) (w_ei ws (w_ar ws (n_v vs 0) 111)) (w_ei ws (w_ar ws (n_v vs 0) 112)) := f3
  obtain ⟨f4, hf⟩ := fc_un (show (20 : Nat) < 100 from by decide) hf
  have f4 : 1 ≤ w_ei ws (w_ar ws (n_v vs 0) 2) (w_fi ws (n_v vs 0) 5) := f4
  obtain ⟨f5, hf⟩ := fc_un (show (20 : Nat) < 100 from by decide) hf
  have f5 : TRK (w_fi ws (n_v vs 0) 5) (w_ei ws (w_ar ws (n_v vs 0) 2)) (w_ei ws (w_ar ws (n_v vs 0) 95)) := f5
  obtain ⟨ta1, w1, le1, ⟨_, s1⟩, hf⟩ := fc_us (show ¬ (101 : Nat) < 100 from by decide) hf
  have s1 : (∀ b j, w_el ws b j = w_el w1 b j) ∧ ∀ b j, w_fd ws b j = if b = v_ad (n_v vs 0) ∧ j = 81 then n_v vs 4 else w_fd w1 b j := s1
  obtain ⟨f7, hf⟩ := fc_un (show (20 : Nat) < 100 from by decide) hf
  have f7 : 1 * v_iv (n_v vs 2) + ((-1) * w_el w1 (w_ar w1 (n_v vs 0) 2) (w_fi w1 (n_v vs 0) 5 + 0).toNat + 0) ≤ 0 := f7
  obtain ⟨f8, hf⟩ := fc_un (show (20 : Nat) < 100 from by decide) hf
  have f8 : (-1) * v_iv (n_v vs 2) + (1 * w_el w1 (w_ar w1 (n_v vs 0) 2) (w_fi w1 (n_v vs 0) 5 + 0).toNat + 0) ≤ 0 := f8
  obtain ⟨f9, hf⟩ := fc_un (show (20 : Nat) < 100 from by decide) hf
  have f9 : SGR (w_fi w1 (n_v vs 0) 5) (w_ei w1 (w_ar w1 (n_v vs 0) 2)) := f9
  obtain ⟨f10, hf⟩ := fc_un (show (20 : Nat) < 100 from by decide) hf
  have f10 : PTB (w_ei w1 (w_ar w1 (n_v vs 0) 110)) (w_ei w1 (w_ar w1 (n_v vs 0) 111)) (w_ei w1 (w_ar w1 (n_v vs 0) 112)) := f10
  obtain ⟨f11, hf⟩ := fc_un (show (20 : Nat) < 100 from by decide) hf
  have f11 : 1 ≤ w_ei w1 (w_ar w1 (n_v vs 0) 2) (w_fi w1 (n_v vs 0) 5) := f11
  obtain ⟨f12, hf⟩ := fc_un (show (20 : Nat) < 100 from by decide) hf
  have f12 : TRK (w_fi w1 (n_v vs 0) 5) (w_ei w1 (w_ar w1 (n_v vs 0) 2)) (w_ei w1 (w_ar w1 (n_v vs 0) 95)) := f12
  obtain ⟨ta2, w2, le2, ⟨_, s2⟩, hf⟩ := fc_us (show ¬ (101 : Nat) < 100 from by decide) hf
  have s2 : (∀ b j, w_el w1 b j = w_el w2 b j) ∧ ∀ b j, w_fd w1 b j = if b = v_ad (n_v vs 0) ∧ j = 80 then n_v vs 3 else w_fd w2 b j := s2
  obtain ⟨f14, hf⟩ := fc_un (show (20 : Nat) < 100 from by decide) hf
  have f14 : 1 * v_iv (n_v vs 2) + ((-1) * w_el w2 (w_ar w2 (n_v vs 0) 2) (w_fi w2 (n_v vs 0) 5 + 0).toNat + 0) ≤ 0 := f14
  obtain ⟨f15, hf⟩ := fc_un (show (20 : Nat) < 100 from by decide) hf
  have f15 : (-1) * v_iv (n_v vs 2) + (1 * w_el w2 (w_ar w2 (n_v vs 0) 2) (w_fi w2 (n_v vs 0) 5 + 0).toNat + 0) ≤ 0 := f15
  obtain ⟨f16, hf⟩ := fc_un (show (20 : Nat) < 100 from by decide) hf
  have f16 : SGR (w_fi w2 (n_v vs 0) 5) (w_ei w2 (w_ar w2 (n_v vs 0) 2)) := f16
  obtain ⟨f17, hf⟩ := fc_un (show (20 : Nat) < 100 from by decide) hf
  have f17 : PTB (w_ei w2 (w_ar w2 (n_v vs 0) 110)) (w_ei w2 (w_ar w2 (n_v vs 0) 111)) (w_ei w2 (w_ar w2 (n_v vs 0) 112)) := f17
  obtain ⟨f18, hf⟩ := fc_un (show (20 : Nat) < 100 from by decide) hf
  have f18 : 1 ≤ w_ei w2 (w_ar w2 (n_v vs 0) 2) (w_fi w2 (n_v vs 0) 5) := f18
  obtain ⟨f19, hf⟩ := fc_un (show (20 : Nat) < 100 from by decide) hf
  have f19 : TRK (w_fi w2 (n_v vs 0) 5) (w_ei w2 (w_ar w2 (n_v vs 0) 2)) (w_ei w2 (w_ar w2 (n_v vs 0) 95)) := f19
  obtain ⟨ta3, w3, le3, ⟨_, s3⟩, hf⟩ := fc_us (show ¬ (101 : Nat) < 100 from by decide) hf
  have s3 : (∀ b j, w_el w2 b j = w_el w3 b j) ∧ ∀ b j, w_fd w2 b j = if b = v_ad (n_v vs 0) ∧ j = 79 then n_v vs 2 else w_fd w3 b j := s3
  obtain ⟨f21, hf⟩ := fc_un (show (20 : Nat) < 100 from by decide) hf
  have f21 : 1 * v_iv (n_v vs 2) + ((-1) * w_el w3 (w_ar w3 (n_v vs 0) 2) (w_fi w3 (n_v vs 0) 5 + 0).toNat + 0) ≤ 0 := f21
  obtain ⟨f22, hf⟩ := fc_un (show (20 : Nat) < 100 from by decide) hf
  have f22 : (-1) * v_iv (n_v vs 2) + (1 * w_el w3 (w_ar w3 (n_v vs 0) 2) (w_fi w3 (n_v vs 0) 5 + 0).toNat + 0) ≤ 0 := f22
  obtain ⟨f23, hf⟩ := fc_un (show (20 : Nat) < 100 from by decide) hf
  have f23 : SGR (w_fi w3 (n_v vs 0) 5) (w_ei w3 (w_ar w3 (n_v vs 0) 2)) := f23
  obtain ⟨f24, hf⟩ := fc_un (show (20 : Nat) < 100 from by decide) hf
  have f24 : PTB (w_ei w3 (w_ar w3 (n_v vs 0) 110)) (w_ei w3 (w_ar w3 (n_v vs 0) 111)) (w_ei w3 (w_ar w3 (n_v vs 0) 112)) := f24
  obtain ⟨f25, hf⟩ := fc_un (show (20 : Nat) < 100 from by decide) hf
  have f25 : 1 ≤ w_ei w3 (w_ar w3 (n_v vs 0) 2) (w_fi w3 (n_v vs 0) 5) := f25
  obtain ⟨f26, hf⟩ := fc_un (show (20 : Nat) < 100 from by decide) hf
  have f26 : TRK (w_fi w3 (n_v vs 0) 5) (w_ei w3 (w_ar w3 (n_v vs 0) 2)) (w_ei w3 (w_ar w3 (n_v vs 0) 95)) := f26
  have ar_0_2_1 : w_ar w1 (n_v vs 0) 2 = w_ar ws (n_v vs 0) 2 := by show v_ad (w_fd w1 _ _) = v_ad (w_fd ws _ _); rw [s1.2, if_neg (fun e => absurd e.2 (by decide))]
  have ar_0_2_2 : w_ar w2 (n_v vs 0) 2 = w_ar ws (n_v vs 0) 2 := by rw [← ar_0_2_1]; show v_ad (w_fd w2 _ _) = v_ad (w_fd w1 _ _); rw [s2.2, if_neg (fun e => absurd e.2 (by decide))]
  have ar_0_2_3 : w_ar w3 (n_v vs 0) 2 = w_ar ws (n_v vs 0) 2 := by rw [← ar_0_2_2]; show v_ad (w_fd w3 _ _) = v_ad (w_fd w2 _ _); rw [s3.2, if_neg (fun e => absurd e.2 (by decide))]
  have cr_0_2 : ta (w_ar ws (n_v vs 0) 2) = some 152 := tv_rg (th_fd hD hth r0 (g := GG_150) rfl (k := 2) (t := (2, 0, 0, [152])) rfl rfl)
  have ar_0_83_1 : w_ar w1 (n_v vs 0) 83 = w_ar ws (n_v vs 0) 83 := by show v_ad (w_fd w1 _ _) = v_ad (w_fd ws _ _); rw [s1.2, if_neg (fun e => absurd e.2 (by decide))]
  have ar_0_83_2 : w_ar w2 (n_v vs 0) 83 = w_ar ws (n_v vs 0) 83 := by rw [← ar_0_83_1]; show v_ad (w_fd w2 _ _) = v_ad (w_fd w1 _ _); rw [s2.2, if_neg (fun e => absurd e.2 (by decide))]
  have ar_0_83_3 : w_ar w3 (n_v vs 0) 83 = w_ar ws (n_v vs 0) 83 := by rw [← ar_0_83_2]; show v_ad (w_fd w3 _ _) = v_ad (w_fd w2 _ _); rw [s3.2, if_neg (fun e => absurd e.2 (by decide))]
  have cr_0_83 : ta (w_ar ws (n_v vs 0) 83) = some 205 := tv_rg (th_fd hD hth r0 (g := GG_150) rfl (k := 83) (t := (2, 0, 0, [205])) rfl rfl)
  have ar_0_84_1 : w_ar w1 (n_v vs 0) 84 = w_ar ws (n_v vs 0) 84 := by show v_ad (w_fd w1 _ _) = v_ad (w_fd ws _ _); rw [s1.2, if_neg (fun e => absurd e.2 (by decide))]
  have ar_0_84_2 : w_ar w2 (n_v vs 0) 84 = w_ar ws (n_v vs 0) 84 := by rw [← ar_0_84_1]; show v_ad (w_fd w2 _ _) = v_ad (w_fd w1 _ _); rw [s2.2, if_neg (fun e => absurd e.2 (by decide))]
  have ar_0_84_3 : w_ar w3 (n_v vs 0) 84 = w_ar ws (n_v vs 0) 84 := by rw [← ar_0_84_2]; show v_ad (w_fd w3 _ _) = v_ad (w_fd w2 _ _); rw [s3.2, if_neg (fun e => absurd e.2 (by decide))]
  have cr_0_84 : ta (w_ar ws (n_v vs 0) 84) = some 206 := tv_rg (th_fd hD hth r0 (g := GG_150) rfl (k := 84) (t := (2, 0, 0, [206])) rfl rfl)
  have ar_0_85_1 : w_ar w1 (n_v vs 0) 85 = w_ar ws (n_v vs 0) 85 := by show v_ad (w_fd w1 _ _) = v_ad (w_fd ws _ _); rw [s1.2, if_neg (fun e => absurd e.2 (by decide))]
  have ar_0_85_2 : w_ar w2 (n_v vs 0) 85 = w_ar ws (n_v vs 0) 85 := by rw [← ar_0_85_1]; show v_ad (w_fd w2 _ _) = v_ad (w_fd w1 _ _); rw [s2.2, if_neg (fun e => absurd e.2 (by decide))]
  have ar_0_85_3 : w_ar w3 (n_v vs 0) 85 = w_ar ws (n_v vs 0) 85 := by rw [← ar_0_85_2]; show v_ad (w_fd w3 _ _) = v_ad (w_fd w2 _ _); rw [s3.2, if_neg (fun e => absurd e.2 (by decide))]
  have cr_0_85 : ta (w_ar ws (n_v vs 0) 85) = some 207 := tv_rg (th_fd hD hth r0 (g := GG_150) rfl (k := 85) (t := (2, 0, 0, [207])) rfl rfl)
  have ar_0_86_1 : w_ar w1 (n_v vs 0) 86 = w_ar ws (n_v vs 0) 86 := by show v_ad (w_fd w1 _ _) = v_ad (w_fd ws _ _); rw [s1.2, if_neg (fun e => absurd e.2 (by decide))]
  have ar_0_86_2 : w_ar w2 (n_v vs 0) 86 = w_ar ws (n_v vs 0) 86 := by rw [← ar_0_86_1]; show v_ad (w_fd w2 _ _) = v_ad (w_fd w1 _ _); rw [s2.2, if_neg (fun e => absurd e.2 (by decide))]
  have ar_0_86_3 : w_ar w3 (n_v vs 0) 86 = w_ar ws (n_v vs 0) 86 := by rw [← ar_0_86_2]; show v_ad (w_fd w3 _ _) = v_ad (w_fd w2 _ _); rw [s3.2, if_neg (fun e => absurd e.2 (by decide))]
  have cr_0_86 : ta (w_ar ws (n_v vs 0) 86) = some 208 := tv_rg (th_fd hD hth r0 (g := GG_150) rfl (k := 86) (t := (2, 0, 0, [208])) rfl rfl)
  have ar_0_87_1 : w_ar w1 (n_v vs 0) 87 = w_ar ws (n_v vs 0) 87 := by show v_ad (w_fd w1 _ _) = v_ad (w_fd ws _ _); rw [s1.2, if_neg (fun e => absurd e.2 (by decide))]
  have ar_0_87_2 : w_ar w2 (n_v vs 0) 87 = w_ar ws (n_v vs 0) 87 := by rw [← ar_0_87_1]; show v_ad (w_fd w2 _ _) = v_ad (w_fd w1 _ _); rw [s2.2, if_neg (fun e => absurd e.2 (by decide))]
  have ar_0_87_3 : w_ar w3 (n_v vs 0) 87 = w_ar ws (n_v vs 0) 87 := by rw [← ar_0_87_2]; show v_ad (w_fd w3 _ _) = v_ad (w_fd w2 _ _); rw [s3.2, if_neg (fun e => absurd e.2 (by decide))]
  have cr_0_87 : ta (w_ar ws (n_v vs 0) 87) = some 209 := tv_rg (th_fd hD hth r0 (g := GG_150) rfl (k := 87) (t := (2, 0, 0, [209])) rfl rfl)
  have ar_0_88_1 : w_ar w1 (n_v vs 0) 88 = w_ar ws (n_v vs 0) 88 := by show v_ad (w_fd w1 _ _) = v_ad (w_fd ws _ _); rw [s1.2, if_neg (fun e => absurd e.2 (by decide))]
  have ar_0_88_2 : w_ar w2 (n_v vs 0) 88 = w_ar ws (n_v vs 0) 88 := by rw [← ar_0_88_1]; show v_ad (w_fd w2 _ _) = v_ad (w_fd w1 _ _); rw [s2.2, if_neg (fun e => absurd e.2 (by decide))]
  have ar_0_88_3 : w_ar w3 (n_v vs 0) 88 = w_ar ws (n_v vs 0) 88 := by rw [← ar_0_88_2]; show v_ad (w_fd w3 _ _) = v_ad (w_fd w2 _ _); rw [s3.2, if_neg (fun e => absurd e.2 (by decide))]
  have cr_0_88 : ta (w_ar ws (n_v vs 0) 88) = some 210 := tv_rg (th_fd hD hth r0 (g := GG_150) rfl (k := 88) (t := (2, 0, 0, [210])) rfl rfl)
  have ar_0_89_1 : w_ar w1 (n_v vs 0) 89 = w_ar ws (n_v vs 0) 89 := by show v_ad (w_fd w1 _ _) = v_ad (w_fd ws _ _); rw [s1.2, if_neg (fun e => absurd e.2 (by decide))]
  have ar_0_89_2 : w_ar w2 (n_v vs 0) 89 = w_ar ws (n_v vs 0) 89 := by rw [← ar_0_89_1]; show v_ad (w_fd w2 _ _) = v_ad (w_fd w1 _ _); rw [s2.2, if_neg (fun e => absurd e.2 (by decide))]
  have ar_0_89_3 : w_ar w3 (n_v vs 0) 89 = w_ar ws (n_v vs 0) 89 := by rw [← ar_0_89_2]; show v_ad (w_fd w3 _ _) = v_ad (w_fd w2 _ _); rw [s3.2, if_neg (fun e => absurd e.2 (by decide))]
  have cr_0_89 : ta (w_ar ws (n_v vs 0) 89) = some 211 := tv_rg (th_fd hD hth r0 (g := GG_150) rfl (k := 89) (t := (2, 0, 0, [211])) rfl rfl)
  have ar_0_95_1 : w_ar w1 (n_v vs 0) 95 = w_ar ws (n_v vs 0) 95 := by show v_ad (w_fd w1 _ _) = v_ad (w_fd ws _ _); rw [s1.2, if_neg (fun e => absurd e.2 (by decide))]
  have ar_0_95_2 : w_ar w2 (n_v vs 0) 95 = w_ar ws (n_v vs 0) 95 := by rw [← ar_0_95_1]; show v_ad (w_fd w2 _ _) = v_ad (w_fd w1 _ _); rw [s2.2, if_neg (fun e => absurd e.2 (by decide))]
  have ar_0_95_3 : w_ar w3 (n_v vs 0) 95 = w_ar ws (n_v vs 0) 95 := by rw [← ar_0_95_2]; show v_ad (w_fd w3 _ _) = v_ad (w_fd w2 _ _); rw [s3.2, if_neg (fun e => absurd e.2 (by decide))]
  have cr_0_95 : ta (w_ar ws (n_v vs 0) 95) = some 216 := tv_rg (th_fd hD hth r0 (g := GG_150) rfl (k := 95) (t := (2, 0, 0, [216])) rfl rfl)
  have ar_0_110_1 : w_ar w1 (n_v vs 0) 110 = w_ar ws (n_v vs 0) 110 := by show v_ad (w_fd w1 _ _) = v_ad (w_fd ws _ _); rw [s1.2, if_neg (fun e => absurd e.2 (by decide))]
  have ar_0_110_2 : w_ar w2 (n_v vs 0) 110 = w_ar ws (n_v vs 0) 110 := by rw [← ar_0_110_1]; show v_ad (w_fd w2 _ _) = v_ad (w_fd w1 _ _); rw [s2.2, if_neg (fun e => absurd e.2 (by decide))]
  have ar_0_110_3 : w_ar w3 (n_v vs 0) 110 = w_ar ws (n_v vs 0) 110 := by rw [← ar_0_110_2]; show v_ad (w_fd w3 _ _) = v_ad (w_fd w2 _ _); rw [s3.2, if_neg (fun e => absurd e.2 (by decide))]
  have cr_0_110 : ta (w_ar ws (n_v vs 0) 110) = some 227 := tv_rg (th_fd hD hth r0 (g := GG_150) rfl (k := 110) (t := (2, 0, 0, [227])) rfl rfl)
  have ar_0_111_1 : w_ar w1 (n_v vs 0) 111 = w_ar ws (n_v vs 0) 111 := by show v_ad (w_fd w1 _ _) = v_ad (w_fd ws _ _); rw [s1.2, if_neg (fun e => absurd e.2 (by decide))]
  have ar_0_111_2 : w_ar w2 (n_v vs 0) 111 = w_ar ws (n_v vs 0) 111 := by rw [← ar_0_111_1]; show v_ad (w_fd w2 _ _) = v_ad (w_fd w1 _ _); rw [s2.2, if_neg (fun e => absurd e.2 (by decide))]
  have ar_0_111_3 : w_ar w3 (n_v vs 0) 111 = w_ar ws (n_v vs 0) 111 := by rw [← ar_0_111_2]; show v_ad (w_fd w3 _ _) = v_ad (w_fd w2 _ _); rw [s3.2, if_neg (fun e => absurd e.2 (by decide))]
  have cr_0_111 : ta (w_ar ws (n_v vs 0) 111) = some 228 := tv_rg (th_fd hD hth r0 (g := GG_150) rfl (k := 111) (t := (2, 0, 0, [228])) rfl rfl)
  have ar_0_112_1 : w_ar w1 (n_v vs 0) 112 = w_ar ws (n_v vs 0) 112 := by show v_ad (w_fd w1 _ _) = v_ad (w_fd ws _ _); rw [s1.2, if_neg (fun e => absurd e.2 (by decide))]
  have ar_0_112_2 : w_ar w2 (n_v vs 0) 112 = w_ar ws (n_v vs 0) 112 := by rw [← ar_0_112_1]; show v_ad (w_fd w2 _ _) = v_ad (w_fd w1 _ _); rw [s2.2, if_neg (fun e => absurd e.2 (by decide))]
  have ar_0_112_3 : w_ar w3 (n_v vs 0) 112 = w_ar ws (n_v vs 0) 112 := by rw [← ar_0_112_2]; show v_ad (w_fd w3 _ _) = v_ad (w_fd w2 _ _); rw [s3.2, if_neg (fun e => absurd e.2 (by decide))]
  have cr_0_112 : ta (w_ar ws (n_v vs 0) 112) = some 229 := tv_rg (th_fd hD hth r0 (g := GG_150) rfl (k := 112) (t := (2, 0, 0, [229])) rfl rfl)
  have fi_0_5_1 : w_fi w1 (n_v vs 0) 5 = w_fi ws (n_v vs 0) 5 := by show v_iv (w_fd w1 _ _) = v_iv (w_fd ws _ _); rw [s1.2, if_neg (fun e => absurd e.2 (by decide))]
  have fi_0_5_2 : w_fi w2 (n_v vs 0) 5 = w_fi ws (n_v vs 0) 5 := by rw [← fi_0_5_1]; show v_iv (w_fd w2 _ _) = v_iv (w_fd w1 _ _); rw [s2.2, if_neg (fun e => absurd e.2 (by decide))]
  have fi_0_5_3 : w_fi w3 (n_v vs 0) 5 = w_fi ws (n_v vs 0) 5 := by rw [← fi_0_5_2]; show v_iv (w_fd w3 _ _) = v_iv (w_fd w2 _ _); rw [s3.2, if_neg (fun e => absurd e.2 (by decide))]
  rw [ar_0_2_1] at f7
  rw [fi_0_5_1] at f7
  rw [ar_0_2_1] at f8
  rw [fi_0_5_1] at f8
  rw [ar_0_2_1] at f9
  rw [ar_0_110_1] at f10
  rw [ar_0_111_1] at f10
  rw [ar_0_112_1] at f10
  rw [ar_0_2_1] at f11
  rw [ar_0_2_1] at f12
  rw [ar_0_95_1] at f12
  rw [ar_0_2_2] at f14
  rw [fi_0_5_2] at f14
  rw [ar_0_2_2] at f15
  rw [fi_0_5_2] at f15
  rw [ar_0_2_2] at f16
  rw [ar_0_110_2] at f17
  rw [ar_0_111_2] at f17
  rw [ar_0_112_2] at f17
  rw [ar_0_2_2] at f18
  rw [ar_0_2_2] at f19
  rw [ar_0_95_2] at f19
  rw [ar_0_2_3] at f21
  rw [fi_0_5_3] at f21
  rw [ar_0_2_3] at f22
  rw [fi_0_5_3] at f22
  rw [ar_0_2_3] at f23
  rw [ar_0_110_3] at f24
  rw [ar_0_111_3] at f24
  rw [ar_0_112_3] at f24
  rw [ar_0_2_3] at f25
  rw [ar_0_2_3] at f26
  rw [ar_0_95_3] at f26
  have fe_0_5_1 : w_fi ws (n_v vs 0) 5 = w_fi w1 (n_v vs 0) 5 := by show v_iv (w_fd _ _ _) = v_iv (w_fd _ _ _); rw [s1.2, if_neg (fun e => absurd e.2 (by decide))]
  have fe_0_79_1 : w_fi ws (n_v vs 0) 79 = w_fi w1 (n_v vs 0) 79 := by show v_iv (w_fd _ _ _) = v_iv (w_fd _ _ _); rw [s1.2, if_neg (fun e => absurd e.2 (by decide))]
  have fe_0_80_1 : w_fi ws (n_v vs 0) 80 = w_fi w1 (n_v vs 0) 80 := by show v_iv (w_fd _ _ _) = v_iv (w_fd _ _ _); rw [s1.2, if_neg (fun e => absurd e.2 (by decide))]
  have fe_0_81_1 : w_fi ws (n_v vs 0) 81 = v_iv (n_v vs 4) := by show v_iv (w_fd _ _ _) = _; rw [s1.2, if_pos ⟨rfl, rfl⟩]
  have fe_0_5_2 : w_fi w1 (n_v vs 0) 5 = w_fi w2 (n_v vs 0) 5 := by show v_iv (w_fd _ _ _) = v_iv (w_fd _ _ _); rw [s2.2, if_neg (fun e => absurd e.2 (by decide))]
  have fe_0_79_2 : w_fi w1 (n_v vs 0) 79 = w_fi w2 (n_v vs 0) 79 := by show v_iv (w_fd _ _ _) = v_iv (w_fd _ _ _); rw [s2.2, if_neg (fun e => absurd e.2 (by decide))]
  have fe_0_80_2 : w_fi w1 (n_v vs 0) 80 = v_iv (n_v vs 3) := by show v_iv (w_fd _ _ _) = _; rw [s2.2, if_pos ⟨rfl, rfl⟩]
  have fe_0_81_2 : w_fi w1 (n_v vs 0) 81 = w_fi w2 (n_v vs 0) 81 := by show v_iv (w_fd _ _ _) = v_iv (w_fd _ _ _); rw [s2.2, if_neg (fun e => absurd e.2 (by decide))]
  have fe_0_5_3 : w_fi w2 (n_v vs 0) 5 = w_fi w3 (n_v vs 0) 5 := by show v_iv (w_fd _ _ _) = v_iv (w_fd _ _ _); rw [s3.2, if_neg (fun e => absurd e.2 (by decide))]
  have fe_0_79_3 : w_fi w2 (n_v vs 0) 79 = v_iv (n_v vs 2) := by show v_iv (w_fd _ _ _) = _; rw [s3.2, if_pos ⟨rfl, rfl⟩]
  have fe_0_80_3 : w_fi w2 (n_v vs 0) 80 = w_fi w3 (n_v vs 0) 80 := by show v_iv (w_fd _ _ _) = v_iv (w_fd _ _ _); rw [s3.2, if_neg (fun e => absurd e.2 (by decide))]
  have fe_0_81_3 : w_fi w2 (n_v vs 0) 81 = w_fi w3 (n_v vs 0) 81 := by show v_iv (w_fd _ _ _) = v_iv (w_fd _ _ _); rw [s3.2, if_neg (fun e => absurd e.2 (by decide))]
  have hE_0_2_1 : ∀ j : Int, w_ei ws (w_ar ws (n_v vs 0) 2) j = w_ei w1 (w_ar ws (n_v vs 0) 2) j := fun j => s1.1 _ _
  have hE_0_2_2 : ∀ j : Int, w_ei w1 (w_ar ws (n_v vs 0) 2) j = w_ei w2 (w_ar ws (n_v vs 0) 2) j := fun j => s2.1 _ _
  have hE_0_2_3 : ∀ j : Int, w_ei w2 (w_ar ws (n_v vs 0) 2) j = w_ei w3 (w_ar ws (n_v vs 0) 2) j := fun j => s3.1 _ _
  have hE_0_83_1 : ∀ j : Int, w_ei ws (w_ar ws (n_v vs 0) 83) j = w_ei w1 (w_ar ws (n_v vs 0) 83) j := fun j => s1.1 _ _
  have hE_0_83_2 : ∀ j : Int, w_ei w1 (w_ar ws (n_v vs 0) 83) j = w_ei w2 (w_ar ws (n_v vs 0) 83) j := fun j => s2.1 _ _
  have hE_0_83_3 : ∀ j : Int, w_ei w2 (w_ar ws (n_v vs 0) 83) j = w_ei w3 (w_ar ws (n_v vs 0) 83) j := fun j => s3.1 _ _
  have hK_0_83 : ∀ j : Int, 0 ≤ j → j < 200 → 0 ≤ w_ei ws (w_ar ws (n_v vs 0) 83) j ∧ w_ei ws (w_ar ws (n_v vs 0) 83) j ≤ 75 := fun j h0 h1 => th_el hD hth cr_0_83 (kd := 0) (n := 200) (m := 200) (lo := 0) (hi := 75) (rs := []) (L := []) rfl (by decide) (j := j.toNat) (by omega)
  have hE_0_84_1 : ∀ j : Int, w_ei ws (w_ar ws (n_v vs 0) 84) j = w_ei w1 (w_ar ws (n_v vs 0) 84) j := fun j => s1.1 _ _
  have hE_0_84_2 : ∀ j : Int, w_ei w1 (w_ar ws (n_v vs 0) 84) j = w_ei w2 (w_ar ws (n_v vs 0) 84) j := fun j => s2.1 _ _
  have hE_0_84_3 : ∀ j : Int, w_ei w2 (w_ar ws (n_v vs 0) 84) j = w_ei w3 (w_ar ws (n_v vs 0) 84) j := fun j => s3.1 _ _
  have hK_0_84 : ∀ j : Int, 0 ≤ j → j < 200 → 0 ≤ w_ei ws (w_ar ws (n_v vs 0) 84) j ∧ w_ei ws (w_ar ws (n_v vs 0) 84) j ≤ 75 := fun j h0 h1 => th_el hD hth cr_0_84 (kd := 0) (n := 200) (m := 200) (lo := 0) (hi := 75) (rs := []) (L := []) rfl (by decide) (j := j.toNat) (by omega)
  have hE_0_85_1 : ∀ j : Int, w_ei ws (w_ar ws (n_v vs 0) 85) j = w_ei w1 (w_ar ws (n_v vs 0) 85) j := fun j => s1.1 _ _
  have hE_0_85_2 : ∀ j : Int, w_ei w1 (w_ar ws (n_v vs 0) 85) j = w_ei w2 (w_ar ws (n_v vs 0) 85) j := fun j => s2.1 _ _
  have hE_0_85_3 : ∀ j : Int, w_ei w2 (w_ar ws (n_v vs 0) 85) j = w_ei w3 (w_ar ws (n_v vs 0) 85) j := fun j => s3.1 _ _
  have hK_0_85 : ∀ j : Int, 0 ≤ j → j < 200 → 0 ≤ w_ei ws (w_ar ws (n_v vs 0) 85) j ∧ w_ei ws (w_ar ws (n_v vs 0) 85) j ≤ 72 := fun j h0 h1 => th_el hD hth cr_0_85 (kd := 0) (n := 200) (m := 200) (lo := 0) (hi := 72) (rs := []) (L := []) rfl (by decide) (j := j.toNat) (by omega)
  have hE_0_86_1 : ∀ j : Int, w_ei ws (w_ar ws (n_v vs 0) 86) j = w_ei w1 (w_ar ws (n_v vs 0) 86) j := fun j => s1.1 _ _
  have hE_0_86_2 : ∀ j : Int, w_ei w1 (w_ar ws (n_v vs 0) 86) j = w_ei w2 (w_ar ws (n_v vs 0) 86) j := fun j => s2.1 _ _
  have hE_0_86_3 : ∀ j : Int, w_ei w2 (w_ar ws (n_v vs 0) 86) j = w_ei w3 (w_ar ws (n_v vs 0) 86) j := fun j => s3.1 _ _
  have hK_0_86 : ∀ j : Int, 0 ≤ j → j < 200 → 0 ≤ w_ei ws (w_ar ws (n_v vs 0) 86) j ∧ w_ei ws (w_ar ws (n_v vs 0) 86) j ≤ 1 := fun j h0 h1 => th_el hD hth cr_0_86 (kd := 2) (n := 200) (m := 200) (lo := 0) (hi := 1) (rs := []) (L := []) rfl (by decide) (j := j.toNat) (by omega)
  have hE_0_87_1 : ∀ j : Int, w_ei ws (w_ar ws (n_v vs 0) 87) j = w_ei w1 (w_ar ws (n_v vs 0) 87) j := fun j => s1.1 _ _
  have hE_0_87_2 : ∀ j : Int, w_ei w1 (w_ar ws (n_v vs 0) 87) j = w_ei w2 (w_ar ws (n_v vs 0) 87) j := fun j => s2.1 _ _
  have hE_0_87_3 : ∀ j : Int, w_ei w2 (w_ar ws (n_v vs 0) 87) j = w_ei w3 (w_ar ws (n_v vs 0) 87) j := fun j => s3.1 _ _
  have hK_0_87 : ∀ j : Int, 0 ≤ j → j < 200 → 0 ≤ w_ei ws (w_ar ws (n_v vs 0) 87) j ∧ w_ei ws (w_ar ws (n_v vs 0) 87) j ≤ 75 := fun j h0 h1 => th_el hD hth cr_0_87 (kd := 0) (n := 200) (m := 200) (lo := 0) (hi := 75) (rs := []) (L := []) rfl (by decide) (j := j.toNat) (by omega)
  have hE_0_88_1 : ∀ j : Int, w_ei ws (w_ar ws (n_v vs 0) 88) j = w_ei w1 (w_ar ws (n_v vs 0) 88) j := fun j => s1.1 _ _
  have hE_0_88_2 : ∀ j : Int, w_ei w1 (w_ar ws (n_v vs 0) 88) j = w_ei w2 (w_ar ws (n_v vs 0) 88) j := fun j => s2.1 _ _
  have hE_0_88_3 : ∀ j : Int, w_ei w2 (w_ar ws (n_v vs 0) 88) j = w_ei w3 (w_ar ws (n_v vs 0) 88) j := fun j => s3.1 _ _
  have hK_0_88 : ∀ j : Int, 0 ≤ j → j < 200 → 0 ≤ w_ei ws (w_ar ws (n_v vs 0) 88) j ∧ w_ei ws (w_ar ws (n_v vs 0) 88) j ≤ 75 := fun j h0 h1 => th_el hD hth cr_0_88 (kd := 0) (n := 200) (m := 200) (lo := 0) (hi := 75) (rs := []) (L := []) rfl (by decide) (j := j.toNat) (by omega)
  have hE_0_89_1 : ∀ j : Int, w_ei ws (w_ar ws (n_v vs 0) 89) j = w_ei w1 (w_ar ws (n_v vs 0) 89) j := fun j => s1.1 _ _
  have hE_0_89_2 : ∀ j : Int, w_ei w1 (w_ar ws (n_v vs 0) 89) j = w_ei w2 (w_ar ws (n_v vs 0) 89) j := fun j => s2.1 _ _
  have hE_0_89_3 : ∀ j : Int, w_ei w2 (w_ar ws (n_v vs 0) 89) j = w_ei w3 (w_ar ws (n_v vs 0) 89) j := fun j => s3.1 _ _
  have hK_0_89 : ∀ j : Int, 0 ≤ j → j < 200 → 0 ≤ w_ei ws (w_ar ws (n_v vs 0) 89) j ∧ w_ei ws (w_ar ws (n_v vs 0) 89) j ≤ 202 := fun j h0 h1 => th_el hD hth cr_0_89 (kd := 0) (n := 200) (m := 200) (lo := 0) (hi := 202) (rs := []) (L := []) rfl (by decide) (j := j.toNat) (by omega)
  have hE_0_95_1 : ∀ j : Int, w_ei ws (w_ar ws (n_v vs 0) 95) j = w_ei w1 (w_ar ws (n_v vs 0) 95) j := fun j => s1.1 _ _
  have hE_0_95_2 : ∀ j : Int, w_ei w1 (w_ar ws (n_v vs 0) 95) j = w_ei w2 (w_ar ws (n_v vs 0) 95) j := fun j => s2.1 _ _
  have hE_0_95_3 : ∀ j : Int, w_ei w2 (w_ar ws (n_v vs 0) 95) j = w_ei w3 (w_ar ws (n_v vs 0) 95) j := fun j => s3.1 _ _
  have hK_0_95 : ∀ j : Int, 0 ≤ j → j < 48 → 0 ≤ w_ei ws (w_ar ws (n_v vs 0) 95) j ∧ w_ei ws (w_ar ws (n_v vs 0) 95) j ≤ 1 := fun j h0 h1 => th_el hD hth cr_0_95 (kd := 2) (n := 48) (m := 48) (lo := 0) (hi := 1) (rs := []) (L := []) rfl (by decide) (j := j.toNat) (by omega)
  have hE_0_110_1 : ∀ j : Int, w_ei ws (w_ar ws (n_v vs 0) 110) j = w_ei w1 (w_ar ws (n_v vs 0) 110) j := fun j => s1.1 _ _
  have hE_0_110_2 : ∀ j : Int, w_ei w1 (w_ar ws (n_v vs 0) 110) j = w_ei w2 (w_ar ws (n_v vs 0) 110) j := fun j => s2.1 _ _
  have hE_0_110_3 : ∀ j : Int, w_ei w2 (w_ar ws (n_v vs 0) 110) j = w_ei w3 (w_ar ws (n_v vs 0) 110) j := fun j => s3.1 _ _
  have hK_0_110 : ∀ j : Int, 0 ≤ j → j < 8 → 0 ≤ w_ei ws (w_ar ws (n_v vs 0) 110) j ∧ w_ei ws (w_ar ws (n_v vs 0) 110) j ≤ 5500 := fun j h0 h1 => th_el hD hth cr_0_110 (kd := 0) (n := 8) (m := 8) (lo := 0) (hi := 5500) (rs := []) (L := []) rfl (by decide) (j := j.toNat) (by omega)
  have hE_0_111_1 : ∀ j : Int, w_ei ws (w_ar ws (n_v vs 0) 111) j = w_ei w1 (w_ar ws (n_v vs 0) 111) j := fun j => s1.1 _ _
  have hE_0_111_2 : ∀ j : Int, w_ei w1 (w_ar ws (n_v vs 0) 111) j = w_ei w2 (w_ar ws (n_v vs 0) 111) j := fun j => s2.1 _ _
  have hE_0_111_3 : ∀ j : Int, w_ei w2 (w_ar ws (n_v vs 0) 111) j = w_ei w3 (w_ar ws (n_v vs 0) 111) j := fun j => s3.1 _ _
  have hK_0_111 : ∀ j : Int, 0 ≤ j → j < 8 → 0 ≤ w_ei ws (w_ar ws (n_v vs 0) 111) j ∧ w_ei ws (w_ar ws (n_v vs 0) 111) j ≤ 720 := fun j h0 h1 => th_el hD hth cr_0_111 (kd := 0) (n := 8) (m := 8) (lo := 0) (hi := 720) (rs := []) (L := []) rfl (by decide) (j := j.toNat) (by omega)
  have hE_0_112_1 : ∀ j : Int, w_ei ws (w_ar ws (n_v vs 0) 112) j = w_ei w1 (w_ar ws (n_v vs 0) 112) j := fun j => s1.1 _ _
  have hE_0_112_2 : ∀ j : Int, w_ei w1 (w_ar ws (n_v vs 0) 112) j = w_ei w2 (w_ar ws (n_v vs 0) 112) j := fun j => s2.1 _ _
  have hE_0_112_3 : ∀ j : Int, w_ei w2 (w_ar ws (n_v vs 0) 112) j = w_ei w3 (w_ar ws (n_v vs 0) 112) j := fun j => s3.1 _ _
  have hK_0_112 : ∀ j : Int, 0 ≤ j → j < 6000 → 0 ≤ w_ei ws (w_ar ws (n_v vs 0) 112) j ∧ w_ei ws (w_ar ws (n_v vs 0) 112) j ≤ 5 := fun j h0 h1 => th_el hD hth cr_0_112 (kd := 1) (n := 6000) (m := 6000) (lo := 0) (hi := 5) (rs := []) (L := []) rfl (by decide) (j := j.toNat) (by omega)
  have kz_0_79 : 0 ≤ w_fi ws (n_v vs 0) 79 ∧ w_fi ws (n_v vs 0) 79 ≤ 76 := tv_rng (th_fd hD hth r0 (g := GG_150) rfl (k := 79) (t := (0, 0, 76, [])) rfl rfl)
  have kz_0_80 : 0 ≤ w_fi ws (n_v vs 0) 80 ∧ w_fi ws (n_v vs 0) 80 ≤ 200 := tv_rng (th_fd hD hth r0 (g := GG_150) rfl (k := 80) (t := (0, 0, 200, [])) rfl rfl)
  have kz_0_81 : 0 ≤ w_fi ws (n_v vs 0) 81 ∧ w_fi ws (n_v vs 0) 81 ≤ 200 := tv_rng (th_fd hD hth r0 (g := GG_150) rfl (k := 81) (t := (0, 0, 200, [])) rfl rfl)
  have nf0 : fc_1 PRD (20, [5, 0], [50, 1, 1, 1005, 1002, 0, 2, 1, 0, 3, 1, 2, 4, 3, 2, 1, 5, 0, 1]) ws (vs) := by
    refine ⟨fun n hn => ?_, ?_⟩
    · have hn : n ∈ [5, 0] := hn
      rw [hl]
      simp only [List.mem_cons, List.not_mem_nil, or_false] at hn
      show n < 6; omega
    · show v_iv (n_v vs 5) ≤ w_ei ws (w_ar ws (n_v vs 0) 2) ((w_fi ws (n_v vs 0) 5 + 1))
      exact vc_Mo_layers_0_0 (v_iv (n_v vs 2)) (v_iv (n_v vs 3)) (v_iv (n_v vs 4)) (v_iv (n_v vs 5)) (w_ei ws (w_ar ws (n_v vs 0) 2)) (w_fi ws (n_v vs 0) 5) (w_ei ws (w_ar ws (n_v vs 0) 110)) (w_ei ws (w_ar ws (n_v vs 0) 111)) (w_ei ws (w_ar ws (n_v vs 0) 112)) (w_ei ws (w_ar ws (n_v vs 0) 95)) (w_ei w1 (w_ar ws (n_v vs 0) 2)) (w_fi w1 (n_v vs 0) 5) (w_ei w1 (w_ar ws (n_v vs 0) 110)) (w_ei w1 (w_ar ws (n_v vs 0) 111)) (w_ei w1 (w_ar ws (n_v vs 0) 112)) (w_ei w1 (w_ar ws (n_v vs 0) 95)) (w_ei w2 (w_ar ws (n_v vs 0) 2)) (w_fi w2 (n_v vs 0) 5) (w_ei w2 (w_ar ws (n_v vs 0) 110)) (w_ei w2 (w_ar ws (n_v vs 0) 111)) (w_ei w2 (w_ar ws (n_v vs 0) 112)) (w_ei w2 (w_ar ws (n_v vs 0) 95)) (w_ei w3 (w_ar ws (n_v vs 0) 2)) (w_fi w3 (n_v vs 0) 5) (w_ei w3 (w_ar ws (n_v vs 0) 110)) (w_ei w3 (w_ar ws (n_v vs 0) 111)) (w_ei w3 (w_ar ws (n_v vs 0) 112)) (w_ei w3 (w_ar ws (n_v vs 0) 95)) (w_fi ws (n_v vs 0) 79) (w_fi w1 (n_v vs 0) 79) (w_fi ws (n_v vs 0) 80) (w_fi w1 (n_v vs 0) 80) (w_fi ws (n_v vs 0) 81) (w_fi w2 (n_v vs 0) 79) (w_fi w1 (n_v vs 0) 81) (w_fi w2 (n_v vs 0) 81) (w_fi w2 (n_v vs 0) 80) (w_fi w3 (n_v vs 0) 80) (w_fi w3 (n_v vs 0) 81) (w_ei ws (w_ar ws (n_v vs 0) 83)) (w_ei w1 (w_ar ws (n_v vs 0) 83)) (w_ei w2 (w_ar ws (n_v vs 0) 83)) (w_ei w3 (w_ar ws (n_v vs 0) 83)) (w_ei ws (w_ar ws (n_v vs 0) 84)) (w_ei w1 (w_ar ws (n_v vs 0) 84)) (w_ei w2 (w_ar ws (n_v vs 0) 84)) (w_ei w3 (w_ar ws (n_v vs 0) 84)) (w_ei ws (w_ar ws (n_v vs 0) 85)) (w_ei w1 (w_ar ws (n_v vs 0) 85)) (w_ei w2 (w_ar ws (n_v vs 0) 85)) (w_ei w3 (w_ar ws (n_v vs 0) 85)) (w_ei ws (w_ar ws (n_v vs 0) 86)) (w_ei w1 (w_ar ws (n_v vs 0) 86)) (w_ei w2 (w_ar ws (n_v vs 0) 86)) (w_ei w3 (w_ar ws (n_v vs 0) 86)) (w_ei ws (w_ar ws (n_v vs 0) 87)) (w_ei w1 (w_ar ws (n_v vs 0) 87)) (w_ei w2 (w_ar ws (n_v vs 0) 87)) (w_ei w3 (w_ar ws (n_v vs 0) 87)) (w_ei ws (w_ar ws (n_v vs 0) 88)) (w_ei w1 (w_ar ws (n_v vs 0) 88)) (w_ei w2 (w_ar ws (n_v vs 0) 88)) (w_ei w3 (w_ar ws (n_v vs 0) 88)) (w_ei ws (w_ar ws (n_v vs 0) 89)) (w_ei w1 (w_ar ws (n_v vs 0) 89)) (w_ei w2 (w_ar ws (n_v vs 0) 89)) (w_ei w3 (w_ar ws (n_v vs 0) 89)) k2 k3 k4 k5 f0 f1 f2 f3 f4 f5 f7 f8 f9 f10 f11 f12 f14 f15 f16 f17 f18 f19 f21 f22 f23 f24 f25 f26 fe_0_5_1 fe_0_79_1 fe_0_80_1 fe_0_81_1 fe_0_5_2 fe_0_79_2 fe_0_80_2 fe_0_81_2 fe_0_5_3 fe_0_79_3 fe_0_80_3 fe_0_81_3 hE_0_2_1 hE_0_2_2 hE_0_2_3 hE_0_83_1 hE_0_83_2 hE_0_83_3 hK_0_83 hE_0_84_1 hE_0_84_2 hE_0_84_3 hK_0_84 hE_0_85_1 hE_0_85_2 hE_0_85_3 hK_0_85 hE_0_86_1 hE_0_86_2 hE_0_86_3 hK_0_86 hE_0_87_1 hE_0_87_2 hE_0_87_3 hK_0_87 hE_0_88_1 hE_0_88_2 hE_0_88_3 hK_0_88 hE_0_89_1 hE_0_89_2 hE_0_89_3 hK_0_89 hE_0_95_1 hE_0_95_2 hE_0_95_3 hK_0_95 hE_0_110_1 hE_0_110_2 hE_0_110_3 hK_0_110 hE_0_111_1 hE_0_111_2 hE_0_111_3 hK_0_111 hE_0_112_1 hE_0_112_2 hE_0_112_3 hK_0_112 kz_0_79 kz_0_80 kz_0_81
  have nf1 : fc_1 PRD (20, [0], [60, 3, 9, 358, 5, 80, 81, 2, 95, 83, 84, 85, 86, 87, 88, 89]) ws (vs) := by
    refine ⟨fun n hn => ?_, ?_⟩
    · have hn : n ∈ [0] := hn
      rw [hl]
      simp only [List.mem_cons, List.not_mem_nil, or_false] at hn
      show n < 6; omega
    · show LCP (w_fi ws (n_v vs 0) 5) (w_fi ws (n_v vs 0) 80) (w_fi ws (n_v vs 0) 81) (w_ei ws (w_ar ws (n_v vs 0) 2)) (w_ei ws (w_ar ws (n_v vs 0) 95)) (w_ei ws (w_ar ws (n_v vs 0) 83)) (w_ei ws (w_ar ws (n_v vs 0) 84)) (w_ei ws (w_ar ws (n_v vs 0) 85)) (w_ei ws (w_ar ws (n_v vs 0) 86)) (w_ei ws (w_ar ws (n_v vs 0) 87)) (w_ei ws (w_ar ws (n_v vs 0) 88)) (w_ei ws (w_ar ws (n_v vs 0) 89))
      exact vc_Mo_layers_0_1 (v_iv (n_v vs 2)) (v_iv (n_v vs 3)) (v_iv (n_v vs 4)) (v_iv (n_v vs 5)) (w_ei ws (w_ar ws (n_v vs 0) 2)) (w_fi ws (n_v vs 0) 5) (w_ei ws (w_ar ws (n_v vs 0) 110)) (w_ei ws (w_ar ws (n_v vs 0) 111)) (w_ei ws (w_ar ws (n_v vs 0) 112)) (w_ei ws (w_ar ws (n_v vs 0) 95)) (w_ei w1 (w_ar ws (n_v vs 0) 2)) (w_fi w1 (n_v vs 0) 5) (w_ei w1 (w_ar ws (n_v vs 0) 110)) (w_ei w1 (w_ar ws (n_v vs 0) 111)) (w_ei w1 (w_ar ws (n_v vs 0) 112)) (w_ei w1 (w_ar ws (n_v vs 0) 95)) (w_ei w2 (w_ar ws (n_v vs 0) 2)) (w_fi w2 (n_v vs 0) 5) (w_ei w2 (w_ar ws (n_v vs 0) 110)) (w_ei w2 (w_ar ws (n_v vs 0) 111)) (w_ei w2 (w_ar ws (n_v vs 0) 112)) (w_ei w2 (w_ar ws (n_v vs 0) 95)) (w_ei w3 (w_ar ws (n_v vs 0) 2)) (w_fi w3 (n_v vs 0) 5) (w_ei w3 (w_ar ws (n_v vs 0) 110)) (w_ei w3 (w_ar ws (n_v vs 0) 111)) (w_ei w3 (w_ar ws (n_v vs 0) 112)) (w_ei w3 (w_ar ws (n_v vs 0) 95)) (w_fi ws (n_v vs 0) 79) (w_fi w1 (n_v vs 0) 79) (w_fi ws (n_v vs 0) 80) (w_fi w1 (n_v vs 0) 80) (w_fi ws (n_v vs 0) 81) (w_fi w2 (n_v vs 0) 79) (w_fi w1 (n_v vs 0) 81) (w_fi w2 (n_v vs 0) 81) (w_fi w2 (n_v vs 0) 80) (w_fi w3 (n_v vs 0) 80) (w_fi w3 (n_v vs 0) 81) (w_ei ws (w_ar ws (n_v vs 0) 83)) (w_ei w1 (w_ar ws (n_v vs 0) 83)) (w_ei w2 (w_ar ws (n_v vs 0) 83)) (w_ei w3 (w_ar ws (n_v vs 0) 83)) (w_ei ws (w_ar ws (n_v vs 0) 84)) (w_ei w1 (w_ar ws (n_v vs 0) 84)) (w_ei w2 (w_ar ws (n_v vs 0) 84)) (w_ei w3 (w_ar ws (n_v vs 0) 84)) (w_ei ws (w_ar ws (n_v vs 0) 85)) (w_ei w1 (w_ar ws (n_v vs 0) 85)) (w_ei w2 (w_ar ws (n_v vs 0) 85)) (w_ei w3 (w_ar ws (n_v vs 0) 85)) (w_ei ws (w_ar ws (n_v vs 0) 86)) (w_ei w1 (w_ar ws (n_v vs 0) 86)) (w_ei w2 (w_ar ws (n_v vs 0) 86)) (w_ei w3 (w_ar ws (n_v vs 0) 86)) (w_ei ws (w_ar ws (n_v vs 0) 87)) (w_ei w1 (w_ar ws (n_v vs 0) 87)) (w_ei w2 (w_ar ws (n_v vs 0) 87)) (w_ei w3 (w_ar ws (n_v vs 0) 87)) (w_ei ws (w_ar ws (n_v vs 0) 88)) (w_ei w1 (w_ar ws (n_v vs 0) 88)) (w_ei w2 (w_ar ws (n_v vs 0) 88)) (w_ei w3 (w_ar ws (n_v vs 0) 88)) (w_ei ws (w_ar ws (n_v vs 0) 89)) (w_ei w1 (w_ar ws (n_v vs 0) 89)) (w_ei w2 (w_ar ws (n_v vs 0) 89)) (w_ei w3 (w_ar ws (n_v vs 0) 89)) k2 k3 k4 k5 f0 f1 f2 f3 f4 f5 f7 f8 f9 f10 f11 f12 f14 f15 f16 f17 f18 f19 f21 f22 f23 f24 f25 f26 fe_0_5_1 fe_0_79_1 fe_0_80_1 fe_0_81_1 fe_0_5_2 fe_0_79_2 fe_0_80_2 fe_0_81_2 fe_0_5_3 fe_0_79_3 fe_0_80_3 fe_0_81_3 hE_0_2_1 hE_0_2_2 hE_0_2_3 hE_0_83_1 hE_0_83_2 hE_0_83_3 hK_0_83 hE_0_84_1 hE_0_84_2 hE_0_84_3 hK_0_84 hE_0_85_1 hE_0_85_2 hE_0_85_3 hK_0_85 hE_0_86_1 hE_0_86_2 hE_0_86_3 hK_0_86 hE_0_87_1 hE_0_87_2 hE_0_87_3 hK_0_87 hE_0_88_1 hE_0_88_2 hE_0_88_3 hK_0_88 hE_0_89_1 hE_0_89_2 hE_0_89_3 hK_0_89 hE_0_95_1 hE_0_95_2 hE_0_95_3 hK_0_95 hE_0_110_1 hE_0_110_2 hE_0_110_3 hK_0_110 hE_0_111_1 hE_0_111_2 hE_0_111_3 hK_0_111 hE_0_112_1 hE_0_112_2 hE_0_112_3 hK_0_112 kz_0_79 kz_0_80 kz_0_81
  have nf2 : fc_1 PRD (20, [0], [50, 2, 1, 79, 5, 2, 1, 3, 2, 0, 79, 3, 0, 2, 2, 0, 5]) ws (vs) := by
    refine ⟨fun n hn => ?_, ?_⟩
    · have hn : n ∈ [0] := hn
      rw [hl]
      simp only [List.mem_cons, List.not_mem_nil, or_false] at hn
      show n < 6; omega
    · show w_fi ws (n_v vs 0) 79 = w_ei ws (w_ar ws (n_v vs 0) 2) (w_fi ws (n_v vs 0) 5)
      exact vc_Mo_layers_0_2 (v_iv (n_v vs 2)) (v_iv (n_v vs 3)) (v_iv (n_v vs 4)) (v_iv (n_v vs 5)) (w_ei ws (w_ar ws (n_v vs 0) 2)) (w_fi ws (n_v vs 0) 5) (w_ei ws (w_ar ws (n_v vs 0) 110)) (w_ei ws (w_ar ws (n_v vs 0) 111)) (w_ei ws (w_ar ws (n_v vs 0) 112)) (w_ei ws (w_ar ws (n_v vs 0) 95)) (w_ei w1 (w_ar ws (n_v vs 0) 2)) (w_fi w1 (n_v vs 0) 5) (w_ei w1 (w_ar ws (n_v vs 0) 110)) (w_ei w1 (w_ar ws (n_v vs 0) 111)) (w_ei w1 (w_ar ws (n_v vs 0) 112)) (w_ei w1 (w_ar ws (n_v vs 0) 95)) (w_ei w2 (w_ar ws (n_v vs 0) 2)) (w_fi w2 (n_v vs 0) 5) (w_ei w2 (w_ar ws (n_v vs 0) 110)) (w_ei w2 (w_ar ws (n_v vs 0) 111)) (w_ei w2 (w_ar ws (n_v vs 0) 112)) (w_ei w2 (w_ar ws (n_v vs 0) 95)) (w_ei w3 (w_ar ws (n_v vs 0) 2)) (w_fi w3 (n_v vs 0) 5) (w_ei w3 (w_ar ws (n_v vs 0) 110)) (w_ei w3 (w_ar ws (n_v vs 0) 111)) (w_ei w3 (w_ar ws (n_v vs 0) 112)) (w_ei w3 (w_ar ws (n_v vs 0) 95)) (w_fi ws (n_v vs 0) 79) (w_fi w1 (n_v vs 0) 79) (w_fi ws (n_v vs 0) 80) (w_fi w1 (n_v vs 0) 80) (w_fi ws (n_v vs 0) 81) (w_fi w2 (n_v vs 0) 79) (w_fi w1 (n_v vs 0) 81) (w_fi w2 (n_v vs 0) 81) (w_fi w2 (n_v vs 0) 80) (w_fi w3 (n_v vs 0) 80) (w_fi w3 (n_v vs 0) 81) (w_ei ws (w_ar ws (n_v vs 0) 83)) (w_ei w1 (w_ar ws (n_v vs 0) 83)) (w_ei w2 (w_ar ws (n_v vs 0) 83)) (w_ei w3 (w_ar ws (n_v vs 0) 83)) (w_ei ws (w_ar ws (n_v vs 0) 84)) (w_ei w1 (w_ar ws (n_v vs 0) 84)) (w_ei w2 (w_ar ws (n_v vs 0) 84)) (w_ei w3 (w_ar ws (n_v vs 0) 84)) (w_ei ws (w_ar ws (n_v vs 0) 85)) (w_ei w1 (w_ar ws (n_v vs 0) 85)) (w_ei w2 (w_ar ws (n_v vs 0) 85)) (w_ei w3 (w_ar ws (n_v vs 0) 85)) (w_ei ws (w_ar ws (n_v vs 0) 86)) (w_ei w1 (w_ar ws (n_v vs 0) 86)) (w_ei w2 (w_ar ws (n_v vs 0) 86)) (w_ei w3 (w_ar ws (n_v vs 0) 86)) (w_ei ws (w_ar ws (n_v vs 0) 87)) (w_ei w1 (w_ar ws (n_v vs 0) 87)) (w_ei w2 (w_ar ws (n_v vs 0) 87)) (w_ei w3 (w_ar ws (n_v vs 0) 87)) (w_ei ws (w_ar ws (n_v vs 0) 88)) (w_ei w1 (w_ar ws (n_v vs 0) 88)) (w_ei w2 (w_ar ws (n_v vs 0) 88)) (w_ei w3 (w_ar ws (n_v vs 0) 88)) (w_ei ws (w_ar ws (n_v vs 0) 89)) (w_ei w1 (w_ar ws (n_v vs 0) 89)) (w_ei w2 (w_ar ws (n_v vs 0) 89)) (w_ei w3 (w_ar ws (n_v vs 0) 89)) k2 k3 k4 k5 f0 f1 f2 f3 f4 f5 f7 f8 f9 f10 f11 f12 f14 f15 f16 f17 f18 f19 f21 f22 f23 f24 f25 f26 fe_0_5_1 fe_0_79_1 fe_0_80_1 fe_0_81_1 fe_0_5_2 fe_0_79_2 fe_0_80_2 fe_0_81_2 fe_0_5_3 fe_0_79_3 fe_0_80_3 fe_0_81_3 hE_0_2_1 hE_0_2_2 hE_0_2_3 hE_0_83_1 hE_0_83_2 hE_0_83_3 hK_0_83 hE_0_84_1 hE_0_84_2 hE_0_84_3 hK_0_84 hE_0_85_1 hE_0_85_2 hE_0_85_3 hK_0_85 hE_0_86_1 hE_0_86_2 hE_0_86_3 hK_0_86 hE_0_87_1 hE_0_87_2 hE_0_87_3 hK_0_87 hE_0_88_1 hE_0_88_2 hE_0_88_3 hK_0_88 hE_0_89_1 hE_0_89_2 hE_0_89_3 hK_0_89 hE_0_95_1 hE_0_95_2 hE_0_95_3 hK_0_95 hE_0_110_1 hE_0_110_2 hE_0_110_3 hK_0_110 hE_0_111_1 hE_0_111_2 hE_0_111_3 hK_0_111 hE_0_112_1 hE_0_112_2 hE_0_112_3 hK_0_112 kz_0_79 kz_0_80 kz_0_81
  have nf3 : fc_1 PRD (20, [0, 5], [50, 1, 0, 80, 1, 3, 2, 0, 80, 1, 1]) ws (vs) := by
    refine ⟨fun n hn => ?_, ?_⟩
    · have hn : n ∈ [0, 5] := hn
      rw [hl]
      simp only [List.mem_cons, List.not_mem_nil, or_false] at hn
      show n < 6; omega
    · show w_fi ws (n_v vs 0) 80 = v_iv (n_v vs 5)
      exact vc_Mo_layers_0_3 (v_iv (n_v vs 2)) (v_iv (n_v vs 3)) (v_iv (n_v vs 4)) (v_iv (n_v vs 5)) (w_ei ws (w_ar ws (n_v vs 0) 2)) (w_fi ws (n_v vs 0) 5) (w_ei ws (w_ar ws (n_v vs 0) 110)) (w_ei ws (w_ar ws (n_v vs 0) 111)) (w_ei ws (w_ar ws (n_v vs 0) 112)) (w_ei ws (w_ar ws (n_v vs 0) 95)) (w_ei w1 (w_ar ws (n_v vs 0) 2)) (w_fi w1 (n_v vs 0) 5) (w_ei w1 (w_ar ws (n_v vs 0) 110)) (w_ei w1 (w_ar ws (n_v vs 0) 111)) (w_ei w1 (w_ar ws (n_v vs 0) 112)) (w_ei w1 (w_ar ws (n_v vs 0) 95)) (w_ei w2 (w_ar ws (n_v vs 0) 2)) (w_fi w2 (n_v vs 0) 5) (w_ei w2 (w_ar ws (n_v vs 0) 110)) (w_ei w2 (w_ar ws (n_v vs 0) 111)) (w_ei w2 (w_ar ws (n_v vs 0) 112)) (w_ei w2 (w_ar ws (n_v vs 0) 95)) (w_ei w3 (w_ar ws (n_v vs 0) 2)) (w_fi w3 (n_v vs 0) 5) (w_ei w3 (w_ar ws (n_v vs 0) 110)) (w_ei w3 (w_ar ws (n_v vs 0) 111)) (w_ei w3 (w_ar ws (n_v vs 0) 112)) (w_ei w3 (w_ar ws (n_v vs 0) 95)) (w_fi ws (n_v vs 0) 79) (w_fi w1 (n_v vs 0) 79) (w_fi ws (n_v vs 0) 80) (w_fi w1 (n_v vs 0) 80) (w_fi ws (n_v vs 0) 81) (w_fi w2 (n_v vs 0) 79) (w_fi w1 (n_v vs 0) 81) (w_fi w2 (n_v vs 0) 81) (w_fi w2 (n_v vs 0) 80) (w_fi w3 (n_v vs 0) 80) (w_fi w3 (n_v vs 0) 81) (w_ei ws (w_ar ws (n_v vs 0) 83)) (w_ei w1 (w_ar ws (n_v vs 0) 83)) (w_ei w2 (w_ar ws (n_v vs 0) 83)) (w_ei w3 (w_ar ws (n_v vs 0) 83)) (w_ei ws (w_ar ws (n_v vs 0) 84)) (w_ei w1 (w_ar ws (n_v vs 0) 84)) (w_ei w2 (w_ar ws (n_v vs 0) 84)) (w_ei w3 (w_ar ws (n_v vs 0) 84)) (w_ei ws (w_ar ws (n_v vs 0) 85)) (w_ei w1 (w_ar ws (n_v vs 0) 85)) (w_ei w2 (w_ar ws (n_v vs 0) 85)) (w_ei w3 (w_ar ws (n_v vs 0) 85)) (w_ei ws (w_ar ws (n_v vs 0) 86)) (w_ei w1 (w_ar ws (n_v vs 0) 86)) (w_ei w2 (w_ar ws (n_v vs 0) 86)) (w_ei w3 (w_ar ws (n_v vs 0) 86)) (w_ei ws (w_ar ws (n_v vs 0) 87)) (w_ei w1 (w_ar ws (n_v vs 0) 87)) (w_ei w2 (w_ar ws (n_v vs 0) 87)) (w_ei w3 (w_ar ws (n_v vs 0) 87)) (w_ei ws (w_ar ws (n_v vs 0) 88)) (w_ei w1 (w_ar ws (n_v vs 0) 88)) (w_ei w2 (w_ar ws (n_v vs 0) 88)) (w_ei w3 (w_ar ws (n_v vs 0) 88)) (w_ei ws (w_ar ws (n_v vs 0) 89)) (w_ei w1 (w_ar ws (n_v vs 0) 89)) (w_ei w2 (w_ar ws (n_v vs 0) 89)) (w_ei w3 (w_ar ws (n_v vs 0) 89)) k2 k3 k4 k5 f0 f1 f2 f3 f4 f5 f7 f8 f9 f10 f11 f12 f14 f15 f16 f17 f18 f19 f21 f22 f23 f24 f25 f26 fe_0_5_1 fe_0_79_1 fe_0_80_1 fe_0_81_1 fe_0_5_2 fe_0_79_2 fe_0_80_2 fe_0_81_2 fe_0_5_3 fe_0_79_3 fe_0_80_3 fe_0_81_3 hE_0_2_1 hE_0_2_2 hE_0_2_3 hE_0_83_1 hE_0_83_2 hE_0_83_3 hK_0_83 hE_0_84_1 hE_0_84_2 hE_0_84_3 hK_0_84 hE_0_85_1 hE_0_85_2 hE_0_85_3 hK_0_85 hE_0_86_1 hE_0_86_2 hE_0_86_3 hK_0_86 hE_0_87_1 hE_0_87_2 hE_0_87_3 hK_0_87 hE_0_88_1 hE_0_88_2 hE_0_88_3 hK_0_88 hE_0_89_1 hE_0_89_2 hE_0_89_3 hK_0_89 hE_0_95_1 hE_0_95_2 hE_0_95_3 hK_0_95 hE_0_110_1 hE_0_110_2 hE_0_110_3 hK_0_110 hE_0_111_1 hE_0_111_2 hE_0_111_3 hK_0_111 hE_0_112_1 hE_0_112_2 hE_0_112_3 hK_0_112 kz_0_79 kz_0_80 kz_0_81
  have nf4 : fc_1 PRD (20, [0, 5], [50, 1, 0, 81, 1, 3, 2, 0, 81, 1, 1]) ws (vs) := by
    refine ⟨fun n hn => ?_, ?_⟩
    · have hn : n ∈ [0, 5] := hn
      rw [hl]
      simp only [List.mem_cons, List.not_mem_nil, or_false] at hn
      show n < 6; omega
    · show w_fi ws (n_v vs 0) 81 = v_iv (n_v vs 5)
      exact vc_Mo_layers_0_4 (v_iv (n_v vs 2)) (v_iv (n_v vs 3)) (v_iv (n_v vs 4)) (v_iv (n_v vs 5)) (w_ei ws (w_ar ws (n_v vs 0) 2)) (w_fi ws (n_v vs 0) 5) (w_ei ws (w_ar ws (n_v vs 0) 110)) (w_ei ws (w_ar ws (n_v vs 0) 111)) (w_ei ws (w_ar ws (n_v vs 0) 112)) (w_ei ws (w_ar ws (n_v vs 0) 95)) (w_ei w1 (w_ar ws (n_v vs 0) 2)) (w_fi w1 (n_v vs 0) 5) (w_ei w1 (w_ar ws (n_v vs 0) 110)) (w_ei w1 (w_ar ws (n_v vs 0) 111)) (w_ei w1 (w_ar ws (n_v vs 0) 112)) (w_ei w1 (w_ar ws (n_v vs 0) 95)) (w_ei w2 (w_ar ws (n_v vs 0) 2)) (w_fi w2 (n_v vs 0) 5) (w_ei w2 (w_ar ws (n_v vs 0) 110)) (w_ei w2 (w_ar ws (n_v vs 0) 111)) (w_ei w2 (w_ar ws (n_v vs 0) 112)) (w_ei w2 (w_ar ws (n_v vs 0) 95)) (w_ei w3 (w_ar ws (n_v vs 0) 2)) (w_fi w3 (n_v vs 0) 5) (w_ei w3 (w_ar ws (n_v vs 0) 110)) (w_ei w3 (w_ar ws (n_v vs 0) 111)) (w_ei w3 (w_ar ws (n_v vs 0) 112)) (w_ei w3 (w_ar ws (n_v vs 0) 95)) (w_fi ws (n_v vs 0) 79) (w_fi w1 (n_v vs 0) 79) (w_fi ws (n_v vs 0) 80) (w_fi w1 (n_v vs 0) 80) (w_fi ws (n_v vs 0) 81) (w_fi w2 (n_v vs 0) 79) (w_fi w1 (n_v vs 0) 81) (w_fi w2 (n_v vs 0) 81) (w_fi w2 (n_v vs 0) 80) (w_fi w3 (n_v vs 0) 80) (w_fi w3 (n_v vs 0) 81) (w_ei ws (w_ar ws (n_v vs 0) 83)) (w_ei w1 (w_ar ws (n_v vs 0) 83)) (w_ei w2 (w_ar ws (n_v vs 0) 83)) (w_ei w3 (w_ar ws (n_v vs 0) 83)) (w_ei ws (w_ar ws (n_v vs 0) 84)) (w_ei w1 (w_ar ws (n_v vs 0) 84)) (w_ei w2 (w_ar ws (n_v vs 0) 84)) (w_ei w3 (w_ar ws (n_v vs 0) 84)) (w_ei ws (w_ar ws (n_v vs 0) 85)) (w_ei w1 (w_ar ws (n_v vs 0) 85)) (w_ei w2 (w_ar ws (n_v vs 0) 85)) (w_ei w3 (w_ar ws (n_v vs 0) 85)) (w_ei ws (w_ar ws (n_v vs 0) 86)) (w_ei w1 (w_ar ws (n_v vs 0) 86)) (w_ei w2 (w_ar ws (n_v vs 0) 86)) (w_ei w3 (w_ar ws (n_v vs 0) 86)) (w_ei ws (w_ar ws (n_v vs 0) 87)) (w_ei w1 (w_ar ws (n_v vs 0) 87)) (w_ei w2 (w_ar ws (n_v vs 0) 87)) (w_ei w3 (w_ar ws (n_v vs 0) 87)) (w_ei ws (w_ar ws (n_v vs 0) 88)) (w_ei w1 (w_ar ws (n_v vs 0) 88)) (w_ei w2 (w_ar ws (n_v vs 0) 88)) (w_ei w3 (w_ar ws (n_v vs 0) 88)) (w_ei ws (w_ar ws (n_v vs 0) 89)) (w_ei w1 (w_ar ws (n_v vs 0) 89)) (w_ei w2 (w_ar ws (n_v vs 0) 89)) (w_ei w3 (w_ar ws (n_v vs 0) 89)) k2 k3 k4 k5 f0 f1 f2 f3 f4 f5 f7 f8 f9 f10 f11 f12 f14 f15 f16 f17 f18 f19 f21 f22 f23 f24 f25 f26 fe_0_5_1 fe_0_79_1 fe_0_80_1 fe_0_81_1 fe_0_5_2 fe_0_79_2 fe_0_80_2 fe_0_81_2 fe_0_5_3 fe_0_79_3 fe_0_80_3 fe_0_81_3 hE_0_2_1 hE_0_2_2 hE_0_2_3 hE_0_83_1 hE_0_83_2 hE_0_83_3 hK_0_83 hE_0_84_1 hE_0_84_2 hE_0_84_3 hK_0_84 hE_0_85_1 hE_0_85_2 hE_0_85_3 hK_0_85 hE_0_86_1 hE_0_86_2 hE_0_86_3 hK_0_86 hE_0_87_1 hE_0_87_2 hE_0_87_3 hK_0_87 hE_0_88_1 hE_0_88_2 hE_0_88_3 hK_0_88 hE_0_89_1 hE_0_89_2 hE_0_89_3 hK_0_89 hE_0_95_1 hE_0_95_2 hE_0_95_3 hK_0_95 hE_0_110_1 hE_0_110_2 hE_0_110_3 hK_0_110 hE_0_111_1 hE_0_111_2 hE_0_111_3 hK_0_111 hE_0_112_1 hE_0_112_2 hE_0_112_3 hK_0_112 kz_0_79 kz_0_80 kz_0_81
  refine ⟨(fun _ h => (by cases h)), [], trivial, ?_, (fun _ h => (by cases h))⟩
  rw [List.append_nil]
  exact List.forall_mem_cons.mpr ⟨⟨show (20 : Nat) < 100 from by decide, nf0⟩, List.forall_mem_cons.mpr ⟨⟨show (20 : Nat) < 100 from by decide, nf1⟩, List.forall_mem_cons.mpr ⟨⟨show (20 : Nat) < 100 from by decide, nf2⟩, List.forall_mem_cons.mpr ⟨⟨show (20 : Nat) < 100 from by decide, nf3⟩, List.forall_mem_cons.mpr ⟨⟨show (20 : Nat) < 100 from by decide, nf4⟩, (fun _ h => (by cases h))⟩⟩⟩⟩⟩
set_option maxHeartbeats 4000000 in
theorem vc_Mo_layers_1_0 (x2 : Int) (x3 : Int) (all_0 : Int → Int) (r_0 : Int) (permBegin_0 : Int → Int) (permMany_0 : Int → Int) (perm_0 : Int → Int) (turned_0 : Int → Int) (costA_0 : Int → Int) (costB_0 : Int → Int) (costW_0 : Int → Int) (costPlain_0 : Int → Int) (apartA_0 : Int → Int) (apartB_0 : Int → Int) (apart_0 : Int → Int) (costMany_0 : Int) (apartMany_0 : Int) (pointMany_0 : Int) (k2 : 0 ≤ x2 ∧ x2 ≤ 48) (k3 : 0 ≤ x3 ∧ x3 ≤ 48) (d0 : x3 + 0 ≤ x2 ∧ x2 ≤ x3 + 4294967296) (f0 : x3 ≤ x2) (f1 : 1 * x3 + ((-1) * all_0 (r_0 + 1) + 0) ≤ 0) (f2 : (-1) * x3 + (1 * all_0 (r_0 + 1) + 0) ≤ 0) (f3 : PTB (permBegin_0) (permMany_0) (perm_0)) (f4 : SGR (r_0) (all_0)) (f5 : 1 ≤ all_0 (r_0)) (f6 : x2 ≤ all_0 ((r_0 + 1))) (f7 : TRK (r_0) (all_0) (turned_0)) (f8 : LCP (r_0) (costMany_0) (apartMany_0) (all_0) (turned_0) (costA_0) (costB_0) (costW_0) (costPlain_0) (apartA_0) (apartB_0) (apart_0)) (f9 : pointMany_0 = all_0 (r_0)) (f10 : costMany_0 = x2) (f11 : apartMany_0 = x2) (hK_0_83 : ∀ j : Int, 0 ≤ j → j < 200 → 0 ≤ costA_0 j ∧ costA_0 j ≤ 75) (hK_0_84 : ∀ j : Int, 0 ≤ j → j < 200 → 0 ≤ costB_0 j ∧ costB_0 j ≤ 75) (hK_0_85 : ∀ j : Int, 0 ≤ j → j < 200 → 0 ≤ costW_0 j ∧ costW_0 j ≤ 72) (hK_0_86 : ∀ j : Int, 0 ≤ j → j < 200 → 0 ≤ costPlain_0 j ∧ costPlain_0 j ≤ 1) (hK_0_87 : ∀ j : Int, 0 ≤ j → j < 200 → 0 ≤ apartA_0 j ∧ apartA_0 j ≤ 75) (hK_0_88 : ∀ j : Int, 0 ≤ j → j < 200 → 0 ≤ apartB_0 j ∧ apartB_0 j ≤ 75) (hK_0_89 : ∀ j : Int, 0 ≤ j → j < 200 → 0 ≤ apart_0 j ∧ apart_0 j ≤ 202) (hK_0_95 : ∀ j : Int, 0 ≤ j → j < 48 → 0 ≤ turned_0 j ∧ turned_0 j ≤ 1) (hK_0_110 : ∀ j : Int, 0 ≤ j → j < 8 → 0 ≤ permBegin_0 j ∧ permBegin_0 j ≤ 5500) (hK_0_111 : ∀ j : Int, 0 ≤ j → j < 8 → 0 ≤ permMany_0 j ∧ permMany_0 j ≤ 720) (hK_0_112 : ∀ j : Int, 0 ≤ j → j < 6000 → 0 ≤ perm_0 j ∧ perm_0 j ≤ 5) (kz_0_79 : 0 ≤ pointMany_0 ∧ pointMany_0 ≤ 76) (kz_0_80 : 0 ≤ costMany_0 ∧ costMany_0 ≤ 200) (kz_0_81 : 0 ≤ apartMany_0 ∧ apartMany_0 ≤ 200) : PBR (pointMany_0) (costMany_0) (apartMany_0) (costA_0) (costB_0) (costW_0) (costPlain_0) (apartA_0) (apartB_0) (apart_0) := by
  try simp only [Int.add_zero] at *
  exact lcp_pbr ‹LCP _ _ _ _ _ _ _ _ _ _ _ _› ‹TRK _ _ _› (by omega) (by omega) (by omega)
def o_Mo_layers_1 : or_T := (74, 4, [(0, (2, 0, 0, [150])), (2, (0, 0, 48, [])), (3, (0, 0, 48, []))], [(7, [2, 3], [3]), (20, [3, 0], [30, 0, 1, 0, 0, -1, 3, 2005001]), (20, [3, 0], [30, 0, -1, 0, 0, 1, 3, 2005001]), (20, [0], [60, 0, 3, 291, 110, 111, 112]), (20, [0], [60, 1, 1, 122, 5, 2]), (20, [0], [50, 1, 1, 5, 2, 0, 2, 0, 1, 3, 0, 2, 2, 0, 5]), (20, [2, 0], [50, 1, 1, 1005, 1002, 0, 2, 1, 0, 3, 1, 2, 4, 3, 2, 1, 5, 0, 1]), (20, [0], [60, 1, 2, 290, 5, 2, 95]), (20, [0], [60, 3, 9, 358, 5, 80, 81, 2, 95, 83, 84, 85, 86, 87, 88, 89]), (20, [0], [50, 2, 1, 79, 5, 2, 1, 3, 2, 0, 79, 3, 0, 2, 2, 0, 5]), (20, [0, 2], [50, 1, 0, 80, 1, 3, 2, 0, 80, 1, 1]), (20, [0, 2], [50, 1, 0, 81, 1, 3, 2, 0, 81, 1, 1])], [], [], [(20, [0], [60, 3, 7, 320, 79, 80, 81, 83, 84, 85, 86, 87, 88, 89])], [], [(2, 3, 0, 4294967296)])
theorem oo_Mo_layers_1 {kA : Nat → ClassId} : or_ok PRD kA GG o_Mo_layers_1 := by
  intro A ta ws vs hD hth hl hk hds hf
  have hl : vs.length = 4 := hl
  have hk : ∀ q ∈ ([(0, (2, 0, 0, [150])), (2, (0, 0, 48, [])), (3, (0, 0, 48, []))] : List (Nat × tv_T)), tv_ok ta q.2 (n_v vs q.1) := hk
  obtain ⟨t0, hk⟩ := List.forall_mem_cons.mp hk
  have t0 : tv_ok ta (2, 0, 0, [150]) (n_v vs 0) := t0
  have r0 : ta (v_ad (n_v vs 0)) = some 150 := tv_rg t0
  obtain ⟨t2, hk⟩ := List.forall_mem_cons.mp hk
  have t2 : tv_ok ta (0, 0, 48, []) (n_v vs 2) := t2
  have k2 : 0 ≤ v_iv (n_v vs 2) ∧ v_iv (n_v vs 2) ≤ 48 := tv_rng t2
  obtain ⟨t3, hk⟩ := List.forall_mem_cons.mp hk
  have t3 : tv_ok ta (0, 0, 48, []) (n_v vs 3) := t3
  have k3 : 0 ≤ v_iv (n_v vs 3) ∧ v_iv (n_v vs 3) ≤ 48 := tv_rng t3
  have hds : ∀ q ∈ ([(2, 3, 0, 4294967296)] : List of_T), n_iv vs q.2.1 + q.2.2.1 ≤ n_iv vs q.1 ∧ n_iv vs q.1 ≤ n_iv vs q.2.1 + q.2.2.2 := hds
  obtain ⟨d0, hds⟩ := List.forall_mem_cons.mp hds
  have d0 : v_iv (n_v vs 3) + 0 ≤ v_iv (n_v vs 2) ∧ v_iv (n_v vs 2) ≤ v_iv (n_v vs 3) + 4294967296 := d0
  have hf : fc_ok PRD [(7, [2, 3], [3]), (20, [3, 0], [30, 0, 1, 0, 0, -1, 3, 2005001]), (20, [3, 0], [30, 0, -1, 0, 0, 1, 3, 2005001]), (20, [0], [60, 0, 3, 291, 110, 111, 112]), (20, [0], [60, 1, 1, 122, 5, 2]), (20, [0], [50, 1, 1, 5, 2, 0, 2, 0, 1, 3, 0, 2, 2, 0, 5]), (20, [2, 0], [50, 1, 1, 1005, 1002, 0, 2, 1, 0, 3, 1, 2, 4, 3, 2, 1, 5, 0, 1]), (20, [0], [60, 1, 2, 290, 5, 2, 95]), (20, [0], [60, 3, 9, 358, 5, 80, 81, 2, 95, 83, 84, 85, 86, 87, 88, 89]), (20, [0], [50, 2, 1, 79, 5, 2, 1, 3, 2, 0, 79, 3, 0, 2, 2, 0, 5]), (20, [0, 2], [50, 1, 0, 80, 1, 3, 2, 0, 80, 1, 1]), (20, [0, 2], [50, 1, 0, 81, 1, 3, 2, 0, 81, 1, 1])] ta ws vs := hf
  obtain ⟨f0, hf⟩ := fc_un (show (7 : Nat) < 100 from by decide) hf
  have f0 : v_iv (n_v vs 3) ≤ v_iv (n_v vs 2) := f0
  obtain ⟨f1, hf⟩ := fc_un (show (20 : Nat) < 100 from by decide) hf
  have f1 : 1 * v_iv (n_v vs 3) + ((-1) * w_el ws (w_ar ws (n_v vs 0) 2) (w_fi ws (n_v vs 0) 5 + 1).toNat + 0) ≤ 0 := f1
  obtain ⟨f2, hf⟩ := fc_un (show (20 : Nat) < 100 from by decide) hf
  have f2 : (-1) * v_iv (n_v vs 3) + (1 * w_el ws (w_ar ws (n_v vs 0) 2) (w_fi ws (n_v vs 0) 5 + 1).toNat + 0) ≤ 0 := f2
  obtain ⟨f3, hf⟩ := fc_un (show (20 : Nat) < 100 from by decide) hf
  have f3 : PTB (w_ei ws (w_ar ws (n_v vs 0) 110)) (w_ei ws (w_ar ws (n_v vs 0) 111)) (w_ei ws (w_ar ws (n_v vs 0) 112)) := f3
  obtain ⟨f4, hf⟩ := fc_un (show (20 : Nat) < 100 from by decide) hf
  have f4 : SGR (w_fi ws (n_v vs 0) 5) (w_ei ws (w_ar ws (n_v vs 0) 2)) := f4
  obtain ⟨f5, hf⟩ := fc_un (show (20 : Nat) < 100 from by decide) hf
  have f5 : 1 ≤ w_ei ws (w_ar ws (n_v vs 0) 2) (w_fi ws (n_v vs 0) 5) := f5
  obtain ⟨f6, hf⟩ := fc_un (show (20 : Nat) < 100 from by decide) hf
  have f6 : v_iv (n_v vs 2) ≤ w_ei ws (w_ar ws (n_v vs 0) 2) ((w_fi ws (n_v vs 0) 5 + 1)) := f6
  obtain ⟨f7, hf⟩ := fc_un (show (20 : Nat) < 100 from by decide) hf
  have f7 : TRK (w_fi ws (n_v vs 0) 5) (w_ei ws (w_ar ws (n_v vs 0) 2)) (w_ei ws (w_ar ws (n_v vs 0) 95)) := f7
  obtain ⟨f8, hf⟩ := fc_un (show (20 : Nat) < 100 from by decide) hf
  have f8 : LCP (w_fi ws (n_v vs 0) 5) (w_fi ws (n_v vs 0) 80) (w_fi ws (n_v vs 0) 81) (w_ei ws (w_ar ws (n_v vs 0) 2)) (w_ei ws (w_ar ws (n_v vs 0) 95)) (w_ei ws (w_ar ws (n_v vs 0) 83)) (w_ei ws (w_ar ws (n_v vs 0) 84)) (w_ei ws (w_ar ws (n_v vs 0) 85)) (w_ei ws (w_ar ws (n_v vs 0) 86)) (w_ei ws (w_ar ws (n_v vs 0) 87)) (w_ei ws (w_ar ws (n_v vs 0) 88)) (w_ei ws (w_ar ws (n_v vs 0) 89)) := f8
  obtain ⟨f9, hf⟩ := fc_un (show (20 : Nat) < 100 from by decide) hf
  have f9 : w_fi ws (n_v vs 0) 79 = w_ei ws (w_ar ws (n_v vs 0) 2) (w_fi ws (n_v vs 0) 5) := f9
  obtain ⟨f10, hf⟩ := fc_un (show (20 : Nat) < 100 from by decide) hf
  have f10 : w_fi ws (n_v vs 0) 80 = v_iv (n_v vs 2) := f10
  obtain ⟨f11, hf⟩ := fc_un (show (20 : Nat) < 100 from by decide) hf
  have f11 : w_fi ws (n_v vs 0) 81 = v_iv (n_v vs 2) := f11
  have cr_0_2 : ta (w_ar ws (n_v vs 0) 2) = some 152 := tv_rg (th_fd hD hth r0 (g := GG_150) rfl (k := 2) (t := (2, 0, 0, [152])) rfl rfl)
  have cr_0_83 : ta (w_ar ws (n_v vs 0) 83) = some 205 := tv_rg (th_fd hD hth r0 (g := GG_150) rfl (k := 83) (t := (2, 0, 0, [205])) rfl rfl)
  have cr_0_84 : ta (w_ar ws (n_v vs 0) 84) = some 206 := tv_rg (th_fd hD hth r0 (g := GG_150) rfl (k := 84) (t := (2, 0, 0, [206])) rfl rfl)
  have cr_0_85 : ta (w_ar ws (n_v vs 0) 85) = some 207 := tv_rg (th_fd hD hth r0 (g := GG_150) rfl (k := 85) (t := (2, 0, 0, [207])) rfl rfl)
  have cr_0_86 : ta (w_ar ws (n_v vs 0) 86) = some 208 := tv_rg (th_fd hD hth r0 (g := GG_150) rfl (k := 86) (t := (2, 0, 0, [208])) rfl rfl)
  have cr_0_87 : ta (w_ar ws (n_v vs 0) 87) = some 209 := tv_rg (th_fd hD hth r0 (g := GG_150) rfl (k := 87) (t := (2, 0, 0, [209])) rfl rfl)
  have cr_0_88 : ta (w_ar ws (n_v vs 0) 88) = some 210 := tv_rg (th_fd hD hth r0 (g := GG_150) rfl (k := 88) (t := (2, 0, 0, [210])) rfl rfl)
  have cr_0_89 : ta (w_ar ws (n_v vs 0) 89) = some 211 := tv_rg (th_fd hD hth r0 (g := GG_150) rfl (k := 89) (t := (2, 0, 0, [211])) rfl rfl)
  have cr_0_95 : ta (w_ar ws (n_v vs 0) 95) = some 216 := tv_rg (th_fd hD hth r0 (g := GG_150) rfl (k := 95) (t := (2, 0, 0, [216])) rfl rfl)
  have cr_0_110 : ta (w_ar ws (n_v vs 0) 110) = some 227 := tv_rg (th_fd hD hth r0 (g := GG_150) rfl (k := 110) (t := (2, 0, 0, [227])) rfl rfl)
  have cr_0_111 : ta (w_ar ws (n_v vs 0) 111) = some 228 := tv_rg (th_fd hD hth r0 (g := GG_150) rfl (k := 111) (t := (2, 0, 0, [228])) rfl rfl)
  have cr_0_112 : ta (w_ar ws (n_v vs 0) 112) = some 229 := tv_rg (th_fd hD hth r0 (g := GG_150) rfl (k := 112) (t := (2, 0, 0, [229])) rfl rfl)
  have hK_0_83 : ∀ j : Int, 0 ≤ j → j < 200 → 0 ≤ w_ei ws (w_ar ws (n_v vs 0) 83) j ∧ w_ei ws (w_ar ws (n_v vs 0) 83) j ≤ 75 := fun j h0 h1 => th_el hD hth cr_0_83 (kd := 0) (n := 200) (m := 200) (lo := 0) (hi := 75) (rs := []) (L := []) rfl (by decide) (j := j.toNat) (by omega)
  have hK_0_84 : ∀ j : Int, 0 ≤ j → j < 200 → 0 ≤ w_ei ws (w_ar ws (n_v vs 0) 84) j ∧ w_ei ws (w_ar ws (n_v vs 0) 84) j ≤ 75 := fun j h0 h1 => th_el hD hth cr_0_84 (kd := 0) (n := 200) (m := 200) (lo := 0) (hi := 75) (rs := []) (L := []) rfl (by decide) (j := j.toNat) (by omega)
  have hK_0_85 : ∀ j : Int, 0 ≤ j → j < 200 → 0 ≤ w_ei ws (w_ar ws (n_v vs 0) 85) j ∧ w_ei ws (w_ar ws (n_v vs 0) 85) j ≤ 72 := fun j h0 h1 => th_el hD hth cr_0_85 (kd := 0) (n := 200) (m := 200) (lo := 0) (hi := 72) (rs := []) (L := []) rfl (by decide) (j := j.toNat) (by omega)
  have hK_0_86 : ∀ j : Int, 0 ≤ j → j < 200 → 0 ≤ w_ei ws (w_ar ws (n_v vs 0) 86) j ∧ w_ei ws (w_ar ws (n_v vs 0) 86) j ≤ 1 := fun j h0 h1 => th_el hD hth cr_0_86 (kd := 2) (n := 200) (m := 200) (lo := 0) (hi := 1) (rs := []) (L := []) rfl (by decide) (j := j.toNat) (by omega)
  have hK_0_87 : ∀ j : Int, 0 ≤ j → j < 200 → 0 ≤ w_ei ws (w_ar ws (n_v vs 0) 87) j ∧ w_ei ws (w_ar ws (n_v vs 0) 87) j ≤ 75 := fun j h0 h1 => th_el hD hth cr_0_87 (kd := 0) (n := 200) (m := 200) (lo := 0) (hi := 75) (rs := []) (L := []) rfl (by decide) (j := j.toNat) (by omega)
  have hK_0_88 : ∀ j : Int, 0 ≤ j → j < 200 → 0 ≤ w_ei ws (w_ar ws (n_v vs 0) 88) j ∧ w_ei ws (w_ar ws (n_v vs 0) 88) j ≤ 75 := fun j h0 h1 => th_el hD hth cr_0_88 (kd := 0) (n := 200) (m := 200) (lo := 0) (hi := 75) (rs := []) (L := []) rfl (by decide) (j := j.toNat) (by omega)
  have hK_0_89 : ∀ j : Int, 0 ≤ j → j < 200 → 0 ≤ w_ei ws (w_ar ws (n_v vs 0) 89) j ∧ w_ei ws (w_ar ws (n_v vs 0) 89) j ≤ 202 := fun j h0 h1 => th_el hD hth cr_0_89 (kd := 0) (n := 200) (m := 200) (lo := 0) (hi := 202) (rs := []) (L := []) rfl (by decide) (j := j.toNat) (by omega)
  have hK_0_95 : ∀ j : Int, 0 ≤ j → j < 48 → 0 ≤ w_ei ws (w_ar ws (n_v vs 0) 95) j ∧ w_ei ws (w_ar ws (n_v vs 0) 95) j ≤ 1 := fun j h0 h1 => th_el hD hth cr_0_95 (kd := 2) (n := 48) (m := 48) (lo := 0) (hi := 1) (rs := []) (L := []) rfl (by decide) (j := j.toNat) (by omega)
  have hK_0_110 : ∀ j : Int, 0 ≤ j → j < 8 → 0 ≤ w_ei ws (w_ar ws (n_v vs 0) 110) j ∧ w_ei ws (w_ar ws (n_v vs 0) 110) j ≤ 5500 := fun j h0 h1 => th_el hD hth cr_0_110 (kd := 0) (n := 8) (m := 8) (lo := 0) (hi := 5500) (rs := []) (L := []) rfl (by decide) (j := j.toNat) (by omega)
  have hK_0_111 : ∀ j : Int, 0 ≤ j → j < 8 → 0 ≤ w_ei ws (w_ar ws (n_v vs 0) 111) j ∧ w_ei ws (w_ar ws (n_v vs 0) 111) j ≤ 720 := fun j h0 h1 => th_el hD hth cr_0_111 (kd := 0) (n := 8) (m := 8) (lo := 0) (hi := 720) (rs := []) (L := []) rfl (by decide) (j := j.toNat) (by omega)
  have hK_0_112 : ∀ j : Int, 0 ≤ j → j < 6000 → 0 ≤ w_ei ws (w_ar ws (n_v vs 0) 112) j ∧ w_ei ws (w_ar ws (n_v vs 0) 112) j ≤ 5 := fun j h0 h1 => th_el hD hth cr_0_112 (kd := 1) (n := 6000) (m := 6000) (lo := 0) (hi := 5) (rs := []) (L := []) rfl (by decide) (j := j.toNat) (by omega)
  have kz_0_79 : 0 ≤ w_fi ws (n_v vs 0) 79 ∧ w_fi ws (n_v vs 0) 79 ≤ 76 := tv_rng (th_fd hD hth r0 (g := GG_150) rfl (k := 79) (t := (0, 0, 76, [])) rfl rfl)
  have kz_0_80 : 0 ≤ w_fi ws (n_v vs 0) 80 ∧ w_fi ws (n_v vs 0) 80 ≤ 200 := tv_rng (th_fd hD hth r0 (g := GG_150) rfl (k := 80) (t := (0, 0, 200, [])) rfl rfl)
  have kz_0_81 : 0 ≤ w_fi ws (n_v vs 0) 81 ∧ w_fi ws (n_v vs 0) 81 ≤ 200 := tv_rng (th_fd hD hth r0 (g := GG_150) rfl (k := 81) (t := (0, 0, 200, [])) rfl rfl)
  have nf0 : fc_1 PRD (20, [0], [60, 3, 7, 320, 79, 80, 81, 83, 84, 85, 86, 87, 88, 89]) ws (vs) := by
    refine ⟨fun n hn => ?_, ?_⟩
    · have hn : n ∈ [0] := hn
      rw [hl]
      simp only [List.mem_cons, List.not_mem_nil, or_false] at hn
      show n < 4; omega
    · show PBR (w_fi ws (n_v vs 0) 79) (w_fi ws (n_v vs 0) 80) (w_fi ws (n_v vs 0) 81) (w_ei ws (w_ar ws (n_v vs 0) 83)) (w_ei ws (w_ar ws (n_v vs 0) 84)) (w_ei ws (w_ar ws (n_v vs 0) 85)) (w_ei ws (w_ar ws (n_v vs 0) 86)) (w_ei ws (w_ar ws (n_v vs 0) 87)) (w_ei ws (w_ar ws (n_v vs 0) 88)) (w_ei ws (w_ar ws (n_v vs 0) 89))
      exact vc_Mo_layers_1_0 (v_iv (n_v vs 2)) (v_iv (n_v vs 3)) (w_ei ws (w_ar ws (n_v vs 0) 2)) (w_fi ws (n_v vs 0) 5) (w_ei ws (w_ar ws (n_v vs 0) 110)) (w_ei ws (w_ar ws (n_v vs 0) 111)) (w_ei ws (w_ar ws (n_v vs 0) 112)) (w_ei ws (w_ar ws (n_v vs 0) 95)) (w_ei ws (w_ar ws (n_v vs 0) 83)) (w_ei ws (w_ar ws (n_v vs 0) 84)) (w_ei ws (w_ar ws (n_v vs 0) 85)) (w_ei ws (w_ar ws (n_v vs 0) 86)) (w_ei ws (w_ar ws (n_v vs 0) 87)) (w_ei ws (w_ar ws (n_v vs 0) 88)) (w_ei ws (w_ar ws (n_v vs 0) 89)) (w_fi ws (n_v vs 0) 80) (w_fi ws (n_v vs 0) 81) (w_fi ws (n_v vs 0) 79) k2 k3 d0 f0 f1 f2 f3 f4 f5 f6 f7 f8 f9 f10 f11 hK_0_83 hK_0_84 hK_0_85 hK_0_86 hK_0_87 hK_0_88 hK_0_89 hK_0_95 hK_0_110 hK_0_111 hK_0_112 kz_0_79 kz_0_80 kz_0_81
  refine ⟨(fun _ h => (by cases h)), [], trivial, ?_, (fun _ h => (by cases h))⟩
  rw [List.append_nil]
  exact List.forall_mem_cons.mpr ⟨⟨show (20 : Nat) < 100 from by decide, nf0⟩, (fun _ h => (by cases h))⟩
set_option maxHeartbeats 4000000 in
theorem vc_Mo_layers_2_0 (x2 : Int) (x3 : Int) (x4 : Int) (x7 : Int) (all_0 : Int → Int) (r_0 : Int) (costA_0 : Int → Int) (costB_0 : Int → Int) (costW_0 : Int → Int) (costPlain_0 : Int → Int) (apartA_0 : Int → Int) (apartB_0 : Int → Int) (apart_0 : Int → Int) (pointMany_0 : Int) (costMany_0 : Int) (apartMany_0 : Int) (permBegin_0 : Int → Int) (permMany_0 : Int → Int) (perm_0 : Int → Int) (turned_0 : Int → Int) (spot_0 : Int → Int) (itemLayer_0 : Int → Int) (k2 : 0 ≤ x2 ∧ x2 ≤ 48) (k3 : 0 ≤ x3 ∧ x3 ≤ 48) (k4 : 0 ≤ x4 ∧ x4 ≤ 24) (k7 : 0 ≤ x7 ∧ x7 ≤ 0) (d0 : x3 + 0 ≤ x2 ∧ x2 ≤ x3 + 4294967296) (f0 : 1 * x4 + ((-1) * all_0 (r_0 + 0) + 0) ≤ 0) (f1 : (-1) * x4 + (1 * all_0 (r_0 + 0) + 0) ≤ 0) (f2 : PBR (pointMany_0) (costMany_0) (apartMany_0) (costA_0) (costB_0) (costW_0) (costPlain_0) (apartA_0) (apartB_0) (apart_0)) (f3 : 1 * x3 + ((-1) * all_0 (r_0 + 1) + 0) ≤ 0) (f4 : (-1) * x3 + (1 * all_0 (r_0 + 1) + 0) ≤ 0) (f5 : PTB (permBegin_0) (permMany_0) (perm_0)) (f6 : SGR (r_0) (all_0)) (f7 : 1 ≤ all_0 (r_0)) (f8 : x2 ≤ all_0 ((r_0 + 1))) (f9 : TRK (r_0) (all_0) (turned_0)) (f10 : LCP (r_0) (costMany_0) (apartMany_0) (all_0) (turned_0) (costA_0) (costB_0) (costW_0) (costPlain_0) (apartA_0) (apartB_0) (apart_0)) (f11 : pointMany_0 = all_0 (r_0)) (f12 : costMany_0 = x2) (f13 : apartMany_0 = x2) (f14 : RIP (pointMany_0) (costMany_0) (apartMany_0) (spot_0) (costA_0) (costB_0) (costW_0) (costPlain_0) (apartA_0) (apartB_0) (apart_0)) (f16 : x3 ≤ x2) (hK_0_82 : ∀ j : Int, 0 ≤ j → j < 76 → 0 ≤ spot_0 j ∧ spot_0 j ≤ 221100000) (hK_0_83 : ∀ j : Int, 0 ≤ j → j < 200 → 0 ≤ costA_0 j ∧ costA_0 j ≤ 75) (hK_0_84 : ∀ j : Int, 0 ≤ j → j < 200 → 0 ≤ costB_0 j ∧ costB_0 j ≤ 75) (hK_0_85 : ∀ j : Int, 0 ≤ j → j < 200 → 0 ≤ costW_0 j ∧ costW_0 j ≤ 72) (hK_0_86 : ∀ j : Int, 0 ≤ j → j < 200 → 0 ≤ costPlain_0 j ∧ costPlain_0 j ≤ 1) (hK_0_87 : ∀ j : Int, 0 ≤ j → j < 200 → 0 ≤ apartA_0 j ∧ apartA_0 j ≤ 75) (hK_0_88 : ∀ j : Int, 0 ≤ j → j < 200 → 0 ≤ apartB_0 j ∧ apartB_0 j ≤ 75) (hK_0_89 : ∀ j : Int, 0 ≤ j → j < 200 → 0 ≤ apart_0 j ∧ apart_0 j ≤ 202) (hK_0_95 : ∀ j : Int, 0 ≤ j → j < 48 → 0 ≤ turned_0 j ∧ turned_0 j ≤ 1) (hK_0_102 : ∀ j : Int, 0 ≤ j → j < 76 → 0 ≤ itemLayer_0 j ∧ itemLayer_0 j ≤ 75) (hK_0_110 : ∀ j : Int, 0 ≤ j → j < 8 → 0 ≤ permBegin_0 j ∧ permBegin_0 j ≤ 5500) (hK_0_111 : ∀ j : Int, 0 ≤ j → j < 8 → 0 ≤ permMany_0 j ∧ permMany_0 j ≤ 720) (hK_0_112 : ∀ j : Int, 0 ≤ j → j < 6000 → 0 ≤ perm_0 j ∧ perm_0 j ≤ 5) (kz_0_79 : 0 ≤ pointMany_0 ∧ pointMany_0 ≤ 76) (kz_0_80 : 0 ≤ costMany_0 ∧ costMany_0 ≤ 200) (kz_0_81 : 0 ≤ apartMany_0 ∧ apartMany_0 ≤ 200) : LYP (r_0) (all_0) (turned_0) (spot_0) := by
  try simp only [Int.add_zero] at *
  first
    | assumption
    | exact lyp_of ‹LCP _ _ _ _ _ _ _ _ _ _ _ _› ‹RIP _ _ _ _ _ _ _ _ _ _ _› ‹SGR _ _› (by omega) (by omega) (by omega)
set_option maxHeartbeats 4000000 in
theorem vc_Mo_layers_2_1 (x2 : Int) (x3 : Int) (x4 : Int) (x7 : Int) (all_0 : Int → Int) (r_0 : Int) (costA_0 : Int → Int) (costB_0 : Int → Int) (costW_0 : Int → Int) (costPlain_0 : Int → Int) (apartA_0 : Int → Int) (apartB_0 : Int → Int) (apart_0 : Int → Int) (pointMany_0 : Int) (costMany_0 : Int) (apartMany_0 : Int) (permBegin_0 : Int → Int) (permMany_0 : Int → Int) (perm_0 : Int → Int) (turned_0 : Int → Int) (spot_0 : Int → Int) (itemLayer_0 : Int → Int) (k2 : 0 ≤ x2 ∧ x2 ≤ 48) (k3 : 0 ≤ x3 ∧ x3 ≤ 48) (k4 : 0 ≤ x4 ∧ x4 ≤ 24) (k7 : 0 ≤ x7 ∧ x7 ≤ 0) (d0 : x3 + 0 ≤ x2 ∧ x2 ≤ x3 + 4294967296) (f0 : 1 * x4 + ((-1) * all_0 (r_0 + 0) + 0) ≤ 0) (f1 : (-1) * x4 + (1 * all_0 (r_0 + 0) + 0) ≤ 0) (f2 : PBR (pointMany_0) (costMany_0) (apartMany_0) (costA_0) (costB_0) (costW_0) (costPlain_0) (apartA_0) (apartB_0) (apart_0)) (f3 : 1 * x3 + ((-1) * all_0 (r_0 + 1) + 0) ≤ 0) (f4 : (-1) * x3 + (1 * all_0 (r_0 + 1) + 0) ≤ 0) (f5 : PTB (permBegin_0) (permMany_0) (perm_0)) (f6 : SGR (r_0) (all_0)) (f7 : 1 ≤ all_0 (r_0)) (f8 : x2 ≤ all_0 ((r_0 + 1))) (f9 : TRK (r_0) (all_0) (turned_0)) (f10 : LCP (r_0) (costMany_0) (apartMany_0) (all_0) (turned_0) (costA_0) (costB_0) (costW_0) (costPlain_0) (apartA_0) (apartB_0) (apart_0)) (f11 : pointMany_0 = all_0 (r_0)) (f12 : costMany_0 = x2) (f13 : apartMany_0 = x2) (f14 : RIP (pointMany_0) (costMany_0) (apartMany_0) (spot_0) (costA_0) (costB_0) (costW_0) (costPlain_0) (apartA_0) (apartB_0) (apart_0)) (f16 : x3 ≤ x2) (hK_0_82 : ∀ j : Int, 0 ≤ j → j < 76 → 0 ≤ spot_0 j ∧ spot_0 j ≤ 221100000) (hK_0_83 : ∀ j : Int, 0 ≤ j → j < 200 → 0 ≤ costA_0 j ∧ costA_0 j ≤ 75) (hK_0_84 : ∀ j : Int, 0 ≤ j → j < 200 → 0 ≤ costB_0 j ∧ costB_0 j ≤ 75) (hK_0_85 : ∀ j : Int, 0 ≤ j → j < 200 → 0 ≤ costW_0 j ∧ costW_0 j ≤ 72) (hK_0_86 : ∀ j : Int, 0 ≤ j → j < 200 → 0 ≤ costPlain_0 j ∧ costPlain_0 j ≤ 1) (hK_0_87 : ∀ j : Int, 0 ≤ j → j < 200 → 0 ≤ apartA_0 j ∧ apartA_0 j ≤ 75) (hK_0_88 : ∀ j : Int, 0 ≤ j → j < 200 → 0 ≤ apartB_0 j ∧ apartB_0 j ≤ 75) (hK_0_89 : ∀ j : Int, 0 ≤ j → j < 200 → 0 ≤ apart_0 j ∧ apart_0 j ≤ 202) (hK_0_95 : ∀ j : Int, 0 ≤ j → j < 48 → 0 ≤ turned_0 j ∧ turned_0 j ≤ 1) (hK_0_102 : ∀ j : Int, 0 ≤ j → j < 76 → 0 ≤ itemLayer_0 j ∧ itemLayer_0 j ≤ 75) (hK_0_110 : ∀ j : Int, 0 ≤ j → j < 8 → 0 ≤ permBegin_0 j ∧ permBegin_0 j ≤ 5500) (hK_0_111 : ∀ j : Int, 0 ≤ j → j < 8 → 0 ≤ permMany_0 j ∧ permMany_0 j ≤ 720) (hK_0_112 : ∀ j : Int, 0 ≤ j → j < 6000 → 0 ≤ perm_0 j ∧ perm_0 j ≤ 5) (kz_0_79 : 0 ≤ pointMany_0 ∧ pointMany_0 ≤ 76) (kz_0_80 : 0 ≤ costMany_0 ∧ costMany_0 ≤ 200) (kz_0_81 : 0 ≤ apartMany_0 ∧ apartMany_0 ≤ 200) : ILE (itemLayer_0) (spot_0) (x7) := by
  first
    | (intro j a b; exfalso; omega)
    | exact ile_step ‹ILE _ _ _› (by assumption) (by assumption) rfl (by assumption)
set_option maxHeartbeats 4000000 in
theorem vc_Mo_layers_2_2 (x2 : Int) (x3 : Int) (x4 : Int) (x7 : Int) (all_0 : Int → Int) (r_0 : Int) (costA_0 : Int → Int) (costB_0 : Int → Int) (costW_0 : Int → Int) (costPlain_0 : Int → Int) (apartA_0 : Int → Int) (apartB_0 : Int → Int) (apart_0 : Int → Int) (pointMany_0 : Int) (costMany_0 : Int) (apartMany_0 : Int) (permBegin_0 : Int → Int) (permMany_0 : Int → Int) (perm_0 : Int → Int) (turned_0 : Int → Int) (spot_0 : Int → Int) (itemLayer_0 : Int → Int) (k2 : 0 ≤ x2 ∧ x2 ≤ 48) (k3 : 0 ≤ x3 ∧ x3 ≤ 48) (k4 : 0 ≤ x4 ∧ x4 ≤ 24) (k7 : 0 ≤ x7 ∧ x7 ≤ 0) (d0 : x3 + 0 ≤ x2 ∧ x2 ≤ x3 + 4294967296) (f0 : 1 * x4 + ((-1) * all_0 (r_0 + 0) + 0) ≤ 0) (f1 : (-1) * x4 + (1 * all_0 (r_0 + 0) + 0) ≤ 0) (f2 : PBR (pointMany_0) (costMany_0) (apartMany_0) (costA_0) (costB_0) (costW_0) (costPlain_0) (apartA_0) (apartB_0) (apart_0)) (f3 : 1 * x3 + ((-1) * all_0 (r_0 + 1) + 0) ≤ 0) (f4 : (-1) * x3 + (1 * all_0 (r_0 + 1) + 0) ≤ 0) (f5 : PTB (permBegin_0) (permMany_0) (perm_0)) (f6 : SGR (r_0) (all_0)) (f7 : 1 ≤ all_0 (r_0)) (f8 : x2 ≤ all_0 ((r_0 + 1))) (f9 : TRK (r_0) (all_0) (turned_0)) (f10 : LCP (r_0) (costMany_0) (apartMany_0) (all_0) (turned_0) (costA_0) (costB_0) (costW_0) (costPlain_0) (apartA_0) (apartB_0) (apart_0)) (f11 : pointMany_0 = all_0 (r_0)) (f12 : costMany_0 = x2) (f13 : apartMany_0 = x2) (f14 : RIP (pointMany_0) (costMany_0) (apartMany_0) (spot_0) (costA_0) (costB_0) (costW_0) (costPlain_0) (apartA_0) (apartB_0) (apart_0)) (f16 : x3 ≤ x2) (hK_0_82 : ∀ j : Int, 0 ≤ j → j < 76 → 0 ≤ spot_0 j ∧ spot_0 j ≤ 221100000) (hK_0_83 : ∀ j : Int, 0 ≤ j → j < 200 → 0 ≤ costA_0 j ∧ costA_0 j ≤ 75) (hK_0_84 : ∀ j : Int, 0 ≤ j → j < 200 → 0 ≤ costB_0 j ∧ costB_0 j ≤ 75) (hK_0_85 : ∀ j : Int, 0 ≤ j → j < 200 → 0 ≤ costW_0 j ∧ costW_0 j ≤ 72) (hK_0_86 : ∀ j : Int, 0 ≤ j → j < 200 → 0 ≤ costPlain_0 j ∧ costPlain_0 j ≤ 1) (hK_0_87 : ∀ j : Int, 0 ≤ j → j < 200 → 0 ≤ apartA_0 j ∧ apartA_0 j ≤ 75) (hK_0_88 : ∀ j : Int, 0 ≤ j → j < 200 → 0 ≤ apartB_0 j ∧ apartB_0 j ≤ 75) (hK_0_89 : ∀ j : Int, 0 ≤ j → j < 200 → 0 ≤ apart_0 j ∧ apart_0 j ≤ 202) (hK_0_95 : ∀ j : Int, 0 ≤ j → j < 48 → 0 ≤ turned_0 j ∧ turned_0 j ≤ 1) (hK_0_102 : ∀ j : Int, 0 ≤ j → j < 76 → 0 ≤ itemLayer_0 j ∧ itemLayer_0 j ≤ 75) (hK_0_110 : ∀ j : Int, 0 ≤ j → j < 8 → 0 ≤ permBegin_0 j ∧ permBegin_0 j ≤ 5500) (hK_0_111 : ∀ j : Int, 0 ≤ j → j < 8 → 0 ≤ permMany_0 j ∧ permMany_0 j ≤ 720) (hK_0_112 : ∀ j : Int, 0 ≤ j → j < 6000 → 0 ≤ perm_0 j ∧ perm_0 j ≤ 5) (kz_0_79 : 0 ≤ pointMany_0 ∧ pointMany_0 ≤ 76) (kz_0_80 : 0 ≤ costMany_0 ∧ costMany_0 ≤ 200) (kz_0_81 : 0 ≤ apartMany_0 ∧ apartMany_0 ≤ 200) : x4 = all_0 (r_0) := by
  try simp only [Int.add_zero] at *
  first
    | omega
    | (have h := ‹SGR _ _›.1; omega)
    | (have h := ‹LSA _ _ _ _ _ _ _ _ _ _›.2.1; have h2 := ‹LSA _ _ _ _ _ _ _ _ _ _›.2.2.1 0 (by omega) (by omega); omega)
def o_Mo_layers_2 : or_T := (90, 8, [(0, (2, 0, 0, [150])), (2, (0, 0, 48, [])), (3, (0, 0, 48, [])), (4, (0, 0, 24, [])), (7, (0, 0, 0, []))], [(20, [4, 0], [30, 0, 1, 0, 0, -1, 3, 2005000]), (20, [4, 0], [30, 0, -1, 0, 0, 1, 3, 2005000]), (20, [0], [60, 3, 7, 320, 79, 80, 81, 83, 84, 85, 86, 87, 88, 89]), (20, [3, 0], [30, 0, 1, 0, 0, -1, 3, 2005001]), (20, [3, 0], [30, 0, -1, 0, 0, 1, 3, 2005001]), (20, [0], [60, 0, 3, 291, 110, 111, 112]), (20, [0], [60, 1, 1, 122, 5, 2]), (20, [0], [50, 1, 1, 5, 2, 0, 2, 0, 1, 3, 0, 2, 2, 0, 5]), (20, [2, 0], [50, 1, 1, 1005, 1002, 0, 2, 1, 0, 3, 1, 2, 4, 3, 2, 1, 5, 0, 1]), (20, [0], [60, 1, 2, 290, 5, 2, 95]), (20, [0], [60, 3, 9, 358, 5, 80, 81, 2, 95, 83, 84, 85, 86, 87, 88, 89]), (20, [0], [50, 2, 1, 79, 5, 2, 1, 3, 2, 0, 79, 3, 0, 2, 2, 0, 5]), (20, [0, 2], [50, 1, 0, 80, 1, 3, 2, 0, 80, 1, 1]), (20, [0, 2], [50, 1, 0, 81, 1, 3, 2, 0, 81, 1, 1]), (20, [0], [60, 3, 8, 348, 79, 80, 81, 82, 83, 84, 85, 86, 87, 88, 89]), (102, [3], [98755984447980506373706822346918488900604507185915316486281363456, 13094]), (7, [2, 3], [3])], [], [], [(20, [0], [60, 1, 3, 359, 5, 2, 95, 82]), (20, [0, 7], [60, 0, 2, 360, 102, 82]), (20, [4, 0], [50, 1, 1, 1005, 1002, 1, 2, 1, 0, 3, 1, 2, 2, 1, 5])], [], [(2, 3, 0, 4294967296)])
theorem oo_Mo_layers_2 {kA : Nat → ClassId} : or_ok PRD kA GG o_Mo_layers_2 := by
  intro A ta ws vs hD hth hl hk hds hf
  have hl : vs.length = 8 := hl
  have hk : ∀ q ∈ ([(0, (2, 0, 0, [150])), (2, (0, 0, 48, [])), (3, (0, 0, 48, [])), (4, (0, 0, 24, [])), (7, (0, 0, 0, []))] : List (Nat × tv_T)), tv_ok ta q.2 (n_v vs q.1) := hk
  obtain ⟨t0, hk⟩ := List.forall_mem_cons.mp hk
  have t0 : tv_ok ta (2, 0, 0, [150]) (n_v vs 0) := t0
  have r0 : ta (v_ad (n_v vs 0)) = some 150 := tv_rg t0
  obtain ⟨t2, hk⟩ := List.forall_mem_cons.mp hk
  have t2 : tv_ok ta (0, 0, 48, []) (n_v vs 2) := t2
  have k2 : 0 ≤ v_iv (n_v vs 2) ∧ v_iv (n_v vs 2) ≤ 48 := tv_rng t2
  obtain ⟨t3, hk⟩ := List.forall_mem_cons.mp hk
  have t3 : tv_ok ta (0, 0, 48, []) (n_v vs 3) := t3
  have k3 : 0 ≤ v_iv (n_v vs 3) ∧ v_iv (n_v vs 3) ≤ 48 := tv_rng t3
  obtain ⟨t4, hk⟩ := List.forall_mem_cons.mp hk
  have t4 : tv_ok ta (0, 0, 24, []) (n_v vs 4) := t4
  have k4 : 0 ≤ v_iv (n_v vs 4) ∧ v_iv (n_v vs 4) ≤ 24 := tv_rng t4
  obtain ⟨t7, hk⟩ := List.forall_mem_cons.mp hk
  have t7 : tv_ok ta (0, 0, 0, []) (n_v vs 7) := t7
  have k7 : 0 ≤ v_iv (n_v vs 7) ∧ v_iv (n_v vs 7) ≤ 0 := tv_rng t7
  have hds : ∀ q ∈ ([(2, 3, 0, 4294967296)] : List of_T), n_iv vs q.2.1 + q.2.2.1 ≤ n_iv vs q.1 ∧ n_iv vs q.1 ≤ n_iv vs q.2.1 + q.2.2.2 := hds
  obtain ⟨d0, hds⟩ := List.forall_mem_cons.mp hds
  have d0 : v_iv (n_v vs 3) + 0 ≤ v_iv (n_v vs 2) ∧ v_iv (n_v vs 2) ≤ v_iv (n_v vs 3) + 4294967296 := d0
  have hf : fc_ok PRD [(20, [4, 0], [30, 0, 1, 0, 0, -1, 3, 2005000]), (20, [4, 0], [30, 0, -1, 0, 0, 1, 3, 2005000]), (20, [0], [60, 3, 7, 320, 79, 80, 81, 83, 84, 85, 86, 87, 88, 89]), (20, [3, 0], [30, 0, 1, 0, 0, -1, 3, 2005001]), (20, [3, 0], [30, 0, -1, 0, 0, 1, 3, 2005001]), (20, [0], [60, 0, 3, 291, 110, 111, 112]), (20, [0], [60, 1, 1, 122, 5, 2]), (20, [0], [50, 1, 1, 5, 2, 0, 2, 0, 1, 3, 0, 2, 2, 0, 5]), (20, [2, 0], [50, 1, 1, 1005, 1002, 0, 2, 1, 0, 3, 1, 2, 4, 3, 2, 1, 5, 0, 1]), (20, [0], [60, 1, 2, 290, 5, 2, 95]), (20, [0], [60, 3, 9, 358, 5, 80, 81, 2, 95, 83, 84, 85, 86, 87, 88, 89]), (20, [0], [50, 2, 1, 79, 5, 2, 1, 3, 2, 0, 79, 3, 0, 2, 2, 0, 5]), (20, [0, 2], [50, 1, 0, 80, 1, 3, 2, 0, 80, 1, 1]), (20, [0, 2], [50, 1, 0, 81, 1, 3, 2, 0, 81, 1, 1]), (20, [0], [60, 3, 8, 348, 79, 80, 81, 82, 83, 84, 85, 86, 87, 88, 89]), (102, [3], [98755984447980506373706822346918488900604507185915316486281363456, 13094]), (7, [2, 3], [3])] ta ws vs := hf
  obtain ⟨f0, hf⟩ := fc_un (show (20 : Nat) < 100 from by decide) hf
  have f0 : 1 * v_iv (n_v vs 4) + ((-1) * w_el ws (w_ar ws (n_v vs 0) 2) (w_fi ws (n_v vs 0) 5 + 0).toNat + 0) ≤ 0 := f0
  obtain ⟨f1, hf⟩ := fc_un (show (20 : Nat) < 100 from by decide) hf
  have f1 : (-1) * v_iv (n_v vs 4) + (1 * w_el ws (w_ar ws (n_v vs 0) 2) (w_fi ws (n_v vs 0) 5 + 0).toNat + 0) ≤ 0 := f1
  obtain ⟨f2, hf⟩ := fc_un (show (20 : Nat) < 100 from by decide) hf
  have f2 : PBR (w_fi ws (n_v vs 0) 79) (w_fi ws (n_v vs 0) 80) (w_fi ws (n_v vs 0) 81) (w_ei ws (w_ar ws (n_v vs 0) 83)) (w_ei ws (w_ar ws (n_v vs 0) 84)) (w_ei ws (w_ar ws (n_v vs 0) 85)) (w_ei ws (w_ar ws (n_v vs 0) 86)) (w_ei ws (w_ar ws (n_v vs 0) 87)) (w_ei ws (w_ar ws (n_v vs 0) 88)) (w_ei ws (w_ar ws (n_v vs 0) 89)) := f2
  obtain ⟨f3, hf⟩ := fc_un (show (20 : Nat) < 100 from by decide) hf
  have f3 : 1 * v_iv (n_v vs 3) + ((-1) * w_el ws (w_ar ws (n_v vs 0) 2) (w_fi ws (n_v vs 0) 5 + 1).toNat + 0) ≤ 0 := f3
  obtain ⟨f4, hf⟩ := fc_un (show (20 : Nat) < 100 from by decide) hf
  have f4 : (-1) * v_iv (n_v vs 3) + (1 * w_el ws (w_ar ws (n_v vs 0) 2) (w_fi ws (n_v vs 0) 5 + 1).toNat + 0) ≤ 0 := f4
  obtain ⟨f5, hf⟩ := fc_un (show (20 : Nat) < 100 from by decide) hf
  have f5 : PTB (w_ei ws (w_ar ws (n_v vs 0) 110)) (w_ei ws (w_ar ws (n_v vs 0) 111)) (w_ei ws (w_ar ws (n_v vs 0) 112)) := f5
  obtain ⟨f6, hf⟩ := fc_un (show (20 : Nat) < 100 from by decide) hf
  have f6 : SGR (w_fi ws (n_v vs 0) 5) (w_ei ws (w_ar ws (n_v vs 0) 2)) := f6
  obtain ⟨f7, hf⟩ := fc_un (show (20 : Nat) < 100 from by decide) hf
  have f7 : 1 ≤ w_ei ws (w_ar ws (n_v vs 0) 2) (w_fi ws (n_v vs 0) 5) := f7
  obtain ⟨f8, hf⟩ := fc_un (show (20 : Nat) < 100 from by decide) hf
  have f8 : v_iv (n_v vs 2) ≤ w_ei ws (w_ar ws (n_v vs 0) 2) ((w_fi ws (n_v vs 0) 5 + 1)) := f8
  obtain ⟨f9, hf⟩ := fc_un (show (20 : Nat) < 100 from by decide) hf
  have f9 : TRK (w_fi ws (n_v vs 0) 5) (w_ei ws (w_ar ws (n_v vs 0) 2)) (w_ei ws (w_ar ws (n_v vs 0) 95)) := f9
  obtain ⟨f10, hf⟩ := fc_un (show (20 : Nat) < 100 from by decide) hf
  have f10 : LCP (w_fi ws (n_v vs 0) 5) (w_fi ws (n_v vs 0) 80) (w_fi ws (n_v vs 0) 81) (w_ei ws (w_ar ws (n_v vs 0) 2)) (w_ei ws (w_ar ws (n_v vs 0) 95)) (w_ei ws (w_ar ws (n_v vs 0) 83)) (w_ei ws (w_ar ws (n_v vs 0) 84)) (w_ei ws (w_ar ws (n_v vs 0) 85)) (w_ei ws (w_ar ws (n_v vs 0) 86)) (w_ei ws (w_ar ws (n_v vs 0) 87)) (w_ei ws (w_ar ws (n_v vs 0) 88)) (w_ei ws (w_ar ws (n_v vs 0) 89)) := f10
  obtain ⟨f11, hf⟩ := fc_un (show (20 : Nat) < 100 from by decide) hf
  have f11 : w_fi ws (n_v vs 0) 79 = w_ei ws (w_ar ws (n_v vs 0) 2) (w_fi ws (n_v vs 0) 5) := f11
  obtain ⟨f12, hf⟩ := fc_un (show (20 : Nat) < 100 from by decide) hf
  have f12 : w_fi ws (n_v vs 0) 80 = v_iv (n_v vs 2) := f12
  obtain ⟨f13, hf⟩ := fc_un (show (20 : Nat) < 100 from by decide) hf
  have f13 : w_fi ws (n_v vs 0) 81 = v_iv (n_v vs 2) := f13
  obtain ⟨f14, hf⟩ := fc_un (show (20 : Nat) < 100 from by decide) hf
  have f14 : RIP (w_fi ws (n_v vs 0) 79) (w_fi ws (n_v vs 0) 80) (w_fi ws (n_v vs 0) 81) (w_ei ws (w_ar ws (n_v vs 0) 82)) (w_ei ws (w_ar ws (n_v vs 0) 83)) (w_ei ws (w_ar ws (n_v vs 0) 84)) (w_ei ws (w_ar ws (n_v vs 0) 85)) (w_ei ws (w_ar ws (n_v vs 0) 86)) (w_ei ws (w_ar ws (n_v vs 0) 87)) (w_ei ws (w_ar ws (n_v vs 0) 88)) (w_ei ws (w_ar ws (n_v vs 0) 89)) := f14
  obtain ⟨ta1, w1, le1, ⟨_, s1⟩, hf⟩ := fc_us (show ¬ (102 : Nat) < 100 from by decide) hf
  obtain ⟨f16, hf⟩ := fc_un (show (7 : Nat) < 100 from by decide) hf
  have f16 : v_iv (n_v vs 3) ≤ v_iv (n_v vs 2) := f16
  have cr_0_2 : ta (w_ar ws (n_v vs 0) 2) = some 152 := tv_rg (th_fd hD hth r0 (g := GG_150) rfl (k := 2) (t := (2, 0, 0, [152])) rfl rfl)
  have cr_0_82 : ta (w_ar ws (n_v vs 0) 82) = some 204 := tv_rg (th_fd hD hth r0 (g := GG_150) rfl (k := 82) (t := (2, 0, 0, [204])) rfl rfl)
  have cr_0_83 : ta (w_ar ws (n_v vs 0) 83) = some 205 := tv_rg (th_fd hD hth r0 (g := GG_150) rfl (k := 83) (t := (2, 0, 0, [205])) rfl rfl)
  have cr_0_84 : ta (w_ar ws (n_v vs 0) 84) = some 206 := tv_rg (th_fd hD hth r0 (g := GG_150) rfl (k := 84) (t := (2, 0, 0, [206])) rfl rfl)
  have cr_0_85 : ta (w_ar ws (n_v vs 0) 85) = some 207 := tv_rg (th_fd hD hth r0 (g := GG_150) rfl (k := 85) (t := (2, 0, 0, [207])) rfl rfl)
  have cr_0_86 : ta (w_ar ws (n_v vs 0) 86) = some 208 := tv_rg (th_fd hD hth r0 (g := GG_150) rfl (k := 86) (t := (2, 0, 0, [208])) rfl rfl)
  have cr_0_87 : ta (w_ar ws (n_v vs 0) 87) = some 209 := tv_rg (th_fd hD hth r0 (g := GG_150) rfl (k := 87) (t := (2, 0, 0, [209])) rfl rfl)
  have cr_0_88 : ta (w_ar ws (n_v vs 0) 88) = some 210 := tv_rg (th_fd hD hth r0 (g := GG_150) rfl (k := 88) (t := (2, 0, 0, [210])) rfl rfl)
  have cr_0_89 : ta (w_ar ws (n_v vs 0) 89) = some 211 := tv_rg (th_fd hD hth r0 (g := GG_150) rfl (k := 89) (t := (2, 0, 0, [211])) rfl rfl)
  have cr_0_95 : ta (w_ar ws (n_v vs 0) 95) = some 216 := tv_rg (th_fd hD hth r0 (g := GG_150) rfl (k := 95) (t := (2, 0, 0, [216])) rfl rfl)
  have cr_0_102 : ta (w_ar ws (n_v vs 0) 102) = some 220 := tv_rg (th_fd hD hth r0 (g := GG_150) rfl (k := 102) (t := (2, 0, 0, [220])) rfl rfl)
  have cr_0_110 : ta (w_ar ws (n_v vs 0) 110) = some 227 := tv_rg (th_fd hD hth r0 (g := GG_150) rfl (k := 110) (t := (2, 0, 0, [227])) rfl rfl)
  have cr_0_111 : ta (w_ar ws (n_v vs 0) 111) = some 228 := tv_rg (th_fd hD hth r0 (g := GG_150) rfl (k := 111) (t := (2, 0, 0, [228])) rfl rfl)
  have cr_0_112 : ta (w_ar ws (n_v vs 0) 112) = some 229 := tv_rg (th_fd hD hth r0 (g := GG_150) rfl (k := 112) (t := (2, 0, 0, [229])) rfl rfl)
  have hK_0_82 : ∀ j : Int, 0 ≤ j → j < 76 → 0 ≤ w_ei ws (w_ar ws (n_v vs 0) 82) j ∧ w_ei ws (w_ar ws (n_v vs 0) 82) j ≤ 221100000 := fun j h0 h1 => th_el hD hth cr_0_82 (kd := 0) (n := 76) (m := 76) (lo := 0) (hi := 221100000) (rs := []) (L := []) rfl (by decide) (j := j.toNat) (by omega)
  have hK_0_83 : ∀ j : Int, 0 ≤ j → j < 200 → 0 ≤ w_ei ws (w_ar ws (n_v vs 0) 83) j ∧ w_ei ws (w_ar ws (n_v vs 0) 83) j ≤ 75 := fun j h0 h1 => th_el hD hth cr_0_83 (kd := 0) (n := 200) (m := 200) (lo := 0) (hi := 75) (rs := []) (L := []) rfl (by decide) (j := j.toNat) (by omega)
  have hK_0_84 : ∀ j : Int, 0 ≤ j → j < 200 → 0 ≤ w_ei ws (w_ar ws (n_v vs 0) 84) j ∧ w_ei ws (w_ar ws (n_v vs 0) 84) j ≤ 75 := fun j h0 h1 => th_el hD hth cr_0_84 (kd := 0) (n := 200) (m := 200) (lo := 0) (hi := 75) (rs := []) (L := []) rfl (by decide) (j := j.toNat) (by omega)
  have hK_0_85 : ∀ j : Int, 0 ≤ j → j < 200 → 0 ≤ w_ei ws (w_ar ws (n_v vs 0) 85) j ∧ w_ei ws (w_ar ws (n_v vs 0) 85) j ≤ 72 := fun j h0 h1 => th_el hD hth cr_0_85 (kd := 0) (n := 200) (m := 200) (lo := 0) (hi := 72) (rs := []) (L := []) rfl (by decide) (j := j.toNat) (by omega)
  have hK_0_86 : ∀ j : Int, 0 ≤ j → j < 200 → 0 ≤ w_ei ws (w_ar ws (n_v vs 0) 86) j ∧ w_ei ws (w_ar ws (n_v vs 0) 86) j ≤ 1 := fun j h0 h1 => th_el hD hth cr_0_86 (kd := 2) (n := 200) (m := 200) (lo := 0) (hi := 1) (rs := []) (L := []) rfl (by decide) (j := j.toNat) (by omega)
  have hK_0_87 : ∀ j : Int, 0 ≤ j → j < 200 → 0 ≤ w_ei ws (w_ar ws (n_v vs 0) 87) j ∧ w_ei ws (w_ar ws (n_v vs 0) 87) j ≤ 75 := fun j h0 h1 => th_el hD hth cr_0_87 (kd := 0) (n := 200) (m := 200) (lo := 0) (hi := 75) (rs := []) (L := []) rfl (by decide) (j := j.toNat) (by omega)
  have hK_0_88 : ∀ j : Int, 0 ≤ j → j < 200 → 0 ≤ w_ei ws (w_ar ws (n_v vs 0) 88) j ∧ w_ei ws (w_ar ws (n_v vs 0) 88) j ≤ 75 := fun j h0 h1 => th_el hD hth cr_0_88 (kd := 0) (n := 200) (m := 200) (lo := 0) (hi := 75) (rs := []) (L := []) rfl (by decide) (j := j.toNat) (by omega)
  have hK_0_89 : ∀ j : Int, 0 ≤ j → j < 200 → 0 ≤ w_ei ws (w_ar ws (n_v vs 0) 89) j ∧ w_ei ws (w_ar ws (n_v vs 0) 89) j ≤ 202 := fun j h0 h1 => th_el hD hth cr_0_89 (kd := 0) (n := 200) (m := 200) (lo := 0) (hi := 202) (rs := []) (L := []) rfl (by decide) (j := j.toNat) (by omega)
  have hK_0_95 : ∀ j : Int, 0 ≤ j → j < 48 → 0 ≤ w_ei ws (w_ar ws (n_v vs 0) 95) j ∧ w_ei ws (w_ar ws (n_v vs 0) 95) j ≤ 1 := fun j h0 h1 => th_el hD hth cr_0_95 (kd := 2) (n := 48) (m := 48) (lo := 0) (hi := 1) (rs := []) (L := []) rfl (by decide) (j := j.toNat) (by omega)
  have hK_0_102 : ∀ j : Int, 0 ≤ j → j < 76 → 0 ≤ w_ei ws (w_ar ws (n_v vs 0) 102) j ∧ w_ei ws (w_ar ws (n_v vs 0) 102) j ≤ 75 := fun j h0 h1 => th_el hD hth cr_0_102 (kd := 0) (n := 76) (m := 76) (lo := 0) (hi := 75) (rs := []) (L := []) rfl (by decide) (j := j.toNat) (by omega)
  have hK_0_110 : ∀ j : Int, 0 ≤ j → j < 8 → 0 ≤ w_ei ws (w_ar ws (n_v vs 0) 110) j ∧ w_ei ws (w_ar ws (n_v vs 0) 110) j ≤ 5500 := fun j h0 h1 => th_el hD hth cr_0_110 (kd := 0) (n := 8) (m := 8) (lo := 0) (hi := 5500) (rs := []) (L := []) rfl (by decide) (j := j.toNat) (by omega)
  have hK_0_111 : ∀ j : Int, 0 ≤ j → j < 8 → 0 ≤ w_ei ws (w_ar ws (n_v vs 0) 111) j ∧ w_ei ws (w_ar ws (n_v vs 0) 111) j ≤ 720 := fun j h0 h1 => th_el hD hth cr_0_111 (kd := 0) (n := 8) (m := 8) (lo := 0) (hi := 720) (rs := []) (L := []) rfl (by decide) (j := j.toNat) (by omega)
  have hK_0_112 : ∀ j : Int, 0 ≤ j → j < 6000 → 0 ≤ w_ei ws (w_ar ws (n_v vs 0) 112) j ∧ w_ei ws (w_ar ws (n_v vs 0) 112) j ≤ 5 := fun j h0 h1 => th_el hD hth cr_0_112 (kd := 1) (n := 6000) (m := 6000) (lo := 0) (hi := 5) (rs := []) (L := []) rfl (by decide) (j := j.toNat) (by omega)
  have kz_0_79 : 0 ≤ w_fi ws (n_v vs 0) 79 ∧ w_fi ws (n_v vs 0) 79 ≤ 76 := tv_rng (th_fd hD hth r0 (g := GG_150) rfl (k := 79) (t := (0, 0, 76, [])) rfl rfl)
  have kz_0_80 : 0 ≤ w_fi ws (n_v vs 0) 80 ∧ w_fi ws (n_v vs 0) 80 ≤ 200 := tv_rng (th_fd hD hth r0 (g := GG_150) rfl (k := 80) (t := (0, 0, 200, [])) rfl rfl)
  have kz_0_81 : 0 ≤ w_fi ws (n_v vs 0) 81 ∧ w_fi ws (n_v vs 0) 81 ≤ 200 := tv_rng (th_fd hD hth r0 (g := GG_150) rfl (k := 81) (t := (0, 0, 200, [])) rfl rfl)
  have nf0 : fc_1 PRD (20, [0], [60, 1, 3, 359, 5, 2, 95, 82]) ws (vs) := by
    refine ⟨fun n hn => ?_, ?_⟩
    · have hn : n ∈ [0] := hn
      rw [hl]
      simp only [List.mem_cons, List.not_mem_nil, or_false] at hn
      show n < 8; omega
    · show LYP (w_fi ws (n_v vs 0) 5) (w_ei ws (w_ar ws (n_v vs 0) 2)) (w_ei ws (w_ar ws (n_v vs 0) 95)) (w_ei ws (w_ar ws (n_v vs 0) 82))
      exact vc_Mo_layers_2_0 (v_iv (n_v vs 2)) (v_iv (n_v vs 3)) (v_iv (n_v vs 4)) (v_iv (n_v vs 7)) (w_ei ws (w_ar ws (n_v vs 0) 2)) (w_fi ws (n_v vs 0) 5) (w_ei ws (w_ar ws (n_v vs 0) 83)) (w_ei ws (w_ar ws (n_v vs 0) 84)) (w_ei ws (w_ar ws (n_v vs 0) 85)) (w_ei ws (w_ar ws (n_v vs 0) 86)) (w_ei ws (w_ar ws (n_v vs 0) 87)) (w_ei ws (w_ar ws (n_v vs 0) 88)) (w_ei ws (w_ar ws (n_v vs 0) 89)) (w_fi ws (n_v vs 0) 79) (w_fi ws (n_v vs 0) 80) (w_fi ws (n_v vs 0) 81) (w_ei ws (w_ar ws (n_v vs 0) 110)) (w_ei ws (w_ar ws (n_v vs 0) 111)) (w_ei ws (w_ar ws (n_v vs 0) 112)) (w_ei ws (w_ar ws (n_v vs 0) 95)) (w_ei ws (w_ar ws (n_v vs 0) 82)) (w_ei ws (w_ar ws (n_v vs 0) 102)) k2 k3 k4 k7 d0 f0 f1 f2 f3 f4 f5 f6 f7 f8 f9 f10 f11 f12 f13 f14 f16 hK_0_82 hK_0_83 hK_0_84 hK_0_85 hK_0_86 hK_0_87 hK_0_88 hK_0_89 hK_0_95 hK_0_102 hK_0_110 hK_0_111 hK_0_112 kz_0_79 kz_0_80 kz_0_81
  have nf1 : fc_1 PRD (20, [0, 7], [60, 0, 2, 360, 102, 82]) ws (vs) := by
    refine ⟨fun n hn => ?_, ?_⟩
    · have hn : n ∈ [0, 7] := hn
      rw [hl]
      simp only [List.mem_cons, List.not_mem_nil, or_false] at hn
      show n < 8; omega
    · show ILE (w_ei ws (w_ar ws (n_v vs 0) 102)) (w_ei ws (w_ar ws (n_v vs 0) 82)) (v_iv (n_v vs 7))
      exact vc_Mo_layers_2_1 (v_iv (n_v vs 2)) (v_iv (n_v vs 3)) (v_iv (n_v vs 4)) (v_iv (n_v vs 7)) (w_ei ws (w_ar ws (n_v vs 0) 2)) (w_fi ws (n_v vs 0) 5) (w_ei ws (w_ar ws (n_v vs 0) 83)) (w_ei ws (w_ar ws (n_v vs 0) 84)) (w_ei ws (w_ar ws (n_v vs 0) 85)) (w_ei ws (w_ar ws (n_v vs 0) 86)) (w_ei ws (w_ar ws (n_v vs 0) 87)) (w_ei ws (w_ar ws (n_v vs 0) 88)) (w_ei ws (w_ar ws (n_v vs 0) 89)) (w_fi ws (n_v vs 0) 79) (w_fi ws (n_v vs 0) 80) (w_fi ws (n_v vs 0) 81) (w_ei ws (w_ar ws (n_v vs 0) 110)) (w_ei ws (w_ar ws (n_v vs 0) 111)) (w_ei ws (w_ar ws (n_v vs 0) 112)) (w_ei ws (w_ar ws (n_v vs 0) 95)) (w_ei ws (w_ar ws (n_v vs 0) 82)) (w_ei ws (w_ar ws (n_v vs 0) 102)) k2 k3 k4 k7 d0 f0 f1 f2 f3 f4 f5 f6 f7 f8 f9 f10 f11 f12 f13 f14 f16 hK_0_82 hK_0_83 hK_0_84 hK_0_85 hK_0_86 hK_0_87 hK_0_88 hK_0_89 hK_0_95 hK_0_102 hK_0_110 hK_0_111 hK_0_112 kz_0_79 kz_0_80 kz_0_81
  have nf2 : fc_1 PRD (20, [4, 0], [50, 1, 1, 1005, 1002, 1, 2, 1, 0, 3, 1, 2, 2, 1, 5]) ws (vs) := by
    refine ⟨fun n hn => ?_, ?_⟩
    · have hn : n ∈ [4, 0] := hn
      rw [hl]
      simp only [List.mem_cons, List.not_mem_nil, or_false] at hn
      show n < 8; omega
    · show v_iv (n_v vs 4) = w_ei ws (w_ar ws (n_v vs 0) 2) (w_fi ws (n_v vs 0) 5)
      exact vc_Mo_layers_2_2 (v_iv (n_v vs 2)) (v_iv (n_v vs 3)) (v_iv (n_v vs 4)) (v_iv (n_v vs 7)) (w_ei ws (w_ar ws (n_v vs 0) 2)) (w_fi ws (n_v vs 0) 5) (w_ei ws (w_ar ws (n_v vs 0) 83)) (w_ei ws (w_ar ws (n_v vs 0) 84)) (w_ei ws (w_ar ws (n_v vs 0) 85)) (w_ei ws (w_ar ws (n_v vs 0) 86)) (w_ei ws (w_ar ws (n_v vs 0) 87)) (w_ei ws (w_ar ws (n_v vs 0) 88)) (w_ei ws (w_ar ws (n_v vs 0) 89)) (w_fi ws (n_v vs 0) 79) (w_fi ws (n_v vs 0) 80) (w_fi ws (n_v vs 0) 81) (w_ei ws (w_ar ws (n_v vs 0) 110)) (w_ei ws (w_ar ws (n_v vs 0) 111)) (w_ei ws (w_ar ws (n_v vs 0) 112)) (w_ei ws (w_ar ws (n_v vs 0) 95)) (w_ei ws (w_ar ws (n_v vs 0) 82)) (w_ei ws (w_ar ws (n_v vs 0) 102)) k2 k3 k4 k7 d0 f0 f1 f2 f3 f4 f5 f6 f7 f8 f9 f10 f11 f12 f13 f14 f16 hK_0_82 hK_0_83 hK_0_84 hK_0_85 hK_0_86 hK_0_87 hK_0_88 hK_0_89 hK_0_95 hK_0_102 hK_0_110 hK_0_111 hK_0_112 kz_0_79 kz_0_80 kz_0_81
  refine ⟨(fun _ h => (by cases h)), [], trivial, ?_, (fun _ h => (by cases h))⟩
  rw [List.append_nil]
  exact List.forall_mem_cons.mpr ⟨⟨show (20 : Nat) < 100 from by decide, nf0⟩, List.forall_mem_cons.mpr ⟨⟨show (20 : Nat) < 100 from by decide, nf1⟩, List.forall_mem_cons.mpr ⟨⟨show (20 : Nat) < 100 from by decide, nf2⟩, (fun _ h => (by cases h))⟩⟩⟩
set_option maxHeartbeats 4000000 in
theorem vc_Mo_layers_3_0 (x2 : Int) (x3 : Int) (x4 : Int) (x5 : Int) (all_0 : Int → Int) (turned_0 : Int → Int) (r_0 : Int) (permBegin_0 : Int → Int) (permMany_0 : Int → Int) (perm_0 : Int → Int) (costA_0 : Int → Int) (costB_0 : Int → Int) (costW_0 : Int → Int) (costPlain_0 : Int → Int) (apartA_0 : Int → Int) (apartB_0 : Int → Int) (apart_0 : Int → Int) (costMany_0 : Int) (apartMany_0 : Int) (pointMany_0 : Int) (gx : Int) (k2 : 0 ≤ x2 ∧ x2 ≤ 47) (k3 : 1 ≤ x3 ∧ x3 ≤ 48) (k4 : 0 ≤ x4 ∧ x4 ≤ 23) (k5 : 0 ≤ x5 ∧ x5 ≤ 23) (d0 : x3 + (-4294967296) ≤ x2 ∧ x2 ≤ x3 + (-1)) (f0 : TOO (r_0) (all_0) (turned_0) (x2) (x5)) (f1 : FRO (r_0) (all_0) (turned_0) (x2) (x4)) (f2 : x2 < x3) (f3 : 1 * x3 + ((-1) * all_0 (r_0 + 1) + 0) ≤ 0) (f4 : (-1) * x3 + (1 * all_0 (r_0 + 1) + 0) ≤ 0) (f5 : PTB (permBegin_0) (permMany_0) (perm_0)) (f6 : SGR (r_0) (all_0)) (f7 : 1 ≤ all_0 (r_0)) (f8 : x2 ≤ all_0 ((r_0 + 1))) (f9 : TRK (r_0) (all_0) (turned_0)) (f10 : LCP (r_0) (costMany_0) (apartMany_0) (all_0) (turned_0) (costA_0) (costB_0) (costW_0) (costPlain_0) (apartA_0) (apartB_0) (apart_0)) (f11 : pointMany_0 = all_0 (r_0)) (f12 : costMany_0 = x2) (f13 : apartMany_0 = x2) (hK_0_83 : ∀ j : Int, 0 ≤ j → j < 200 → 0 ≤ costA_0 j ∧ costA_0 j ≤ 75) (hK_0_84 : ∀ j : Int, 0 ≤ j → j < 200 → 0 ≤ costB_0 j ∧ costB_0 j ≤ 75) (hK_0_85 : ∀ j : Int, 0 ≤ j → j < 200 → 0 ≤ costW_0 j ∧ costW_0 j ≤ 72) (hK_0_86 : ∀ j : Int, 0 ≤ j → j < 200 → 0 ≤ costPlain_0 j ∧ costPlain_0 j ≤ 1) (hK_0_87 : ∀ j : Int, 0 ≤ j → j < 200 → 0 ≤ apartA_0 j ∧ apartA_0 j ≤ 75) (hK_0_88 : ∀ j : Int, 0 ≤ j → j < 200 → 0 ≤ apartB_0 j ∧ apartB_0 j ≤ 75) (hK_0_89 : ∀ j : Int, 0 ≤ j → j < 200 → 0 ≤ apart_0 j ∧ apart_0 j ≤ 202) (hK_0_95 : ∀ j : Int, 0 ≤ j → j < 48 → 0 ≤ turned_0 j ∧ turned_0 j ≤ 1) (hK_0_110 : ∀ j : Int, 0 ≤ j → j < 8 → 0 ≤ permBegin_0 j ∧ permBegin_0 j ≤ 5500) (hK_0_111 : ∀ j : Int, 0 ≤ j → j < 8 → 0 ≤ permMany_0 j ∧ permMany_0 j ≤ 720) (hK_0_112 : ∀ j : Int, 0 ≤ j → j < 6000 → 0 ≤ perm_0 j ∧ perm_0 j ≤ 5) (kz_0_79 : 0 ≤ pointMany_0 ∧ pointMany_0 ≤ 76) (kz_0_80 : 0 ≤ costMany_0 ∧ costMany_0 ≤ 200) (kz_0_81 : 0 ≤ apartMany_0 ∧ apartMany_0 ≤ 200) (ex2 : gx = x2) (ex3 : 0 ≤ gx ∧ gx ≤ 199) : 1 * gx + ((-1) * x2 + 0) ≤ 0 := by
  try simp only [Int.add_zero] at *
  first
    | omega
    | (have h := ‹SGR _ _›.1; omega)
    | (have h := ‹LSA _ _ _ _ _ _ _ _ _ _›.2.1; have h2 := ‹LSA _ _ _ _ _ _ _ _ _ _›.2.2.1 0 (by omega) (by omega); omega)
set_option maxHeartbeats 4000000 in
theorem vc_Mo_layers_3_1 (x2 : Int) (x3 : Int) (x4 : Int) (x5 : Int) (all_0 : Int → Int) (turned_0 : Int → Int) (r_0 : Int) (permBegin_0 : Int → Int) (permMany_0 : Int → Int) (perm_0 : Int → Int) (costA_0 : Int → Int) (costB_0 : Int → Int) (costW_0 : Int → Int) (costPlain_0 : Int → Int) (apartA_0 : Int → Int) (apartB_0 : Int → Int) (apart_0 : Int → Int) (costMany_0 : Int) (apartMany_0 : Int) (pointMany_0 : Int) (gx : Int) (k2 : 0 ≤ x2 ∧ x2 ≤ 47) (k3 : 1 ≤ x3 ∧ x3 ≤ 48) (k4 : 0 ≤ x4 ∧ x4 ≤ 23) (k5 : 0 ≤ x5 ∧ x5 ≤ 23) (d0 : x3 + (-4294967296) ≤ x2 ∧ x2 ≤ x3 + (-1)) (f0 : TOO (r_0) (all_0) (turned_0) (x2) (x5)) (f1 : FRO (r_0) (all_0) (turned_0) (x2) (x4)) (f2 : x2 < x3) (f3 : 1 * x3 + ((-1) * all_0 (r_0 + 1) + 0) ≤ 0) (f4 : (-1) * x3 + (1 * all_0 (r_0 + 1) + 0) ≤ 0) (f5 : PTB (permBegin_0) (permMany_0) (perm_0)) (f6 : SGR (r_0) (all_0)) (f7 : 1 ≤ all_0 (r_0)) (f8 : x2 ≤ all_0 ((r_0 + 1))) (f9 : TRK (r_0) (all_0) (turned_0)) (f10 : LCP (r_0) (costMany_0) (apartMany_0) (all_0) (turned_0) (costA_0) (costB_0) (costW_0) (costPlain_0) (apartA_0) (apartB_0) (apart_0)) (f11 : pointMany_0 = all_0 (r_0)) (f12 : costMany_0 = x2) (f13 : apartMany_0 = x2) (hK_0_83 : ∀ j : Int, 0 ≤ j → j < 200 → 0 ≤ costA_0 j ∧ costA_0 j ≤ 75) (hK_0_84 : ∀ j : Int, 0 ≤ j → j < 200 → 0 ≤ costB_0 j ∧ costB_0 j ≤ 75) (hK_0_85 : ∀ j : Int, 0 ≤ j → j < 200 → 0 ≤ costW_0 j ∧ costW_0 j ≤ 72) (hK_0_86 : ∀ j : Int, 0 ≤ j → j < 200 → 0 ≤ costPlain_0 j ∧ costPlain_0 j ≤ 1) (hK_0_87 : ∀ j : Int, 0 ≤ j → j < 200 → 0 ≤ apartA_0 j ∧ apartA_0 j ≤ 75) (hK_0_88 : ∀ j : Int, 0 ≤ j → j < 200 → 0 ≤ apartB_0 j ∧ apartB_0 j ≤ 75) (hK_0_89 : ∀ j : Int, 0 ≤ j → j < 200 → 0 ≤ apart_0 j ∧ apart_0 j ≤ 202) (hK_0_95 : ∀ j : Int, 0 ≤ j → j < 48 → 0 ≤ turned_0 j ∧ turned_0 j ≤ 1) (hK_0_110 : ∀ j : Int, 0 ≤ j → j < 8 → 0 ≤ permBegin_0 j ∧ permBegin_0 j ≤ 5500) (hK_0_111 : ∀ j : Int, 0 ≤ j → j < 8 → 0 ≤ permMany_0 j ∧ permMany_0 j ≤ 720) (hK_0_112 : ∀ j : Int, 0 ≤ j → j < 6000 → 0 ≤ perm_0 j ∧ perm_0 j ≤ 5) (kz_0_79 : 0 ≤ pointMany_0 ∧ pointMany_0 ≤ 76) (kz_0_80 : 0 ≤ costMany_0 ∧ costMany_0 ≤ 200) (kz_0_81 : 0 ≤ apartMany_0 ∧ apartMany_0 ≤ 200) (ex2 : gx = x2) (ex3 : 0 ≤ gx ∧ gx ≤ 199) : (-1) * gx + (1 * x2 + 0) ≤ 0 := by
  try simp only [Int.add_zero] at *
  first
    | omega
    | (have h := ‹SGR _ _›.1; omega)
    | (have h := ‹LSA _ _ _ _ _ _ _ _ _ _›.2.1; have h2 := ‹LSA _ _ _ _ _ _ _ _ _ _›.2.2.1 0 (by omega) (by omega); omega)
set_option maxHeartbeats 4000000 in
theorem vc_Mo_layers_3_2 (x2 : Int) (x3 : Int) (x4 : Int) (x5 : Int) (all_0 : Int → Int) (turned_0 : Int → Int) (r_0 : Int) (permBegin_0 : Int → Int) (permMany_0 : Int → Int) (perm_0 : Int → Int) (costA_0 : Int → Int) (costB_0 : Int → Int) (costW_0 : Int → Int) (costPlain_0 : Int → Int) (apartA_0 : Int → Int) (apartB_0 : Int → Int) (apart_0 : Int → Int) (costMany_0 : Int) (apartMany_0 : Int) (pointMany_0 : Int) (gx : Int) (k2 : 0 ≤ x2 ∧ x2 ≤ 47) (k3 : 1 ≤ x3 ∧ x3 ≤ 48) (k4 : 0 ≤ x4 ∧ x4 ≤ 23) (k5 : 0 ≤ x5 ∧ x5 ≤ 23) (d0 : x3 + (-4294967296) ≤ x2 ∧ x2 ≤ x3 + (-1)) (f0 : TOO (r_0) (all_0) (turned_0) (x2) (x5)) (f1 : FRO (r_0) (all_0) (turned_0) (x2) (x4)) (f2 : x2 < x3) (f3 : 1 * x3 + ((-1) * all_0 (r_0 + 1) + 0) ≤ 0) (f4 : (-1) * x3 + (1 * all_0 (r_0 + 1) + 0) ≤ 0) (f5 : PTB (permBegin_0) (permMany_0) (perm_0)) (f6 : SGR (r_0) (all_0)) (f7 : 1 ≤ all_0 (r_0)) (f8 : x2 ≤ all_0 ((r_0 + 1))) (f9 : TRK (r_0) (all_0) (turned_0)) (f10 : LCP (r_0) (costMany_0) (apartMany_0) (all_0) (turned_0) (costA_0) (costB_0) (costW_0) (costPlain_0) (apartA_0) (apartB_0) (apart_0)) (f11 : pointMany_0 = all_0 (r_0)) (f12 : costMany_0 = x2) (f13 : apartMany_0 = x2) (hK_0_83 : ∀ j : Int, 0 ≤ j → j < 200 → 0 ≤ costA_0 j ∧ costA_0 j ≤ 75) (hK_0_84 : ∀ j : Int, 0 ≤ j → j < 200 → 0 ≤ costB_0 j ∧ costB_0 j ≤ 75) (hK_0_85 : ∀ j : Int, 0 ≤ j → j < 200 → 0 ≤ costW_0 j ∧ costW_0 j ≤ 72) (hK_0_86 : ∀ j : Int, 0 ≤ j → j < 200 → 0 ≤ costPlain_0 j ∧ costPlain_0 j ≤ 1) (hK_0_87 : ∀ j : Int, 0 ≤ j → j < 200 → 0 ≤ apartA_0 j ∧ apartA_0 j ≤ 75) (hK_0_88 : ∀ j : Int, 0 ≤ j → j < 200 → 0 ≤ apartB_0 j ∧ apartB_0 j ≤ 75) (hK_0_89 : ∀ j : Int, 0 ≤ j → j < 200 → 0 ≤ apart_0 j ∧ apart_0 j ≤ 202) (hK_0_95 : ∀ j : Int, 0 ≤ j → j < 48 → 0 ≤ turned_0 j ∧ turned_0 j ≤ 1) (hK_0_110 : ∀ j : Int, 0 ≤ j → j < 8 → 0 ≤ permBegin_0 j ∧ permBegin_0 j ≤ 5500) (hK_0_111 : ∀ j : Int, 0 ≤ j → j < 8 → 0 ≤ permMany_0 j ∧ permMany_0 j ≤ 720) (hK_0_112 : ∀ j : Int, 0 ≤ j → j < 6000 → 0 ≤ perm_0 j ∧ perm_0 j ≤ 5) (kz_0_79 : 0 ≤ pointMany_0 ∧ pointMany_0 ≤ 76) (kz_0_80 : 0 ≤ costMany_0 ∧ costMany_0 ≤ 200) (kz_0_81 : 0 ≤ apartMany_0 ∧ apartMany_0 ≤ 200) (ex2 : gx = x2) (ex3 : 0 ≤ gx ∧ gx ≤ 199) : costMany_0 = gx := by
  try simp only [Int.add_zero] at *
  first
    | omega
    | (have h := ‹SGR _ _›.1; omega)
    | (have h := ‹LSA _ _ _ _ _ _ _ _ _ _›.2.1; have h2 := ‹LSA _ _ _ _ _ _ _ _ _ _›.2.2.1 0 (by omega) (by omega); omega)
set_option maxHeartbeats 4000000 in
theorem vc_Mo_layers_3_3 (x2 : Int) (x3 : Int) (x4 : Int) (x5 : Int) (all_0 : Int → Int) (turned_0 : Int → Int) (r_0 : Int) (permBegin_0 : Int → Int) (permMany_0 : Int → Int) (perm_0 : Int → Int) (costA_0 : Int → Int) (costB_0 : Int → Int) (costW_0 : Int → Int) (costPlain_0 : Int → Int) (apartA_0 : Int → Int) (apartB_0 : Int → Int) (apart_0 : Int → Int) (costMany_0 : Int) (apartMany_0 : Int) (pointMany_0 : Int) (gx : Int) (k2 : 0 ≤ x2 ∧ x2 ≤ 47) (k3 : 1 ≤ x3 ∧ x3 ≤ 48) (k4 : 0 ≤ x4 ∧ x4 ≤ 23) (k5 : 0 ≤ x5 ∧ x5 ≤ 23) (d0 : x3 + (-4294967296) ≤ x2 ∧ x2 ≤ x3 + (-1)) (f0 : TOO (r_0) (all_0) (turned_0) (x2) (x5)) (f1 : FRO (r_0) (all_0) (turned_0) (x2) (x4)) (f2 : x2 < x3) (f3 : 1 * x3 + ((-1) * all_0 (r_0 + 1) + 0) ≤ 0) (f4 : (-1) * x3 + (1 * all_0 (r_0 + 1) + 0) ≤ 0) (f5 : PTB (permBegin_0) (permMany_0) (perm_0)) (f6 : SGR (r_0) (all_0)) (f7 : 1 ≤ all_0 (r_0)) (f8 : x2 ≤ all_0 ((r_0 + 1))) (f9 : TRK (r_0) (all_0) (turned_0)) (f10 : LCP (r_0) (costMany_0) (apartMany_0) (all_0) (turned_0) (costA_0) (costB_0) (costW_0) (costPlain_0) (apartA_0) (apartB_0) (apart_0)) (f11 : pointMany_0 = all_0 (r_0)) (f12 : costMany_0 = x2) (f13 : apartMany_0 = x2) (hK_0_83 : ∀ j : Int, 0 ≤ j → j < 200 → 0 ≤ costA_0 j ∧ costA_0 j ≤ 75) (hK_0_84 : ∀ j : Int, 0 ≤ j → j < 200 → 0 ≤ costB_0 j ∧ costB_0 j ≤ 75) (hK_0_85 : ∀ j : Int, 0 ≤ j → j < 200 → 0 ≤ costW_0 j ∧ costW_0 j ≤ 72) (hK_0_86 : ∀ j : Int, 0 ≤ j → j < 200 → 0 ≤ costPlain_0 j ∧ costPlain_0 j ≤ 1) (hK_0_87 : ∀ j : Int, 0 ≤ j → j < 200 → 0 ≤ apartA_0 j ∧ apartA_0 j ≤ 75) (hK_0_88 : ∀ j : Int, 0 ≤ j → j < 200 → 0 ≤ apartB_0 j ∧ apartB_0 j ≤ 75) (hK_0_89 : ∀ j : Int, 0 ≤ j → j < 200 → 0 ≤ apart_0 j ∧ apart_0 j ≤ 202) (hK_0_95 : ∀ j : Int, 0 ≤ j → j < 48 → 0 ≤ turned_0 j ∧ turned_0 j ≤ 1) (hK_0_110 : ∀ j : Int, 0 ≤ j → j < 8 → 0 ≤ permBegin_0 j ∧ permBegin_0 j ≤ 5500) (hK_0_111 : ∀ j : Int, 0 ≤ j → j < 8 → 0 ≤ permMany_0 j ∧ permMany_0 j ≤ 720) (hK_0_112 : ∀ j : Int, 0 ≤ j → j < 6000 → 0 ≤ perm_0 j ∧ perm_0 j ≤ 5) (kz_0_79 : 0 ≤ pointMany_0 ∧ pointMany_0 ≤ 76) (kz_0_80 : 0 ≤ costMany_0 ∧ costMany_0 ≤ 200) (kz_0_81 : 0 ≤ apartMany_0 ∧ apartMany_0 ≤ 200) (ex2 : gx = x2) (ex3 : 0 ≤ gx ∧ gx ≤ 199) : LCP (r_0) (costMany_0) (apartMany_0) (all_0) (turned_0) (costA_0) (costB_0) (costW_0) (costPlain_0) (apartA_0) (apartB_0) (apart_0) := by
  assumption
set_option maxHeartbeats 4000000 in
theorem vc_Mo_layers_3_4 (x2 : Int) (x3 : Int) (x4 : Int) (x5 : Int) (all_0 : Int → Int) (turned_0 : Int → Int) (r_0 : Int) (permBegin_0 : Int → Int) (permMany_0 : Int → Int) (perm_0 : Int → Int) (costA_0 : Int → Int) (costB_0 : Int → Int) (costW_0 : Int → Int) (costPlain_0 : Int → Int) (apartA_0 : Int → Int) (apartB_0 : Int → Int) (apart_0 : Int → Int) (costMany_0 : Int) (apartMany_0 : Int) (pointMany_0 : Int) (gx : Int) (k2 : 0 ≤ x2 ∧ x2 ≤ 47) (k3 : 1 ≤ x3 ∧ x3 ≤ 48) (k4 : 0 ≤ x4 ∧ x4 ≤ 23) (k5 : 0 ≤ x5 ∧ x5 ≤ 23) (d0 : x3 + (-4294967296) ≤ x2 ∧ x2 ≤ x3 + (-1)) (f0 : TOO (r_0) (all_0) (turned_0) (x2) (x5)) (f1 : FRO (r_0) (all_0) (turned_0) (x2) (x4)) (f2 : x2 < x3) (f3 : 1 * x3 + ((-1) * all_0 (r_0 + 1) + 0) ≤ 0) (f4 : (-1) * x3 + (1 * all_0 (r_0 + 1) + 0) ≤ 0) (f5 : PTB (permBegin_0) (permMany_0) (perm_0)) (f6 : SGR (r_0) (all_0)) (f7 : 1 ≤ all_0 (r_0)) (f8 : x2 ≤ all_0 ((r_0 + 1))) (f9 : TRK (r_0) (all_0) (turned_0)) (f10 : LCP (r_0) (costMany_0) (apartMany_0) (all_0) (turned_0) (costA_0) (costB_0) (costW_0) (costPlain_0) (apartA_0) (apartB_0) (apart_0)) (f11 : pointMany_0 = all_0 (r_0)) (f12 : costMany_0 = x2) (f13 : apartMany_0 = x2) (hK_0_83 : ∀ j : Int, 0 ≤ j → j < 200 → 0 ≤ costA_0 j ∧ costA_0 j ≤ 75) (hK_0_84 : ∀ j : Int, 0 ≤ j → j < 200 → 0 ≤ costB_0 j ∧ costB_0 j ≤ 75) (hK_0_85 : ∀ j : Int, 0 ≤ j → j < 200 → 0 ≤ costW_0 j ∧ costW_0 j ≤ 72) (hK_0_86 : ∀ j : Int, 0 ≤ j → j < 200 → 0 ≤ costPlain_0 j ∧ costPlain_0 j ≤ 1) (hK_0_87 : ∀ j : Int, 0 ≤ j → j < 200 → 0 ≤ apartA_0 j ∧ apartA_0 j ≤ 75) (hK_0_88 : ∀ j : Int, 0 ≤ j → j < 200 → 0 ≤ apartB_0 j ∧ apartB_0 j ≤ 75) (hK_0_89 : ∀ j : Int, 0 ≤ j → j < 200 → 0 ≤ apart_0 j ∧ apart_0 j ≤ 202) (hK_0_95 : ∀ j : Int, 0 ≤ j → j < 48 → 0 ≤ turned_0 j ∧ turned_0 j ≤ 1) (hK_0_110 : ∀ j : Int, 0 ≤ j → j < 8 → 0 ≤ permBegin_0 j ∧ permBegin_0 j ≤ 5500) (hK_0_111 : ∀ j : Int, 0 ≤ j → j < 8 → 0 ≤ permMany_0 j ∧ permMany_0 j ≤ 720) (hK_0_112 : ∀ j : Int, 0 ≤ j → j < 6000 → 0 ≤ perm_0 j ∧ perm_0 j ≤ 5) (kz_0_79 : 0 ≤ pointMany_0 ∧ pointMany_0 ≤ 76) (kz_0_80 : 0 ≤ costMany_0 ∧ costMany_0 ≤ 200) (kz_0_81 : 0 ≤ apartMany_0 ∧ apartMany_0 ≤ 200) (ex2 : gx = x2) (ex3 : 0 ≤ gx ∧ gx ≤ 199) : FRO (r_0) (all_0) (turned_0) (gx) (x4) := by
  rw [ex2]; assumption
set_option maxHeartbeats 4000000 in
theorem vc_Mo_layers_3_5 (x2 : Int) (x3 : Int) (x4 : Int) (x5 : Int) (all_0 : Int → Int) (turned_0 : Int → Int) (r_0 : Int) (permBegin_0 : Int → Int) (permMany_0 : Int → Int) (perm_0 : Int → Int) (costA_0 : Int → Int) (costB_0 : Int → Int) (costW_0 : Int → Int) (costPlain_0 : Int → Int) (apartA_0 : Int → Int) (apartB_0 : Int → Int) (apart_0 : Int → Int) (costMany_0 : Int) (apartMany_0 : Int) (pointMany_0 : Int) (gx : Int) (k2 : 0 ≤ x2 ∧ x2 ≤ 47) (k3 : 1 ≤ x3 ∧ x3 ≤ 48) (k4 : 0 ≤ x4 ∧ x4 ≤ 23) (k5 : 0 ≤ x5 ∧ x5 ≤ 23) (d0 : x3 + (-4294967296) ≤ x2 ∧ x2 ≤ x3 + (-1)) (f0 : TOO (r_0) (all_0) (turned_0) (x2) (x5)) (f1 : FRO (r_0) (all_0) (turned_0) (x2) (x4)) (f2 : x2 < x3) (f3 : 1 * x3 + ((-1) * all_0 (r_0 + 1) + 0) ≤ 0) (f4 : (-1) * x3 + (1 * all_0 (r_0 + 1) + 0) ≤ 0) (f5 : PTB (permBegin_0) (permMany_0) (perm_0)) (f6 : SGR (r_0) (all_0)) (f7 : 1 ≤ all_0 (r_0)) (f8 : x2 ≤ all_0 ((r_0 + 1))) (f9 : TRK (r_0) (all_0) (turned_0)) (f10 : LCP (r_0) (costMany_0) (apartMany_0) (all_0) (turned_0) (costA_0) (costB_0) (costW_0) (costPlain_0) (apartA_0) (apartB_0) (apart_0)) (f11 : pointMany_0 = all_0 (r_0)) (f12 : costMany_0 = x2) (f13 : apartMany_0 = x2) (hK_0_83 : ∀ j : Int, 0 ≤ j → j < 200 → 0 ≤ costA_0 j ∧ costA_0 j ≤ 75) (hK_0_84 : ∀ j : Int, 0 ≤ j → j < 200 → 0 ≤ costB_0 j ∧ costB_0 j ≤ 75) (hK_0_85 : ∀ j : Int, 0 ≤ j → j < 200 → 0 ≤ costW_0 j ∧ costW_0 j ≤ 72) (hK_0_86 : ∀ j : Int, 0 ≤ j → j < 200 → 0 ≤ costPlain_0 j ∧ costPlain_0 j ≤ 1) (hK_0_87 : ∀ j : Int, 0 ≤ j → j < 200 → 0 ≤ apartA_0 j ∧ apartA_0 j ≤ 75) (hK_0_88 : ∀ j : Int, 0 ≤ j → j < 200 → 0 ≤ apartB_0 j ∧ apartB_0 j ≤ 75) (hK_0_89 : ∀ j : Int, 0 ≤ j → j < 200 → 0 ≤ apart_0 j ∧ apart_0 j ≤ 202) (hK_0_95 : ∀ j : Int, 0 ≤ j → j < 48 → 0 ≤ turned_0 j ∧ turned_0 j ≤ 1) (hK_0_110 : ∀ j : Int, 0 ≤ j → j < 8 → 0 ≤ permBegin_0 j ∧ permBegin_0 j ≤ 5500) (hK_0_111 : ∀ j : Int, 0 ≤ j → j < 8 → 0 ≤ permMany_0 j ∧ permMany_0 j ≤ 720) (hK_0_112 : ∀ j : Int, 0 ≤ j → j < 6000 → 0 ≤ perm_0 j ∧ perm_0 j ≤ 5) (kz_0_79 : 0 ≤ pointMany_0 ∧ pointMany_0 ≤ 76) (kz_0_80 : 0 ≤ costMany_0 ∧ costMany_0 ≤ 200) (kz_0_81 : 0 ≤ apartMany_0 ∧ apartMany_0 ≤ 200) (ex2 : gx = x2) (ex3 : 0 ≤ gx ∧ gx ≤ 199) : TOO (r_0) (all_0) (turned_0) (gx) (x5) := by
  rw [ex2]; assumption
def o_Mo_layers_3 : or_T := (49, 8, [(0, (2, 0, 0, [150])), (2, (0, 0, 47, [])), (3, (0, 1, 48, [])), (4, (0, 0, 23, [])), (5, (0, 0, 23, []))], [(20, [0, 2, 5], [60, 1, 2, 357, 5, 2, 95]), (20, [0, 2, 4], [60, 1, 2, 356, 5, 2, 95]), (7, [2, 3], [2]), (20, [3, 0], [30, 0, 1, 0, 0, -1, 3, 2005001]), (20, [3, 0], [30, 0, -1, 0, 0, 1, 3, 2005001]), (20, [0], [60, 0, 3, 291, 110, 111, 112]), (20, [0], [60, 1, 1, 122, 5, 2]), (20, [0], [50, 1, 1, 5, 2, 0, 2, 0, 1, 3, 0, 2, 2, 0, 5]), (20, [2, 0], [50, 1, 1, 1005, 1002, 0, 2, 1, 0, 3, 1, 2, 4, 3, 2, 1, 5, 0, 1]), (20, [0], [60, 1, 2, 290, 5, 2, 95]), (20, [0], [60, 3, 9, 358, 5, 80, 81, 2, 95, 83, 84, 85, 86, 87, 88, 89]), (20, [0], [50, 2, 1, 79, 5, 2, 1, 3, 2, 0, 79, 3, 0, 2, 2, 0, 5]), (20, [0, 2], [50, 1, 0, 80, 1, 3, 2, 0, 80, 1, 1]), (20, [0, 2], [50, 1, 0, 81, 1, 3, 2, 0, 81, 1, 1])], [], [(0, 0, 199, [])], [(23, [8, 2], [0, 1, -1]), (23, [8, 2], [0, -1, 1]), (20, [0, 8], [50, 1, 0, 80, 1, 3, 2, 0, 80, 1, 1]), (20, [0], [60, 3, 9, 358, 5, 80, 81, 2, 95, 83, 84, 85, 86, 87, 88, 89]), (20, [0, 8, 4], [60, 1, 2, 356, 5, 2, 95]), (20, [0, 8, 5], [60, 1, 2, 357, 5, 2, 95])], [], [(2, 3, -4294967296, -1)])
theorem oo_Mo_layers_3 {kA : Nat → ClassId} : or_ok PRD kA GG o_Mo_layers_3 := by
  intro A ta ws vs hD hth hl hk hds hf
  have hl : vs.length = 8 := hl
  have hk : ∀ q ∈ ([(0, (2, 0, 0, [150])), (2, (0, 0, 47, [])), (3, (0, 1, 48, [])), (4, (0, 0, 23, [])), (5, (0, 0, 23, []))] : List (Nat × tv_T)), tv_ok ta q.2 (n_v vs q.1) := hk
  obtain ⟨t0, hk⟩ := List.forall_mem_cons.mp hk
  have t0 : tv_ok ta (2, 0, 0, [150]) (n_v vs 0) := t0
  have r0 : ta (v_ad (n_v vs 0)) = some 150 := tv_rg t0
  obtain ⟨t2, hk⟩ := List.forall_mem_cons.mp hk
  have t2 : tv_ok ta (0, 0, 47, []) (n_v vs 2) := t2
  have k2 : 0 ≤ v_iv (n_v vs 2) ∧ v_iv (n_v vs 2) ≤ 47 := tv_rng t2
  obtain ⟨t3, hk⟩ := List.forall_mem_cons.mp hk
  have t3 : tv_ok ta (0, 1, 48, []) (n_v vs 3) := t3
  have k3 : 1 ≤ v_iv (n_v vs 3) ∧ v_iv (n_v vs 3) ≤ 48 := tv_rng t3
  obtain ⟨t4, hk⟩ := List.forall_mem_cons.mp hk
  have t4 : tv_ok ta (0, 0, 23, []) (n_v vs 4) := t4
  have k4 : 0 ≤ v_iv (n_v vs 4) ∧ v_iv (n_v vs 4) ≤ 23 := tv_rng t4
  obtain ⟨t5, hk⟩ := List.forall_mem_cons.mp hk
  have t5 : tv_ok ta (0, 0, 23, []) (n_v vs 5) := t5
  have k5 : 0 ≤ v_iv (n_v vs 5) ∧ v_iv (n_v vs 5) ≤ 23 := tv_rng t5
  have hds : ∀ q ∈ ([(2, 3, -4294967296, -1)] : List of_T), n_iv vs q.2.1 + q.2.2.1 ≤ n_iv vs q.1 ∧ n_iv vs q.1 ≤ n_iv vs q.2.1 + q.2.2.2 := hds
  obtain ⟨d0, hds⟩ := List.forall_mem_cons.mp hds
  have d0 : v_iv (n_v vs 3) + (-4294967296) ≤ v_iv (n_v vs 2) ∧ v_iv (n_v vs 2) ≤ v_iv (n_v vs 3) + (-1) := d0
  have hf : fc_ok PRD [(20, [0, 2, 5], [60, 1, 2, 357, 5, 2, 95]), (20, [0, 2, 4], [60, 1, 2, 356, 5, 2, 95]), (7, [2, 3], [2]), (20, [3, 0], [30, 0, 1, 0, 0, -1, 3, 2005001]), (20, [3, 0], [30, 0, -1, 0, 0, 1, 3, 2005001]), (20, [0], [60, 0, 3, 291, 110, 111, 112]), (20, [0], [60, 1, 1, 122, 5, 2]), (20, [0], [50, 1, 1, 5, 2, 0, 2, 0, 1, 3, 0, 2, 2, 0, 5]), (20, [2, 0], [50, 1, 1, 1005, 1002, 0, 2, 1, 0, 3, 1, 2, 4, 3, 2, 1, 5, 0, 1]), (20, [0], [60, 1, 2, 290, 5, 2, 95]), (20, [0], [60, 3, 9, 358, 5, 80, 81, 2, 95, 83, 84, 85, 86, 87, 88, 89]), (20, [0], [50, 2, 1, 79, 5, 2, 1, 3, 2, 0, 79, 3, 0, 2, 2, 0, 5]), (20, [0, 2], [50, 1, 0, 80, 1, 3, 2, 0, 80, 1, 1]), (20, [0, 2], [50, 1, 0, 81, 1, 3, 2, 0, 81, 1, 1])] ta ws vs := hf
  obtain ⟨f0, hf⟩ := fc_un (show (20 : Nat) < 100 from by decide) hf
  have f0 : TOO (w_fi ws (n_v vs 0) 5) (w_ei ws (w_ar ws (n_v vs 0) 2)) (w_ei ws (w_ar ws (n_v vs 0) 95)) (v_iv (n_v vs 2)) (v_iv (n_v vs 5)) := f0
  obtain ⟨f1, hf⟩ := fc_un (show (20 : Nat) < 100 from by decide) hf
  have f1 : FRO (w_fi ws (n_v vs 0) 5) (w_ei ws (w_ar ws (n_v vs 0) 2)) (w_ei ws (w_ar ws (n_v vs 0) 95)) (v_iv (n_v vs 2)) (v_iv (n_v vs 4)) := f1
  obtain ⟨f2, hf⟩ := fc_un (show (7 : Nat) < 100 from by decide) hf
  have f2 : v_iv (n_v vs 2) < v_iv (n_v vs 3) := f2
  obtain ⟨f3, hf⟩ := fc_un (show (20 : Nat) < 100 from by decide) hf
  have f3 : 1 * v_iv (n_v vs 3) + ((-1) * w_el ws (w_ar ws (n_v vs 0) 2) (w_fi ws (n_v vs 0) 5 + 1).toNat + 0) ≤ 0 := f3
  obtain ⟨f4, hf⟩ := fc_un (show (20 : Nat) < 100 from by decide) hf
  have f4 : (-1) * v_iv (n_v vs 3) + (1 * w_el ws (w_ar ws (n_v vs 0) 2) (w_fi ws (n_v vs 0) 5 + 1).toNat + 0) ≤ 0 := f4
  obtain ⟨f5, hf⟩ := fc_un (show (20 : Nat) < 100 from by decide) hf
  have f5 : PTB (w_ei ws (w_ar ws (n_v vs 0) 110)) (w_ei ws (w_ar ws (n_v vs 0) 111)) (w_ei ws (w_ar ws (n_v vs 0) 112)) := f5
  obtain ⟨f6, hf⟩ := fc_un (show (20 : Nat) < 100 from by decide) hf
  have f6 : SGR (w_fi ws (n_v vs 0) 5) (w_ei ws (w_ar ws (n_v vs 0) 2)) := f6
  obtain ⟨f7, hf⟩ := fc_un (show (20 : Nat) < 100 from by decide) hf
  have f7 : 1 ≤ w_ei ws (w_ar ws (n_v vs 0) 2) (w_fi ws (n_v vs 0) 5) := f7
  obtain ⟨f8, hf⟩ := fc_un (show (20 : Nat) < 100 from by decide) hf
  have f8 : v_iv (n_v vs 2) ≤ w_ei ws (w_ar ws (n_v vs 0) 2) ((w_fi ws (n_v vs 0) 5 + 1)) := f8
  obtain ⟨f9, hf⟩ := fc_un (show (20 : Nat) < 100 from by decide) hf
  have f9 : TRK (w_fi ws (n_v vs 0) 5) (w_ei ws (w_ar ws (n_v vs 0) 2)) (w_ei ws (w_ar ws (n_v vs 0) 95)) := f9
  obtain ⟨f10, hf⟩ := fc_un (show (20 : Nat) < 100 from by decide) hf
  have f10 : LCP (w_fi ws (n_v vs 0) 5) (w_fi ws (n_v vs 0) 80) (w_fi ws (n_v vs 0) 81) (w_ei ws (w_ar ws (n_v vs 0) 2)) (w_ei ws (w_ar ws (n_v vs 0) 95)) (w_ei ws (w_ar ws (n_v vs 0) 83)) (w_ei ws (w_ar ws (n_v vs 0) 84)) (w_ei ws (w_ar ws (n_v vs 0) 85)) (w_ei ws (w_ar ws (n_v vs 0) 86)) (w_ei ws (w_ar ws (n_v vs 0) 87)) (w_ei ws (w_ar ws (n_v vs 0) 88)) (w_ei ws (w_ar ws (n_v vs 0) 89)) := f10
  obtain ⟨f11, hf⟩ := fc_un (show (20 : Nat) < 100 from by decide) hf
  have f11 : w_fi ws (n_v vs 0) 79 = w_ei ws (w_ar ws (n_v vs 0) 2) (w_fi ws (n_v vs 0) 5) := f11
  obtain ⟨f12, hf⟩ := fc_un (show (20 : Nat) < 100 from by decide) hf
  have f12 : w_fi ws (n_v vs 0) 80 = v_iv (n_v vs 2) := f12
  obtain ⟨f13, hf⟩ := fc_un (show (20 : Nat) < 100 from by decide) hf
  have f13 : w_fi ws (n_v vs 0) 81 = v_iv (n_v vs 2) := f13
  have cr_0_2 : ta (w_ar ws (n_v vs 0) 2) = some 152 := tv_rg (th_fd hD hth r0 (g := GG_150) rfl (k := 2) (t := (2, 0, 0, [152])) rfl rfl)
  have cr_0_83 : ta (w_ar ws (n_v vs 0) 83) = some 205 := tv_rg (th_fd hD hth r0 (g := GG_150) rfl (k := 83) (t := (2, 0, 0, [205])) rfl rfl)
  have cr_0_84 : ta (w_ar ws (n_v vs 0) 84) = some 206 := tv_rg (th_fd hD hth r0 (g := GG_150) rfl (k := 84) (t := (2, 0, 0, [206])) rfl rfl)
  have cr_0_85 : ta (w_ar ws (n_v vs 0) 85) = some 207 := tv_rg (th_fd hD hth r0 (g := GG_150) rfl (k := 85) (t := (2, 0, 0, [207])) rfl rfl)
  have cr_0_86 : ta (w_ar ws (n_v vs 0) 86) = some 208 := tv_rg (th_fd hD hth r0 (g := GG_150) rfl (k := 86) (t := (2, 0, 0, [208])) rfl rfl)
  have cr_0_87 : ta (w_ar ws (n_v vs 0) 87) = some 209 := tv_rg (th_fd hD hth r0 (g := GG_150) rfl (k := 87) (t := (2, 0, 0, [209])) rfl rfl)
  have cr_0_88 : ta (w_ar ws (n_v vs 0) 88) = some 210 := tv_rg (th_fd hD hth r0 (g := GG_150) rfl (k := 88) (t := (2, 0, 0, [210])) rfl rfl)
  have cr_0_89 : ta (w_ar ws (n_v vs 0) 89) = some 211 := tv_rg (th_fd hD hth r0 (g := GG_150) rfl (k := 89) (t := (2, 0, 0, [211])) rfl rfl)
  have cr_0_95 : ta (w_ar ws (n_v vs 0) 95) = some 216 := tv_rg (th_fd hD hth r0 (g := GG_150) rfl (k := 95) (t := (2, 0, 0, [216])) rfl rfl)
  have cr_0_110 : ta (w_ar ws (n_v vs 0) 110) = some 227 := tv_rg (th_fd hD hth r0 (g := GG_150) rfl (k := 110) (t := (2, 0, 0, [227])) rfl rfl)
  have cr_0_111 : ta (w_ar ws (n_v vs 0) 111) = some 228 := tv_rg (th_fd hD hth r0 (g := GG_150) rfl (k := 111) (t := (2, 0, 0, [228])) rfl rfl)
  have cr_0_112 : ta (w_ar ws (n_v vs 0) 112) = some 229 := tv_rg (th_fd hD hth r0 (g := GG_150) rfl (k := 112) (t := (2, 0, 0, [229])) rfl rfl)
  have hK_0_83 : ∀ j : Int, 0 ≤ j → j < 200 → 0 ≤ w_ei ws (w_ar ws (n_v vs 0) 83) j ∧ w_ei ws (w_ar ws (n_v vs 0) 83) j ≤ 75 := fun j h0 h1 => th_el hD hth cr_0_83 (kd := 0) (n := 200) (m := 200) (lo := 0) (hi := 75) (rs := []) (L := []) rfl (by decide) (j := j.toNat) (by omega)
  have hK_0_84 : ∀ j : Int, 0 ≤ j → j < 200 → 0 ≤ w_ei ws (w_ar ws (n_v vs 0) 84) j ∧ w_ei ws (w_ar ws (n_v vs 0) 84) j ≤ 75 := fun j h0 h1 => th_el hD hth cr_0_84 (kd := 0) (n := 200) (m := 200) (lo := 0) (hi := 75) (rs := []) (L := []) rfl (by decide) (j := j.toNat) (by omega)
  have hK_0_85 : ∀ j : Int, 0 ≤ j → j < 200 → 0 ≤ w_ei ws (w_ar ws (n_v vs 0) 85) j ∧ w_ei ws (w_ar ws (n_v vs 0) 85) j ≤ 72 := fun j h0 h1 => th_el hD hth cr_0_85 (kd := 0) (n := 200) (m := 200) (lo := 0) (hi := 72) (rs := []) (L := []) rfl (by decide) (j := j.toNat) (by omega)
  have hK_0_86 : ∀ j : Int, 0 ≤ j → j < 200 → 0 ≤ w_ei ws (w_ar ws (n_v vs 0) 86) j ∧ w_ei ws (w_ar ws (n_v vs 0) 86) j ≤ 1 := fun j h0 h1 => th_el hD hth cr_0_86 (kd := 2) (n := 200) (m := 200) (lo := 0) (hi := 1) (rs := []) (L := []) rfl (by decide) (j := j.toNat) (by omega)
  have hK_0_87 : ∀ j : Int, 0 ≤ j → j < 200 → 0 ≤ w_ei ws (w_ar ws (n_v vs 0) 87) j ∧ w_ei ws (w_ar ws (n_v vs 0) 87) j ≤ 75 := fun j h0 h1 => th_el hD hth cr_0_87 (kd := 0) (n := 200) (m := 200) (lo := 0) (hi := 75) (rs := []) (L := []) rfl (by decide) (j := j.toNat) (by omega)
  have hK_0_88 : ∀ j : Int, 0 ≤ j → j < 200 → 0 ≤ w_ei ws (w_ar ws (n_v vs 0) 88) j ∧ w_ei ws (w_ar ws (n_v vs 0) 88) j ≤ 75 := fun j h0 h1 => th_el hD hth cr_0_88 (kd := 0) (n := 200) (m := 200) (lo := 0) (hi := 75) (rs := []) (L := []) rfl (by decide) (j := j.toNat) (by omega)
  have hK_0_89 : ∀ j : Int, 0 ≤ j → j < 200 → 0 ≤ w_ei ws (w_ar ws (n_v vs 0) 89) j ∧ w_ei ws (w_ar ws (n_v vs 0) 89) j ≤ 202 := fun j h0 h1 => th_el hD hth cr_0_89 (kd := 0) (n := 200) (m := 200) (lo := 0) (hi := 202) (rs := []) (L := []) rfl (by decide) (j := j.toNat) (by omega)
  have hK_0_95 : ∀ j : Int, 0 ≤ j → j < 48 → 0 ≤ w_ei ws (w_ar ws (n_v vs 0) 95) j ∧ w_ei ws (w_ar ws (n_v vs 0) 95) j ≤ 1 := fun j h0 h1 => th_el hD hth cr_0_95 (kd := 2) (n := 48) (m := 48) (lo := 0) (hi := 1) (rs := []) (L := []) rfl (by decide) (j := j.toNat) (by omega)
  have hK_0_110 : ∀ j : Int, 0 ≤ j → j < 8 → 0 ≤ w_ei ws (w_ar ws (n_v vs 0) 110) j ∧ w_ei ws (w_ar ws (n_v vs 0) 110) j ≤ 5500 := fun j h0 h1 => th_el hD hth cr_0_110 (kd := 0) (n := 8) (m := 8) (lo := 0) (hi := 5500) (rs := []) (L := []) rfl (by decide) (j := j.toNat) (by omega)
  have hK_0_111 : ∀ j : Int, 0 ≤ j → j < 8 → 0 ≤ w_ei ws (w_ar ws (n_v vs 0) 111) j ∧ w_ei ws (w_ar ws (n_v vs 0) 111) j ≤ 720 := fun j h0 h1 => th_el hD hth cr_0_111 (kd := 0) (n := 8) (m := 8) (lo := 0) (hi := 720) (rs := []) (L := []) rfl (by decide) (j := j.toNat) (by omega)
  have hK_0_112 : ∀ j : Int, 0 ≤ j → j < 6000 → 0 ≤ w_ei ws (w_ar ws (n_v vs 0) 112) j ∧ w_ei ws (w_ar ws (n_v vs 0) 112) j ≤ 5 := fun j h0 h1 => th_el hD hth cr_0_112 (kd := 1) (n := 6000) (m := 6000) (lo := 0) (hi := 5) (rs := []) (L := []) rfl (by decide) (j := j.toNat) (by omega)
  have kz_0_79 : 0 ≤ w_fi ws (n_v vs 0) 79 ∧ w_fi ws (n_v vs 0) 79 ≤ 76 := tv_rng (th_fd hD hth r0 (g := GG_150) rfl (k := 79) (t := (0, 0, 76, [])) rfl rfl)
  have kz_0_80 : 0 ≤ w_fi ws (n_v vs 0) 80 ∧ w_fi ws (n_v vs 0) 80 ≤ 200 := tv_rng (th_fd hD hth r0 (g := GG_150) rfl (k := 80) (t := (0, 0, 200, [])) rfl rfl)
  have kz_0_81 : 0 ≤ w_fi ws (n_v vs 0) 81 ∧ w_fi ws (n_v vs 0) 81 ≤ 200 := tv_rng (th_fd hD hth r0 (g := GG_150) rfl (k := 81) (t := (0, 0, 200, [])) rfl rfl)
  obtain ⟨x, ex, hx⟩ := iv_ex (ta := ta) (lo := 0) (hi := 199) (z := v_iv (n_v vs 2)) (by omega) (by omega) (by omega) (by omega)
  have ex2 : v_iv (Value.int x) = v_iv (n_v vs 2) := ex
  have ex3 : 0 ≤ v_iv (Value.int x) ∧ v_iv (Value.int x) ≤ 199 := tv_rng hx
  have e_0 : n_v (vs ++ [Value.int x]) 0 = n_v vs 0 := n_v_old (by rw [hl]; decide)
  have e_2 : n_v (vs ++ [Value.int x]) 2 = n_v vs 2 := n_v_old (by rw [hl]; decide)
  have e_4 : n_v (vs ++ [Value.int x]) 4 = n_v vs 4 := n_v_old (by rw [hl]; decide)
  have e_5 : n_v (vs ++ [Value.int x]) 5 = n_v vs 5 := n_v_old (by rw [hl]; decide)
  have e_8 : n_v (vs ++ [Value.int x]) 8 = Value.int x := n_v_new hl
  have nf0 : fc_1 PRD (23, [8, 2], [0, 1, -1]) ws (vs ++ [Value.int x]) := by
    refine ⟨fun n hn => ?_, ?_⟩
    · have hn : n ∈ [8, 2] := hn
      rw [List.length_append, hl]
      simp only [List.mem_cons, List.not_mem_nil, or_false] at hn
      show n < 8 + 1; omega
    · show 1 * v_iv (n_v (vs ++ [Value.int x]) 8) + ((-1) * v_iv (n_v (vs ++ [Value.int x]) 2) + 0) ≤ 0
      rw [e_2]
      rw [e_8]
      exact vc_Mo_layers_3_0 (v_iv (n_v vs 2)) (v_iv (n_v vs 3)) (v_iv (n_v vs 4)) (v_iv (n_v vs 5)) (w_ei ws (w_ar ws (n_v vs 0) 2)) (w_ei ws (w_ar ws (n_v vs 0) 95)) (w_fi ws (n_v vs 0) 5) (w_ei ws (w_ar ws (n_v vs 0) 110)) (w_ei ws (w_ar ws (n_v vs 0) 111)) (w_ei ws (w_ar ws (n_v vs 0) 112)) (w_ei ws (w_ar ws (n_v vs 0) 83)) (w_ei ws (w_ar ws (n_v vs 0) 84)) (w_ei ws (w_ar ws (n_v vs 0) 85)) (w_ei ws (w_ar ws (n_v vs 0) 86)) (w_ei ws (w_ar ws (n_v vs 0) 87)) (w_ei ws (w_ar ws (n_v vs 0) 88)) (w_ei ws (w_ar ws (n_v vs 0) 89)) (w_fi ws (n_v vs 0) 80) (w_fi ws (n_v vs 0) 81) (w_fi ws (n_v vs 0) 79) (v_iv (Value.int x)) k2 k3 k4 k5 d0 f0 f1 f2 f3 f4 f5 f6 f7 f8 f9 f10 f11 f12 f13 hK_0_83 hK_0_84 hK_0_85 hK_0_86 hK_0_87 hK_0_88 hK_0_89 hK_0_95 hK_0_110 hK_0_111 hK_0_112 kz_0_79 kz_0_80 kz_0_81 ex2 ex3
  have nf1 : fc_1 PRD (23, [8, 2], [0, -1, 1]) ws (vs ++ [Value.int x]) := by
    refine ⟨fun n hn => ?_, ?_⟩
    · have hn : n ∈ [8, 2] := hn
      rw [List.length_append, hl]
      simp only [List.mem_cons, List.not_mem_nil, or_false] at hn
      show n < 8 + 1; omega
    · show (-1) * v_iv (n_v (vs ++ [Value.int x]) 8) + (1 * v_iv (n_v (vs ++ [Value.int x]) 2) + 0) ≤ 0
      rw [e_2]
      rw [e_8]
      exact vc_Mo_layers_3_1 (v_iv (n_v vs 2)) (v_iv (n_v vs 3)) (v_iv (n_v vs 4)) (v_iv (n_v vs 5)) (w_ei ws (w_ar ws (n_v vs 0) 2)) (w_ei ws (w_ar ws (n_v vs 0) 95)) (w_fi ws (n_v vs 0) 5) (w_ei ws (w_ar ws (n_v vs 0) 110)) (w_ei ws (w_ar ws (n_v vs 0) 111)) (w_ei ws (w_ar ws (n_v vs 0) 112)) (w_ei ws (w_ar ws (n_v vs 0) 83)) (w_ei ws (w_ar ws (n_v vs 0) 84)) (w_ei ws (w_ar ws (n_v vs 0) 85)) (w_ei ws (w_ar ws (n_v vs 0) 86)) (w_ei ws (w_ar ws (n_v vs 0) 87)) (w_ei ws (w_ar ws (n_v vs 0) 88)) (w_ei ws (w_ar ws (n_v vs 0) 89)) (w_fi ws (n_v vs 0) 80) (w_fi ws (n_v vs 0) 81) (w_fi ws (n_v vs 0) 79) (v_iv (Value.int x)) k2 k3 k4 k5 d0 f0 f1 f2 f3 f4 f5 f6 f7 f8 f9 f10 f11 f12 f13 hK_0_83 hK_0_84 hK_0_85 hK_0_86 hK_0_87 hK_0_88 hK_0_89 hK_0_95 hK_0_110 hK_0_111 hK_0_112 kz_0_79 kz_0_80 kz_0_81 ex2 ex3
  have nf2 : fc_1 PRD (20, [0, 8], [50, 1, 0, 80, 1, 3, 2, 0, 80, 1, 1]) ws (vs ++ [Value.int x]) := by
    refine ⟨fun n hn => ?_, ?_⟩
    · have hn : n ∈ [0, 8] := hn
      rw [List.length_append, hl]
      simp only [List.mem_cons, List.not_mem_nil, or_false] at hn
      show n < 8 + 1; omega
    · show w_fi ws (n_v (vs ++ [Value.int x]) 0) 80 = v_iv (n_v (vs ++ [Value.int x]) 8)
      rw [e_0]
      rw [e_8]
      exact vc_Mo_layers_3_2 (v_iv (n_v vs 2)) (v_iv (n_v vs 3)) (v_iv (n_v vs 4)) (v_iv (n_v vs 5)) (w_ei ws (w_ar ws (n_v vs 0) 2)) (w_ei ws (w_ar ws (n_v vs 0) 95)) (w_fi ws (n_v vs 0) 5) (w_ei ws (w_ar ws (n_v vs 0) 110)) (w_ei ws (w_ar ws (n_v vs 0) 111)) (w_ei ws (w_ar ws (n_v vs 0) 112)) (w_ei ws (w_ar ws (n_v vs 0) 83)) (w_ei ws (w_ar ws (n_v vs 0) 84)) (w_ei ws (w_ar ws (n_v vs 0) 85)) (w_ei ws (w_ar ws (n_v vs 0) 86)) (w_ei ws (w_ar ws (n_v vs 0) 87)) (w_ei ws (w_ar ws (n_v vs 0) 88)) (w_ei ws (w_ar ws (n_v vs 0) 89)) (w_fi ws (n_v vs 0) 80) (w_fi ws (n_v vs 0) 81) (w_fi ws (n_v vs 0) 79) (v_iv (Value.int x)) k2 k3 k4 k5 d0 f0 f1 f2 f3 f4 f5 f6 f7 f8 f9 f10 f11 f12 f13 hK_0_83 hK_0_84 hK_0_85 hK_0_86 hK_0_87 hK_0_88 hK_0_89 hK_0_95 hK_0_110 hK_0_111 hK_0_112 kz_0_79 kz_0_80 kz_0_81 ex2 ex3
  have nf3 : fc_1 PRD (20, [0], [60, 3, 9, 358, 5, 80, 81, 2, 95, 83, 84, 85, 86, 87, 88, 89]) ws (vs ++ [Value.int x]) := by
    refine ⟨fun n hn => ?_, ?_⟩
    · have hn : n ∈ [0] := hn
      rw [List.length_append, hl]
      simp only [List.mem_cons, List.not_mem_nil, or_false] at hn
      show n < 8 + 1; omega
    · show LCP (w_fi ws (n_v (vs ++ [Value.int x]) 0) 5) (w_fi ws (n_v (vs ++ [Value.int x]) 0) 80) (w_fi ws (n_v (vs ++ [Value.int x]) 0) 81) (w_ei ws (w_ar ws (n_v (vs ++ [Value.int x]) 0) 2)) (w_ei ws (w_ar ws (n_v (vs ++ [Value.int x]) 0) 95)) (w_ei ws (w_ar ws (n_v (vs ++ [Value.int x]) 0) 83)) (w_ei ws (w_ar ws (n_v (vs ++ [Value.int x]) 0) 84)) (w_ei ws (w_ar ws (n_v (vs ++ [Value.int x]) 0) 85)) (w_ei ws (w_ar ws (n_v (vs ++ [Value.int x]) 0) 86)) (w_ei ws (w_ar ws (n_v (vs ++ [Value.int x]) 0) 87)) (w_ei ws (w_ar ws (n_v (vs ++ [Value.int x]) 0) 88)) (w_ei ws (w_ar ws (n_v (vs ++ [Value.int x]) 0) 89))
      rw [e_0]
      exact vc_Mo_layers_3_3 (v_iv (n_v vs 2)) (v_iv (n_v vs 3)) (v_iv (n_v vs 4)) (v_iv (n_v vs 5)) (w_ei ws (w_ar ws (n_v vs 0) 2)) (w_ei ws (w_ar ws (n_v vs 0) 95)) (w_fi ws (n_v vs 0) 5) (w_ei ws (w_ar ws (n_v vs 0) 110)) (w_ei ws (w_ar ws (n_v vs 0) 111)) (w_ei ws (w_ar ws (n_v vs 0) 112)) (w_ei ws (w_ar ws (n_v vs 0) 83)) (w_ei ws (w_ar ws (n_v vs 0) 84)) (w_ei ws (w_ar ws (n_v vs 0) 85)) (w_ei ws (w_ar ws (n_v vs 0) 86)) (w_ei ws (w_ar ws (n_v vs 0) 87)) (w_ei ws (w_ar ws (n_v vs 0) 88)) (w_ei ws (w_ar ws (n_v vs 0) 89)) (w_fi ws (n_v vs 0) 80) (w_fi ws (n_v vs 0) 81) (w_fi ws (n_v vs 0) 79) (v_iv (Value.int x)) k2 k3 k4 k5 d0 f0 f1 f2 f3 f4 f5 f6 f7 f8 f9 f10 f11 f12 f13 hK_0_83 hK_0_84 hK_0_85 hK_0_86 hK_0_87 hK_0_88 hK_0_89 hK_0_95 hK_0_110 hK_0_111 hK_0_112 kz_0_79 kz_0_80 kz_0_81 ex2 ex3
  have nf4 : fc_1 PRD (20, [0, 8, 4], [60, 1, 2, 356, 5, 2, 95]) ws (vs ++ [Value.int x]) := by
    refine ⟨fun n hn => ?_, ?_⟩
    · have hn : n ∈ [0, 8, 4] := hn
      rw [List.length_append, hl]
      simp only [List.mem_cons, List.not_mem_nil, or_false] at hn
      show n < 8 + 1; omega
    · show FRO (w_fi ws (n_v (vs ++ [Value.int x]) 0) 5) (w_ei ws (w_ar ws (n_v (vs ++ [Value.int x]) 0) 2)) (w_ei ws (w_ar ws (n_v (vs ++ [Value.int x]) 0) 95)) (v_iv (n_v (vs ++ [Value.int x]) 8)) (v_iv (n_v (vs ++ [Value.int x]) 4))
      rw [e_0]
      rw [e_4]
      rw [e_8]
      exact vc_Mo_layers_3_4 (v_iv (n_v vs 2)) (v_iv (n_v vs 3)) (v_iv (n_v vs 4)) (v_iv (n_v vs 5)) (w_ei ws (w_ar ws (n_v vs 0) 2)) (w_ei ws (w_ar ws (n_v vs 0) 95)) (w_fi ws (n_v vs 0) 5) (w_ei ws (w_ar ws (n_v vs 0) 110)) (w_ei ws (w_ar ws (n_v vs 0) 111)) (w_ei ws (w_ar ws (n_v vs 0) 112)) (w_ei ws (w_ar ws (n_v vs 0) 83)) (w_ei ws (w_ar ws (n_v vs 0) 84)) (w_ei ws (w_ar ws (n_v vs 0) 85)) (w_ei ws (w_ar ws (n_v vs 0) 86)) (w_ei ws (w_ar ws (n_v vs 0) 87)) (w_ei ws (w_ar ws (n_v vs 0) 88)) (w_ei ws (w_ar ws (n_v vs 0) 89)) (w_fi ws (n_v vs 0) 80) (w_fi ws (n_v vs 0) 81) (w_fi ws (n_v vs 0) 79) (v_iv (Value.int x)) k2 k3 k4 k5 d0 f0 f1 f2 f3 f4 f5 f6 f7 f8 f9 f10 f11 f12 f13 hK_0_83 hK_0_84 hK_0_85 hK_0_86 hK_0_87 hK_0_88 hK_0_89 hK_0_95 hK_0_110 hK_0_111 hK_0_112 kz_0_79 kz_0_80 kz_0_81 ex2 ex3
  have nf5 : fc_1 PRD (20, [0, 8, 5], [60, 1, 2, 357, 5, 2, 95]) ws (vs ++ [Value.int x]) := by
    refine ⟨fun n hn => ?_, ?_⟩
    · have hn : n ∈ [0, 8, 5] := hn
      rw [List.length_append, hl]
      simp only [List.mem_cons, List.not_mem_nil, or_false] at hn
      show n < 8 + 1; omega
    · show TOO (w_fi ws (n_v (vs ++ [Value.int x]) 0) 5) (w_ei ws (w_ar ws (n_v (vs ++ [Value.int x]) 0) 2)) (w_ei ws (w_ar ws (n_v (vs ++ [Value.int x]) 0) 95)) (v_iv (n_v (vs ++ [Value.int x]) 8)) (v_iv (n_v (vs ++ [Value.int x]) 5))
      rw [e_0]
      rw [e_5]
      rw [e_8]
      exact vc_Mo_layers_3_5 (v_iv (n_v vs 2)) (v_iv (n_v vs 3)) (v_iv (n_v vs 4)) (v_iv (n_v vs 5)) (w_ei ws (w_ar ws (n_v vs 0) 2)) (w_ei ws (w_ar ws (n_v vs 0) 95)) (w_fi ws (n_v vs 0) 5) (w_ei ws (w_ar ws (n_v vs 0) 110)) (w_ei ws (w_ar ws (n_v vs 0) 111)) (w_ei ws (w_ar ws (n_v vs 0) 112)) (w_ei ws (w_ar ws (n_v vs 0) 83)) (w_ei ws (w_ar ws (n_v vs 0) 84)) (w_ei ws (w_ar ws (n_v vs 0) 85)) (w_ei ws (w_ar ws (n_v vs 0) 86)) (w_ei ws (w_ar ws (n_v vs 0) 87)) (w_ei ws (w_ar ws (n_v vs 0) 88)) (w_ei ws (w_ar ws (n_v vs 0) 89)) (w_fi ws (n_v vs 0) 80) (w_fi ws (n_v vs 0) 81) (w_fi ws (n_v vs 0) 79) (v_iv (Value.int x)) k2 k3 k4 k5 d0 f0 f1 f2 f3 f4 f5 f6 f7 f8 f9 f10 f11 f12 f13 hK_0_83 hK_0_84 hK_0_85 hK_0_86 hK_0_87 hK_0_88 hK_0_89 hK_0_95 hK_0_110 hK_0_111 hK_0_112 kz_0_79 kz_0_80 kz_0_81 ex2 ex3
  exact ⟨(fun _ h => (by cases h)), [Value.int x], ag_one hx, List.forall_mem_cons.mpr ⟨⟨show (23 : Nat) < 100 from by decide, nf0⟩, List.forall_mem_cons.mpr ⟨⟨show (23 : Nat) < 100 from by decide, nf1⟩, List.forall_mem_cons.mpr ⟨⟨show (20 : Nat) < 100 from by decide, nf2⟩, List.forall_mem_cons.mpr ⟨⟨show (20 : Nat) < 100 from by decide, nf3⟩, List.forall_mem_cons.mpr ⟨⟨show (20 : Nat) < 100 from by decide, nf4⟩, List.forall_mem_cons.mpr ⟨⟨show (20 : Nat) < 100 from by decide, nf5⟩, (fun _ h => (by cases h))⟩⟩⟩⟩⟩⟩, (fun _ h => (by cases h))⟩
set_option maxHeartbeats 4000000 in
theorem vc_Mo_layers_4_0 (x2 : Int) (x3 : Int) (x4 : Int) (x5 : Int) (x8 : Int) (x9 : Int) (x10 : Int) (x11 : Int) (all_0 : Int → Int) (turned_0 : Int → Int) (r_0 : Int) (permBegin_0 : Int → Int) (permMany_0 : Int → Int) (perm_0 : Int → Int) (pointMany_0 : Int) (apartMany_0 : Int) (costMany_0 : Int) (costA_0 : Int → Int) (costB_0 : Int → Int) (costW_0 : Int → Int) (costPlain_0 : Int → Int) (apartA_0 : Int → Int) (apartB_0 : Int → Int) (apart_0 : Int → Int) (gx : Int) (k2 : 0 ≤ x2 ∧ x2 ≤ 47) (k3 : 1 ≤ x3 ∧ x3 ≤ 48) (k4 : 0 ≤ x4 ∧ x4 ≤ 23) (k5 : 0 ≤ x5 ∧ x5 ≤ 23) (k8 : 0 ≤ x8 ∧ x8 ≤ 199) (k9 : 0 ≤ x9 ∧ x9 ≤ 23) (k10 : 0 ≤ x10 ∧ x10 ≤ 23) (k11 : 1 ≤ x11 ∧ x11 ≤ 1) (d0 : x3 + (-4294967296) ≤ x2 ∧ x2 ≤ x3 + (-1)) (f0 : TOO (r_0) (all_0) (turned_0) (x2) (x10)) (f1 : FRO (r_0) (all_0) (turned_0) (x2) (x9)) (f2 : 1 * x8 + ((-1) * x2 + 0) ≤ 0) (f3 : (-1) * x8 + (1 * x2 + 0) ≤ 0) (f4 : FRO (r_0) (all_0) (turned_0) (x8) (x4)) (f5 : TOO (r_0) (all_0) (turned_0) (x8) (x5)) (f6 : TOO (r_0) (all_0) (turned_0) (x2) (x5)) (f7 : FRO (r_0) (all_0) (turned_0) (x2) (x4)) (f8 : 1 * x3 + ((-1) * all_0 (r_0 + 1) + 0) ≤ 0) (f9 : (-1) * x3 + (1 * all_0 (r_0 + 1) + 0) ≤ 0) (f10 : PTB (permBegin_0) (permMany_0) (perm_0)) (f11 : SGR (r_0) (all_0)) (f12 : 1 ≤ all_0 (r_0)) (f13 : x2 ≤ all_0 ((r_0 + 1))) (f14 : TRK (r_0) (all_0) (turned_0)) (f15 : pointMany_0 = all_0 (r_0)) (f16 : apartMany_0 = x2) (f17 : costMany_0 = (x8 + 1)) (f18 : LCP (r_0) (costMany_0) (apartMany_0) (all_0) (turned_0) (costA_0) (costB_0) (costW_0) (costPlain_0) (apartA_0) (apartB_0) (apart_0)) (f20 : 1 * x8 + ((-1) * x2 + 0) ≤ 0) (f21 : (-1) * x8 + (1 * x2 + 0) ≤ 0) (f22 : x2 < x3) (hK_0_83 : ∀ j : Int, 0 ≤ j → j < 200 → 0 ≤ costA_0 j ∧ costA_0 j ≤ 75) (hK_0_84 : ∀ j : Int, 0 ≤ j → j < 200 → 0 ≤ costB_0 j ∧ costB_0 j ≤ 75) (hK_0_85 : ∀ j : Int, 0 ≤ j → j < 200 → 0 ≤ costW_0 j ∧ costW_0 j ≤ 72) (hK_0_86 : ∀ j : Int, 0 ≤ j → j < 200 → 0 ≤ costPlain_0 j ∧ costPlain_0 j ≤ 1) (hK_0_87 : ∀ j : Int, 0 ≤ j → j < 200 → 0 ≤ apartA_0 j ∧ apartA_0 j ≤ 75) (hK_0_88 : ∀ j : Int, 0 ≤ j → j < 200 → 0 ≤ apartB_0 j ∧ apartB_0 j ≤ 75) (hK_0_89 : ∀ j : Int, 0 ≤ j → j < 200 → 0 ≤ apart_0 j ∧ apart_0 j ≤ 202) (hK_0_95 : ∀ j : Int, 0 ≤ j → j < 48 → 0 ≤ turned_0 j ∧ turned_0 j ≤ 1) (hK_0_110 : ∀ j : Int, 0 ≤ j → j < 8 → 0 ≤ permBegin_0 j ∧ permBegin_0 j ≤ 5500) (hK_0_111 : ∀ j : Int, 0 ≤ j → j < 8 → 0 ≤ permMany_0 j ∧ permMany_0 j ≤ 720) (hK_0_112 : ∀ j : Int, 0 ≤ j → j < 6000 → 0 ≤ perm_0 j ∧ perm_0 j ≤ 5) (kz_0_79 : 0 ≤ pointMany_0 ∧ pointMany_0 ≤ 76) (kz_0_80 : 0 ≤ costMany_0 ∧ costMany_0 ≤ 200) (kz_0_81 : 0 ≤ apartMany_0 ∧ apartMany_0 ≤ 200) (ex2 : gx = x2) (ex3 : 0 ≤ gx ∧ gx ≤ 199) : 1 * gx + ((-1) * x2 + 0) ≤ 0 := by
  try simp only [Int.add_zero] at *
  first
    | omega
    | (have h := ‹SGR _ _›.1; omega)
    | (have h := ‹LSA _ _ _ _ _ _ _ _ _ _›.2.1; have h2 := ‹LSA _ _ _ _ _ _ _ _ _ _›.2.2.1 0 (by omega) (by omega); omega)
set_option maxHeartbeats 4000000 in
theorem vc_Mo_layers_4_1 (x2 : Int) (x3 : Int) (x4 : Int) (x5 : Int) (x8 : Int) (x9 : Int) (x10 : Int) (x11 : Int) (all_0 : Int → Int) (turned_0 : Int → Int) (r_0 : Int) (permBegin_0 : Int → Int) (permMany_0 : Int → Int) (perm_0 : Int → Int) (pointMany_0 : Int) (apartMany_0 : Int) (costMany_0 : Int) (costA_0 : Int → Int) (costB_0 : Int → Int) (costW_0 : Int → Int) (costPlain_0 : Int → Int) (apartA_0 : Int → Int) (apartB_0 : Int → Int) (apart_0 : Int → Int) (gx : Int) (k2 : 0 ≤ x2 ∧ x2 ≤ 47) (k3 : 1 ≤ x3 ∧ x3 ≤ 48) (k4 : 0 ≤ x4 ∧ x4 ≤ 23) (k5 : 0 ≤ x5 ∧ x5 ≤ 23) (k8 : 0 ≤ x8 ∧ x8 ≤ 199) (k9 : 0 ≤ x9 ∧ x9 ≤ 23) (k10 : 0 ≤ x10 ∧ x10 ≤ 23) (k11 : 1 ≤ x11 ∧ x11 ≤ 1) (d0 : x3 + (-4294967296) ≤ x2 ∧ x2 ≤ x3 + (-1)) (f0 : TOO (r_0) (all_0) (turned_0) (x2) (x10)) (f1 : FRO (r_0) (all_0) (turned_0) (x2) (x9)) (f2 : 1 * x8 + ((-1) * x2 + 0) ≤ 0) (f3 : (-1) * x8 + (1 * x2 + 0) ≤ 0) (f4 : FRO (r_0) (all_0) (turned_0) (x8) (x4)) (f5 : TOO (r_0) (all_0) (turned_0) (x8) (x5)) (f6 : TOO (r_0) (all_0) (turned_0) (x2) (x5)) (f7 : FRO (r_0) (all_0) (turned_0) (x2) (x4)) (f8 : 1 * x3 + ((-1) * all_0 (r_0 + 1) + 0) ≤ 0) (f9 : (-1) * x3 + (1 * all_0 (r_0 + 1) + 0) ≤ 0) (f10 : PTB (permBegin_0) (permMany_0) (perm_0)) (f11 : SGR (r_0) (all_0)) (f12 : 1 ≤ all_0 (r_0)) (f13 : x2 ≤ all_0 ((r_0 + 1))) (f14 : TRK (r_0) (all_0) (turned_0)) (f15 : pointMany_0 = all_0 (r_0)) (f16 : apartMany_0 = x2) (f17 : costMany_0 = (x8 + 1)) (f18 : LCP (r_0) (costMany_0) (apartMany_0) (all_0) (turned_0) (costA_0) (costB_0) (costW_0) (costPlain_0) (apartA_0) (apartB_0) (apart_0)) (f20 : 1 * x8 + ((-1) * x2 + 0) ≤ 0) (f21 : (-1) * x8 + (1 * x2 + 0) ≤ 0) (f22 : x2 < x3) (hK_0_83 : ∀ j : Int, 0 ≤ j → j < 200 → 0 ≤ costA_0 j ∧ costA_0 j ≤ 75) (hK_0_84 : ∀ j : Int, 0 ≤ j → j < 200 → 0 ≤ costB_0 j ∧ costB_0 j ≤ 75) (hK_0_85 : ∀ j : Int, 0 ≤ j → j < 200 → 0 ≤ costW_0 j ∧ costW_0 j ≤ 72) (hK_0_86 : ∀ j : Int, 0 ≤ j → j < 200 → 0 ≤ costPlain_0 j ∧ costPlain_0 j ≤ 1) (hK_0_87 : ∀ j : Int, 0 ≤ j → j < 200 → 0 ≤ apartA_0 j ∧ apartA_0 j ≤ 75) (hK_0_88 : ∀ j : Int, 0 ≤ j → j < 200 → 0 ≤ apartB_0 j ∧ apartB_0 j ≤ 75) (hK_0_89 : ∀ j : Int, 0 ≤ j → j < 200 → 0 ≤ apart_0 j ∧ apart_0 j ≤ 202) (hK_0_95 : ∀ j : Int, 0 ≤ j → j < 48 → 0 ≤ turned_0 j ∧ turned_0 j ≤ 1) (hK_0_110 : ∀ j : Int, 0 ≤ j → j < 8 → 0 ≤ permBegin_0 j ∧ permBegin_0 j ≤ 5500) (hK_0_111 : ∀ j : Int, 0 ≤ j → j < 8 → 0 ≤ permMany_0 j ∧ permMany_0 j ≤ 720) (hK_0_112 : ∀ j : Int, 0 ≤ j → j < 6000 → 0 ≤ perm_0 j ∧ perm_0 j ≤ 5) (kz_0_79 : 0 ≤ pointMany_0 ∧ pointMany_0 ≤ 76) (kz_0_80 : 0 ≤ costMany_0 ∧ costMany_0 ≤ 200) (kz_0_81 : 0 ≤ apartMany_0 ∧ apartMany_0 ≤ 200) (ex2 : gx = x2) (ex3 : 0 ≤ gx ∧ gx ≤ 199) : (-1) * gx + (1 * x2 + 0) ≤ 0 := by
  try simp only [Int.add_zero] at *
  first
    | omega
    | (have h := ‹SGR _ _›.1; omega)
    | (have h := ‹LSA _ _ _ _ _ _ _ _ _ _›.2.1; have h2 := ‹LSA _ _ _ _ _ _ _ _ _ _›.2.2.1 0 (by omega) (by omega); omega)
set_option maxHeartbeats 4000000 in
theorem vc_Mo_layers_4_2 (x2 : Int) (x3 : Int) (x4 : Int) (x5 : Int) (x8 : Int) (x9 : Int) (x10 : Int) (x11 : Int) (all_0 : Int → Int) (turned_0 : Int → Int) (r_0 : Int) (permBegin_0 : Int → Int) (permMany_0 : Int → Int) (perm_0 : Int → Int) (pointMany_0 : Int) (apartMany_0 : Int) (costMany_0 : Int) (costA_0 : Int → Int) (costB_0 : Int → Int) (costW_0 : Int → Int) (costPlain_0 : Int → Int) (apartA_0 : Int → Int) (apartB_0 : Int → Int) (apart_0 : Int → Int) (gx : Int) (k2 : 0 ≤ x2 ∧ x2 ≤ 47) (k3 : 1 ≤ x3 ∧ x3 ≤ 48) (k4 : 0 ≤ x4 ∧ x4 ≤ 23) (k5 : 0 ≤ x5 ∧ x5 ≤ 23) (k8 : 0 ≤ x8 ∧ x8 ≤ 199) (k9 : 0 ≤ x9 ∧ x9 ≤ 23) (k10 : 0 ≤ x10 ∧ x10 ≤ 23) (k11 : 1 ≤ x11 ∧ x11 ≤ 1) (d0 : x3 + (-4294967296) ≤ x2 ∧ x2 ≤ x3 + (-1)) (f0 : TOO (r_0) (all_0) (turned_0) (x2) (x10)) (f1 : FRO (r_0) (all_0) (turned_0) (x2) (x9)) (f2 : 1 * x8 + ((-1) * x2 + 0) ≤ 0) (f3 : (-1) * x8 + (1 * x2 + 0) ≤ 0) (f4 : FRO (r_0) (all_0) (turned_0) (x8) (x4)) (f5 : TOO (r_0) (all_0) (turned_0) (x8) (x5)) (f6 : TOO (r_0) (all_0) (turned_0) (x2) (x5)) (f7 : FRO (r_0) (all_0) (turned_0) (x2) (x4)) (f8 : 1 * x3 + ((-1) * all_0 (r_0 + 1) + 0) ≤ 0) (f9 : (-1) * x3 + (1 * all_0 (r_0 + 1) + 0) ≤ 0) (f10 : PTB (permBegin_0) (permMany_0) (perm_0)) (f11 : SGR (r_0) (all_0)) (f12 : 1 ≤ all_0 (r_0)) (f13 : x2 ≤ all_0 ((r_0 + 1))) (f14 : TRK (r_0) (all_0) (turned_0)) (f15 : pointMany_0 = all_0 (r_0)) (f16 : apartMany_0 = x2) (f17 : costMany_0 = (x8 + 1)) (f18 : LCP (r_0) (costMany_0) (apartMany_0) (all_0) (turned_0) (costA_0) (costB_0) (costW_0) (costPlain_0) (apartA_0) (apartB_0) (apart_0)) (f20 : 1 * x8 + ((-1) * x2 + 0) ≤ 0) (f21 : (-1) * x8 + (1 * x2 + 0) ≤ 0) (f22 : x2 < x3) (hK_0_83 : ∀ j : Int, 0 ≤ j → j < 200 → 0 ≤ costA_0 j ∧ costA_0 j ≤ 75) (hK_0_84 : ∀ j : Int, 0 ≤ j → j < 200 → 0 ≤ costB_0 j ∧ costB_0 j ≤ 75) (hK_0_85 : ∀ j : Int, 0 ≤ j → j < 200 → 0 ≤ costW_0 j ∧ costW_0 j ≤ 72) (hK_0_86 : ∀ j : Int, 0 ≤ j → j < 200 → 0 ≤ costPlain_0 j ∧ costPlain_0 j ≤ 1) (hK_0_87 : ∀ j : Int, 0 ≤ j → j < 200 → 0 ≤ apartA_0 j ∧ apartA_0 j ≤ 75) (hK_0_88 : ∀ j : Int, 0 ≤ j → j < 200 → 0 ≤ apartB_0 j ∧ apartB_0 j ≤ 75) (hK_0_89 : ∀ j : Int, 0 ≤ j → j < 200 → 0 ≤ apart_0 j ∧ apart_0 j ≤ 202) (hK_0_95 : ∀ j : Int, 0 ≤ j → j < 48 → 0 ≤ turned_0 j ∧ turned_0 j ≤ 1) (hK_0_110 : ∀ j : Int, 0 ≤ j → j < 8 → 0 ≤ permBegin_0 j ∧ permBegin_0 j ≤ 5500) (hK_0_111 : ∀ j : Int, 0 ≤ j → j < 8 → 0 ≤ permMany_0 j ∧ permMany_0 j ≤ 720) (hK_0_112 : ∀ j : Int, 0 ≤ j → j < 6000 → 0 ≤ perm_0 j ∧ perm_0 j ≤ 5) (kz_0_79 : 0 ≤ pointMany_0 ∧ pointMany_0 ≤ 76) (kz_0_80 : 0 ≤ costMany_0 ∧ costMany_0 ≤ 200) (kz_0_81 : 0 ≤ apartMany_0 ∧ apartMany_0 ≤ 200) (ex2 : gx = x2) (ex3 : 0 ≤ gx ∧ gx ≤ 199) : apartMany_0 = gx := by
  try simp only [Int.add_zero] at *
  first
    | omega
    | (have h := ‹SGR _ _›.1; omega)
    | (have h := ‹LSA _ _ _ _ _ _ _ _ _ _›.2.1; have h2 := ‹LSA _ _ _ _ _ _ _ _ _ _›.2.2.1 0 (by omega) (by omega); omega)
set_option maxHeartbeats 4000000 in
theorem vc_Mo_layers_4_3 (x2 : Int) (x3 : Int) (x4 : Int) (x5 : Int) (x8 : Int) (x9 : Int) (x10 : Int) (x11 : Int) (all_0 : Int → Int) (turned_0 : Int → Int) (r_0 : Int) (permBegin_0 : Int → Int) (permMany_0 : Int → Int) (perm_0 : Int → Int) (pointMany_0 : Int) (apartMany_0 : Int) (costMany_0 : Int) (costA_0 : Int → Int) (costB_0 : Int → Int) (costW_0 : Int → Int) (costPlain_0 : Int → Int) (apartA_0 : Int → Int) (apartB_0 : Int → Int) (apart_0 : Int → Int) (gx : Int) (k2 : 0 ≤ x2 ∧ x2 ≤ 47) (k3 : 1 ≤ x3 ∧ x3 ≤ 48) (k4 : 0 ≤ x4 ∧ x4 ≤ 23) (k5 : 0 ≤ x5 ∧ x5 ≤ 23) (k8 : 0 ≤ x8 ∧ x8 ≤ 199) (k9 : 0 ≤ x9 ∧ x9 ≤ 23) (k10 : 0 ≤ x10 ∧ x10 ≤ 23) (k11 : 1 ≤ x11 ∧ x11 ≤ 1) (d0 : x3 + (-4294967296) ≤ x2 ∧ x2 ≤ x3 + (-1)) (f0 : TOO (r_0) (all_0) (turned_0) (x2) (x10)) (f1 : FRO (r_0) (all_0) (turned_0) (x2) (x9)) (f2 : 1 * x8 + ((-1) * x2 + 0) ≤ 0) (f3 : (-1) * x8 + (1 * x2 + 0) ≤ 0) (f4 : FRO (r_0) (all_0) (turned_0) (x8) (x4)) (f5 : TOO (r_0) (all_0) (turned_0) (x8) (x5)) (f6 : TOO (r_0) (all_0) (turned_0) (x2) (x5)) (f7 : FRO (r_0) (all_0) (turned_0) (x2) (x4)) (f8 : 1 * x3 + ((-1) * all_0 (r_0 + 1) + 0) ≤ 0) (f9 : (-1) * x3 + (1 * all_0 (r_0 + 1) + 0) ≤ 0) (f10 : PTB (permBegin_0) (permMany_0) (perm_0)) (f11 : SGR (r_0) (all_0)) (f12 : 1 ≤ all_0 (r_0)) (f13 : x2 ≤ all_0 ((r_0 + 1))) (f14 : TRK (r_0) (all_0) (turned_0)) (f15 : pointMany_0 = all_0 (r_0)) (f16 : apartMany_0 = x2) (f17 : costMany_0 = (x8 + 1)) (f18 : LCP (r_0) (costMany_0) (apartMany_0) (all_0) (turned_0) (costA_0) (costB_0) (costW_0) (costPlain_0) (apartA_0) (apartB_0) (apart_0)) (f20 : 1 * x8 + ((-1) * x2 + 0) ≤ 0) (f21 : (-1) * x8 + (1 * x2 + 0) ≤ 0) (f22 : x2 < x3) (hK_0_83 : ∀ j : Int, 0 ≤ j → j < 200 → 0 ≤ costA_0 j ∧ costA_0 j ≤ 75) (hK_0_84 : ∀ j : Int, 0 ≤ j → j < 200 → 0 ≤ costB_0 j ∧ costB_0 j ≤ 75) (hK_0_85 : ∀ j : Int, 0 ≤ j → j < 200 → 0 ≤ costW_0 j ∧ costW_0 j ≤ 72) (hK_0_86 : ∀ j : Int, 0 ≤ j → j < 200 → 0 ≤ costPlain_0 j ∧ costPlain_0 j ≤ 1) (hK_0_87 : ∀ j : Int, 0 ≤ j → j < 200 → 0 ≤ apartA_0 j ∧ apartA_0 j ≤ 75) (hK_0_88 : ∀ j : Int, 0 ≤ j → j < 200 → 0 ≤ apartB_0 j ∧ apartB_0 j ≤ 75) (hK_0_89 : ∀ j : Int, 0 ≤ j → j < 200 → 0 ≤ apart_0 j ∧ apart_0 j ≤ 202) (hK_0_95 : ∀ j : Int, 0 ≤ j → j < 48 → 0 ≤ turned_0 j ∧ turned_0 j ≤ 1) (hK_0_110 : ∀ j : Int, 0 ≤ j → j < 8 → 0 ≤ permBegin_0 j ∧ permBegin_0 j ≤ 5500) (hK_0_111 : ∀ j : Int, 0 ≤ j → j < 8 → 0 ≤ permMany_0 j ∧ permMany_0 j ≤ 720) (hK_0_112 : ∀ j : Int, 0 ≤ j → j < 6000 → 0 ≤ perm_0 j ∧ perm_0 j ≤ 5) (kz_0_79 : 0 ≤ pointMany_0 ∧ pointMany_0 ≤ 76) (kz_0_80 : 0 ≤ costMany_0 ∧ costMany_0 ≤ 200) (kz_0_81 : 0 ≤ apartMany_0 ∧ apartMany_0 ≤ 200) (ex2 : gx = x2) (ex3 : 0 ≤ gx ∧ gx ≤ 199) : LCP (r_0) (costMany_0) (apartMany_0) (all_0) (turned_0) (costA_0) (costB_0) (costW_0) (costPlain_0) (apartA_0) (apartB_0) (apart_0) := by
  assumption
set_option maxHeartbeats 4000000 in
theorem vc_Mo_layers_4_4 (x2 : Int) (x3 : Int) (x4 : Int) (x5 : Int) (x8 : Int) (x9 : Int) (x10 : Int) (x11 : Int) (all_0 : Int → Int) (turned_0 : Int → Int) (r_0 : Int) (permBegin_0 : Int → Int) (permMany_0 : Int → Int) (perm_0 : Int → Int) (pointMany_0 : Int) (apartMany_0 : Int) (costMany_0 : Int) (costA_0 : Int → Int) (costB_0 : Int → Int) (costW_0 : Int → Int) (costPlain_0 : Int → Int) (apartA_0 : Int → Int) (apartB_0 : Int → Int) (apart_0 : Int → Int) (gx : Int) (k2 : 0 ≤ x2 ∧ x2 ≤ 47) (k3 : 1 ≤ x3 ∧ x3 ≤ 48) (k4 : 0 ≤ x4 ∧ x4 ≤ 23) (k5 : 0 ≤ x5 ∧ x5 ≤ 23) (k8 : 0 ≤ x8 ∧ x8 ≤ 199) (k9 : 0 ≤ x9 ∧ x9 ≤ 23) (k10 : 0 ≤ x10 ∧ x10 ≤ 23) (k11 : 1 ≤ x11 ∧ x11 ≤ 1) (d0 : x3 + (-4294967296) ≤ x2 ∧ x2 ≤ x3 + (-1)) (f0 : TOO (r_0) (all_0) (turned_0) (x2) (x10)) (f1 : FRO (r_0) (all_0) (turned_0) (x2) (x9)) (f2 : 1 * x8 + ((-1) * x2 + 0) ≤ 0) (f3 : (-1) * x8 + (1 * x2 + 0) ≤ 0) (f4 : FRO (r_0) (all_0) (turned_0) (x8) (x4)) (f5 : TOO (r_0) (all_0) (turned_0) (x8) (x5)) (f6 : TOO (r_0) (all_0) (turned_0) (x2) (x5)) (f7 : FRO (r_0) (all_0) (turned_0) (x2) (x4)) (f8 : 1 * x3 + ((-1) * all_0 (r_0 + 1) + 0) ≤ 0) (f9 : (-1) * x3 + (1 * all_0 (r_0 + 1) + 0) ≤ 0) (f10 : PTB (permBegin_0) (permMany_0) (perm_0)) (f11 : SGR (r_0) (all_0)) (f12 : 1 ≤ all_0 (r_0)) (f13 : x2 ≤ all_0 ((r_0 + 1))) (f14 : TRK (r_0) (all_0) (turned_0)) (f15 : pointMany_0 = all_0 (r_0)) (f16 : apartMany_0 = x2) (f17 : costMany_0 = (x8 + 1)) (f18 : LCP (r_0) (costMany_0) (apartMany_0) (all_0) (turned_0) (costA_0) (costB_0) (costW_0) (costPlain_0) (apartA_0) (apartB_0) (apart_0)) (f20 : 1 * x8 + ((-1) * x2 + 0) ≤ 0) (f21 : (-1) * x8 + (1 * x2 + 0) ≤ 0) (f22 : x2 < x3) (hK_0_83 : ∀ j : Int, 0 ≤ j → j < 200 → 0 ≤ costA_0 j ∧ costA_0 j ≤ 75) (hK_0_84 : ∀ j : Int, 0 ≤ j → j < 200 → 0 ≤ costB_0 j ∧ costB_0 j ≤ 75) (hK_0_85 : ∀ j : Int, 0 ≤ j → j < 200 → 0 ≤ costW_0 j ∧ costW_0 j ≤ 72) (hK_0_86 : ∀ j : Int, 0 ≤ j → j < 200 → 0 ≤ costPlain_0 j ∧ costPlain_0 j ≤ 1) (hK_0_87 : ∀ j : Int, 0 ≤ j → j < 200 → 0 ≤ apartA_0 j ∧ apartA_0 j ≤ 75) (hK_0_88 : ∀ j : Int, 0 ≤ j → j < 200 → 0 ≤ apartB_0 j ∧ apartB_0 j ≤ 75) (hK_0_89 : ∀ j : Int, 0 ≤ j → j < 200 → 0 ≤ apart_0 j ∧ apart_0 j ≤ 202) (hK_0_95 : ∀ j : Int, 0 ≤ j → j < 48 → 0 ≤ turned_0 j ∧ turned_0 j ≤ 1) (hK_0_110 : ∀ j : Int, 0 ≤ j → j < 8 → 0 ≤ permBegin_0 j ∧ permBegin_0 j ≤ 5500) (hK_0_111 : ∀ j : Int, 0 ≤ j → j < 8 → 0 ≤ permMany_0 j ∧ permMany_0 j ≤ 720) (hK_0_112 : ∀ j : Int, 0 ≤ j → j < 6000 → 0 ≤ perm_0 j ∧ perm_0 j ≤ 5) (kz_0_79 : 0 ≤ pointMany_0 ∧ pointMany_0 ≤ 76) (kz_0_80 : 0 ≤ costMany_0 ∧ costMany_0 ≤ 200) (kz_0_81 : 0 ≤ apartMany_0 ∧ apartMany_0 ≤ 200) (ex2 : gx = x2) (ex3 : 0 ≤ gx ∧ gx ≤ 199) : FRO (r_0) (all_0) (turned_0) (gx) (x9) := by
  rw [ex2]; assumption
set_option maxHeartbeats 4000000 in
theorem vc_Mo_layers_4_5 (x2 : Int) (x3 : Int) (x4 : Int) (x5 : Int) (x8 : Int) (x9 : Int) (x10 : Int) (x11 : Int) (all_0 : Int → Int) (turned_0 : Int → Int) (r_0 : Int) (permBegin_0 : Int → Int) (permMany_0 : Int → Int) (perm_0 : Int → Int) (pointMany_0 : Int) (apartMany_0 : Int) (costMany_0 : Int) (costA_0 : Int → Int) (costB_0 : Int → Int) (costW_0 : Int → Int) (costPlain_0 : Int → Int) (apartA_0 : Int → Int) (apartB_0 : Int → Int) (apart_0 : Int → Int) (gx : Int) (k2 : 0 ≤ x2 ∧ x2 ≤ 47) (k3 : 1 ≤ x3 ∧ x3 ≤ 48) (k4 : 0 ≤ x4 ∧ x4 ≤ 23) (k5 : 0 ≤ x5 ∧ x5 ≤ 23) (k8 : 0 ≤ x8 ∧ x8 ≤ 199) (k9 : 0 ≤ x9 ∧ x9 ≤ 23) (k10 : 0 ≤ x10 ∧ x10 ≤ 23) (k11 : 1 ≤ x11 ∧ x11 ≤ 1) (d0 : x3 + (-4294967296) ≤ x2 ∧ x2 ≤ x3 + (-1)) (f0 : TOO (r_0) (all_0) (turned_0) (x2) (x10)) (f1 : FRO (r_0) (all_0) (turned_0) (x2) (x9)) (f2 : 1 * x8 + ((-1) * x2 + 0) ≤ 0) (f3 : (-1) * x8 + (1 * x2 + 0) ≤ 0) (f4 : FRO (r_0) (all_0) (turned_0) (x8) (x4)) (f5 : TOO (r_0) (all_0) (turned_0) (x8) (x5)) (f6 : TOO (r_0) (all_0) (turned_0) (x2) (x5)) (f7 : FRO (r_0) (all_0) (turned_0) (x2) (x4)) (f8 : 1 * x3 + ((-1) * all_0 (r_0 + 1) + 0) ≤ 0) (f9 : (-1) * x3 + (1 * all_0 (r_0 + 1) + 0) ≤ 0) (f10 : PTB (permBegin_0) (permMany_0) (perm_0)) (f11 : SGR (r_0) (all_0)) (f12 : 1 ≤ all_0 (r_0)) (f13 : x2 ≤ all_0 ((r_0 + 1))) (f14 : TRK (r_0) (all_0) (turned_0)) (f15 : pointMany_0 = all_0 (r_0)) (f16 : apartMany_0 = x2) (f17 : costMany_0 = (x8 + 1)) (f18 : LCP (r_0) (costMany_0) (apartMany_0) (all_0) (turned_0) (costA_0) (costB_0) (costW_0) (costPlain_0) (apartA_0) (apartB_0) (apart_0)) (f20 : 1 * x8 + ((-1) * x2 + 0) ≤ 0) (f21 : (-1) * x8 + (1 * x2 + 0) ≤ 0) (f22 : x2 < x3) (hK_0_83 : ∀ j : Int, 0 ≤ j → j < 200 → 0 ≤ costA_0 j ∧ costA_0 j ≤ 75) (hK_0_84 : ∀ j : Int, 0 ≤ j → j < 200 → 0 ≤ costB_0 j ∧ costB_0 j ≤ 75) (hK_0_85 : ∀ j : Int, 0 ≤ j → j < 200 → 0 ≤ costW_0 j ∧ costW_0 j ≤ 72) (hK_0_86 : ∀ j : Int, 0 ≤ j → j < 200 → 0 ≤ costPlain_0 j ∧ costPlain_0 j ≤ 1) (hK_0_87 : ∀ j : Int, 0 ≤ j → j < 200 → 0 ≤ apartA_0 j ∧ apartA_0 j ≤ 75) (hK_0_88 : ∀ j : Int, 0 ≤ j → j < 200 → 0 ≤ apartB_0 j ∧ apartB_0 j ≤ 75) (hK_0_89 : ∀ j : Int, 0 ≤ j → j < 200 → 0 ≤ apart_0 j ∧ apart_0 j ≤ 202) (hK_0_95 : ∀ j : Int, 0 ≤ j → j < 48 → 0 ≤ turned_0 j ∧ turned_0 j ≤ 1) (hK_0_110 : ∀ j : Int, 0 ≤ j → j < 8 → 0 ≤ permBegin_0 j ∧ permBegin_0 j ≤ 5500) (hK_0_111 : ∀ j : Int, 0 ≤ j → j < 8 → 0 ≤ permMany_0 j ∧ permMany_0 j ≤ 720) (hK_0_112 : ∀ j : Int, 0 ≤ j → j < 6000 → 0 ≤ perm_0 j ∧ perm_0 j ≤ 5) (kz_0_79 : 0 ≤ pointMany_0 ∧ pointMany_0 ≤ 76) (kz_0_80 : 0 ≤ costMany_0 ∧ costMany_0 ≤ 200) (kz_0_81 : 0 ≤ apartMany_0 ∧ apartMany_0 ≤ 200) (ex2 : gx = x2) (ex3 : 0 ≤ gx ∧ gx ≤ 199) : TOO (r_0) (all_0) (turned_0) (gx) (x10) := by
  rw [ex2]; assumption
set_option maxHeartbeats 4000000 in
theorem vc_Mo_layers_4_6 (x2 : Int) (x3 : Int) (x4 : Int) (x5 : Int) (x8 : Int) (x9 : Int) (x10 : Int) (x11 : Int) (all_0 : Int → Int) (turned_0 : Int → Int) (r_0 : Int) (permBegin_0 : Int → Int) (permMany_0 : Int → Int) (perm_0 : Int → Int) (pointMany_0 : Int) (apartMany_0 : Int) (costMany_0 : Int) (costA_0 : Int → Int) (costB_0 : Int → Int) (costW_0 : Int → Int) (costPlain_0 : Int → Int) (apartA_0 : Int → Int) (apartB_0 : Int → Int) (apart_0 : Int → Int) (gx : Int) (k2 : 0 ≤ x2 ∧ x2 ≤ 47) (k3 : 1 ≤ x3 ∧ x3 ≤ 48) (k4 : 0 ≤ x4 ∧ x4 ≤ 23) (k5 : 0 ≤ x5 ∧ x5 ≤ 23) (k8 : 0 ≤ x8 ∧ x8 ≤ 199) (k9 : 0 ≤ x9 ∧ x9 ≤ 23) (k10 : 0 ≤ x10 ∧ x10 ≤ 23) (k11 : 1 ≤ x11 ∧ x11 ≤ 1) (d0 : x3 + (-4294967296) ≤ x2 ∧ x2 ≤ x3 + (-1)) (f0 : TOO (r_0) (all_0) (turned_0) (x2) (x10)) (f1 : FRO (r_0) (all_0) (turned_0) (x2) (x9)) (f2 : 1 * x8 + ((-1) * x2 + 0) ≤ 0) (f3 : (-1) * x8 + (1 * x2 + 0) ≤ 0) (f4 : FRO (r_0) (all_0) (turned_0) (x8) (x4)) (f5 : TOO (r_0) (all_0) (turned_0) (x8) (x5)) (f6 : TOO (r_0) (all_0) (turned_0) (x2) (x5)) (f7 : FRO (r_0) (all_0) (turned_0) (x2) (x4)) (f8 : 1 * x3 + ((-1) * all_0 (r_0 + 1) + 0) ≤ 0) (f9 : (-1) * x3 + (1 * all_0 (r_0 + 1) + 0) ≤ 0) (f10 : PTB (permBegin_0) (permMany_0) (perm_0)) (f11 : SGR (r_0) (all_0)) (f12 : 1 ≤ all_0 (r_0)) (f13 : x2 ≤ all_0 ((r_0 + 1))) (f14 : TRK (r_0) (all_0) (turned_0)) (f15 : pointMany_0 = all_0 (r_0)) (f16 : apartMany_0 = x2) (f17 : costMany_0 = (x8 + 1)) (f18 : LCP (r_0) (costMany_0) (apartMany_0) (all_0) (turned_0) (costA_0) (costB_0) (costW_0) (costPlain_0) (apartA_0) (apartB_0) (apart_0)) (f20 : 1 * x8 + ((-1) * x2 + 0) ≤ 0) (f21 : (-1) * x8 + (1 * x2 + 0) ≤ 0) (f22 : x2 < x3) (hK_0_83 : ∀ j : Int, 0 ≤ j → j < 200 → 0 ≤ costA_0 j ∧ costA_0 j ≤ 75) (hK_0_84 : ∀ j : Int, 0 ≤ j → j < 200 → 0 ≤ costB_0 j ∧ costB_0 j ≤ 75) (hK_0_85 : ∀ j : Int, 0 ≤ j → j < 200 → 0 ≤ costW_0 j ∧ costW_0 j ≤ 72) (hK_0_86 : ∀ j : Int, 0 ≤ j → j < 200 → 0 ≤ costPlain_0 j ∧ costPlain_0 j ≤ 1) (hK_0_87 : ∀ j : Int, 0 ≤ j → j < 200 → 0 ≤ apartA_0 j ∧ apartA_0 j ≤ 75) (hK_0_88 : ∀ j : Int, 0 ≤ j → j < 200 → 0 ≤ apartB_0 j ∧ apartB_0 j ≤ 75) (hK_0_89 : ∀ j : Int, 0 ≤ j → j < 200 → 0 ≤ apart_0 j ∧ apart_0 j ≤ 202) (hK_0_95 : ∀ j : Int, 0 ≤ j → j < 48 → 0 ≤ turned_0 j ∧ turned_0 j ≤ 1) (hK_0_110 : ∀ j : Int, 0 ≤ j → j < 8 → 0 ≤ permBegin_0 j ∧ permBegin_0 j ≤ 5500) (hK_0_111 : ∀ j : Int, 0 ≤ j → j < 8 → 0 ≤ permMany_0 j ∧ permMany_0 j ≤ 720) (hK_0_112 : ∀ j : Int, 0 ≤ j → j < 6000 → 0 ≤ perm_0 j ∧ perm_0 j ≤ 5) (kz_0_79 : 0 ≤ pointMany_0 ∧ pointMany_0 ≤ 76) (kz_0_80 : 0 ≤ costMany_0 ∧ costMany_0 ≤ 200) (kz_0_81 : 0 ≤ apartMany_0 ∧ apartMany_0 ≤ 200) (ex2 : gx = x2) (ex3 : 0 ≤ gx ∧ gx ≤ 199) : x11 = 1 := by
  try simp only [Int.add_zero] at *
  first
    | omega
    | (have h := ‹SGR _ _›.1; omega)
    | (have h := ‹LSA _ _ _ _ _ _ _ _ _ _›.2.1; have h2 := ‹LSA _ _ _ _ _ _ _ _ _ _›.2.2.1 0 (by omega) (by omega); omega)
def o_Mo_layers_4 : or_T := (64, 12, [(0, (2, 0, 0, [150])), (2, (0, 0, 47, [])), (3, (0, 1, 48, [])), (4, (0, 0, 23, [])), (5, (0, 0, 23, [])), (8, (0, 0, 199, [])), (9, (0, 0, 23, [])), (10, (0, 0, 23, [])), (11, (0, 1, 1, []))], [(20, [0, 2, 10], [60, 1, 2, 357, 5, 2, 95]), (20, [0, 2, 9], [60, 1, 2, 356, 5, 2, 95]), (23, [8, 2], [0, 1, -1]), (23, [8, 2], [0, -1, 1]), (20, [0, 8, 4], [60, 1, 2, 356, 5, 2, 95]), (20, [0, 8, 5], [60, 1, 2, 357, 5, 2, 95]), (20, [0, 2, 5], [60, 1, 2, 357, 5, 2, 95]), (20, [0, 2, 4], [60, 1, 2, 356, 5, 2, 95]), (20, [3, 0], [30, 0, 1, 0, 0, -1, 3, 2005001]), (20, [3, 0], [30, 0, -1, 0, 0, 1, 3, 2005001]), (20, [0], [60, 0, 3, 291, 110, 111, 112]), (20, [0], [60, 1, 1, 122, 5, 2]), (20, [0], [50, 1, 1, 5, 2, 0, 2, 0, 1, 3, 0, 2, 2, 0, 5]), (20, [2, 0], [50, 1, 1, 1005, 1002, 0, 2, 1, 0, 3, 1, 2, 4, 3, 2, 1, 5, 0, 1]), (20, [0], [60, 1, 2, 290, 5, 2, 95]), (20, [0], [50, 2, 1, 79, 5, 2, 1, 3, 2, 0, 79, 3, 0, 2, 2, 0, 5]), (20, [0, 2], [50, 1, 0, 81, 1, 3, 2, 0, 81, 1, 1]), (20, [0, 8], [50, 1, 0, 80, 1, 3, 2, 0, 80, 4, 2, 1, 1, 0, 1]), (20, [0], [60, 3, 9, 358, 5, 80, 81, 2, 95, 83, 84, 85, 86, 87, 88, 89]), (102, [8], [771330261244315332260141804323758049210657437015740560944660480, 13080]), (23, [8, 2], [0, 1, -1]), (23, [8, 2], [0, -1, 1]), (7, [2, 3], [2])], [], [(0, 0, 199, [])], [(23, [12, 2], [0, 1, -1]), (23, [12, 2], [0, -1, 1]), (20, [0, 12], [50, 1, 0, 81, 1, 3, 2, 0, 81, 1, 1]), (20, [0], [60, 3, 9, 358, 5, 80, 81, 2, 95, 83, 84, 85, 86, 87, 88, 89]), (20, [0, 12, 9], [60, 1, 2, 356, 5, 2, 95]), (20, [0, 12, 10], [60, 1, 2, 357, 5, 2, 95]), (20, [11], [50, 0, 0, 1, 2, 1, 0, 0, 1])], [], [(2, 3, -4294967296, -1)])
theorem oo_Mo_layers_4 {kA : Nat → ClassId} : or_ok PRD kA GG o_Mo_layers_4 := by
  intro A ta ws vs hD hth hl hk hds hf
  have hl : vs.length = 12 := hl
  have hk : ∀ q ∈ ([(0, (2, 0, 0, [150])), (2, (0, 0, 47, [])), (3, (0, 1, 48, [])), (4, (0, 0, 23, [])), (5, (0, 0, 23, [])), (8, (0, 0, 199, [])), (9, (0, 0, 23, [])), (10, (0, 0, 23, [])), (11, (0, 1, 1, []))] : List (Nat × tv_T)), tv_ok ta q.2 (n_v vs q.1) := hk
  obtain ⟨t0, hk⟩ := List.forall_mem_cons.mp hk
  have t0 : tv_ok ta (2, 0, 0, [150]) (n_v vs 0) := t0
  have r0 : ta (v_ad (n_v vs 0)) = some 150 := tv_rg t0
  obtain ⟨t2, hk⟩ := List.forall_mem_cons.mp hk
  have t2 : tv_ok ta (0, 0, 47, []) (n_v vs 2) := t2
  have k2 : 0 ≤ v_iv (n_v vs 2) ∧ v_iv (n_v vs 2) ≤ 47 := tv_rng t2
  obtain ⟨t3, hk⟩ := List.forall_mem_cons.mp hk
  have t3 : tv_ok ta (0, 1, 48, []) (n_v vs 3) := t3
  have k3 : 1 ≤ v_iv (n_v vs 3) ∧ v_iv (n_v vs 3) ≤ 48 := tv_rng t3
  obtain ⟨t4, hk⟩ := List.forall_mem_cons.mp hk
  have t4 : tv_ok ta (0, 0, 23, []) (n_v vs 4) := t4
  have k4 : 0 ≤ v_iv (n_v vs 4) ∧ v_iv (n_v vs 4) ≤ 23 := tv_rng t4
  obtain ⟨t5, hk⟩ := List.forall_mem_cons.mp hk
  have t5 : tv_ok ta (0, 0, 23, []) (n_v vs 5) := t5
  have k5 : 0 ≤ v_iv (n_v vs 5) ∧ v_iv (n_v vs 5) ≤ 23 := tv_rng t5
  obtain ⟨t8, hk⟩ := List.forall_mem_cons.mp hk
  have t8 : tv_ok ta (0, 0, 199, []) (n_v vs 8) := t8
  have k8 : 0 ≤ v_iv (n_v vs 8) ∧ v_iv (n_v vs 8) ≤ 199 := tv_rng t8
  obtain ⟨t9, hk⟩ := List.forall_mem_cons.mp hk
  have t9 : tv_ok ta (0, 0, 23, []) (n_v vs 9) := t9
  have k9 : 0 ≤ v_iv (n_v vs 9) ∧ v_iv (n_v vs 9) ≤ 23 := tv_rng t9
  obtain ⟨t10, hk⟩ := List.forall_mem_cons.mp hk
  have t10 : tv_ok ta (0, 0, 23, []) (n_v vs 10) := t10
  have k10 : 0 ≤ v_iv (n_v vs 10) ∧ v_iv (n_v vs 10) ≤ 23 := tv_rng t10
  obtain ⟨t11, hk⟩ := List.forall_mem_cons.mp hk
  have t11 : tv_ok ta (0, 1, 1, []) (n_v vs 11) := t11
  have k11 : 1 ≤ v_iv (n_v vs 11) ∧ v_iv (n_v vs 11) ≤ 1 := tv_rng t11
  have hds : ∀ q ∈ ([(2, 3, -4294967296, -1)] : List of_T), n_iv vs q.2.1 + q.2.2.1 ≤ n_iv vs q.1 ∧ n_iv vs q.1 ≤ n_iv vs q.2.1 + q.2.2.2 := hds
  obtain ⟨d0, hds⟩ := List.forall_mem_cons.mp hds
  have d0 : v_iv (n_v vs 3) + (-4294967296) ≤ v_iv (n_v vs 2) ∧ v_iv (n_v vs 2) ≤ v_iv (n_v vs 3) + (-1) := d0
  have hf : fc_ok PRD [(20, [0, 2, 10], [60, 1, 2, 357, 5, 2, 95]), (20, [0, 2, 9], [60, 1, 2, 356, 5, 2, 95]), (23, [8, 2], [0, 1, -1]), (23, [8, 2], [0, -1, 1]), (20, [0, 8, 4], [60, 1, 2, 356, 5, 2, 95]), (20, [0, 8, 5], [60, 1, 2, 357, 5, 2, 95]), (20, [0, 2, 5], [60, 1, 2, 357, 5, 2, 95]), (20, [0, 2, 4], [60, 1, 2, 356, 5, 2, 95]), (20, [3, 0], [30, 0, 1, 0, 0, -1, 3, 2005001]), (20, [3, 0], [30, 0, -1, 0, 0, 1, 3, 2005001]), (20, [0], [60, 0, 3, 291, 110, 111, 112]), (20, [0], [60, 1, 1, 122, 5, 2]), (20, [0], [50, 1, 1, 5, 2, 0, 2, 0, 1, 3, 0, 2, 2, 0, 5]), (20, [2, 0], [50, 1, 1, 1005, 1002, 0, 2, 1, 0, 3, 1, 2, 4, 3, 2, 1, 5, 0, 1]), (20, [0], [60, 1, 2, 290, 5, 2, 95]), (20, [0], [50, 2, 1, 79, 5, 2, 1, 3, 2, 0, 79, 3, 0, 2, 2, 0, 5]), (20, [0, 2], [50, 1, 0, 81, 1, 3, 2, 0, 81, 1, 1]), (20, [0, 8], [50, 1, 0, 80, 1, 3, 2, 0, 80, 4, 2, 1, 1, 0, 1]), (20, [0], [60, 3, 9, 358, 5, 80, 81, 2, 95, 83, 84, 85, 86, 87, 88, 89]), (102, [8], [771330261244315332260141804323758049210657437015740560944660480, 13080]), (23, [8, 2], [0, 1, -1]), (23, [8, 2], [0, -1, 1]), (7, [2, 3], [2])] ta ws vs := hf
  obtain ⟨f0, hf⟩ := fc_un (show (20 : Nat) < 100 from by decide) hf
  have f0 : TOO (w_fi ws (n_v vs 0) 5) (w_ei ws (w_ar ws (n_v vs 0) 2)) (w_ei ws (w_ar ws (n_v vs 0) 95)) (v_iv (n_v vs 2)) (v_iv (n_v vs 10)) := f0
  obtain ⟨f1, hf⟩ := fc_un (show (20 : Nat) < 100 from by decide) hf
  have f1 : FRO (w_fi ws (n_v vs 0) 5) (w_ei ws (w_ar ws (n_v vs 0) 2)) (w_ei ws (w_ar ws (n_v vs 0) 95)) (v_iv (n_v vs 2)) (v_iv (n_v vs 9)) := f1
  obtain ⟨f2, hf⟩ := fc_un (show (23 : Nat) < 100 from by decide) hf
  have f2 : 1 * v_iv (n_v vs 8) + ((-1) * v_iv (n_v vs 2) + 0) ≤ 0 := f2
  obtain ⟨f3, hf⟩ := fc_un (show (23 : Nat) < 100 from by decide) hf
  have f3 : (-1) * v_iv (n_v vs 8) + (1 * v_iv (n_v vs 2) + 0) ≤ 0 := f3
  obtain ⟨f4, hf⟩ := fc_un (show (20 : Nat) < 100 from by decide) hf
  have f4 : FRO (w_fi ws (n_v vs 0) 5) (w_ei ws (w_ar ws (n_v vs 0) 2)) (w_ei ws (w_ar ws (n_v vs 0) 95)) (v_iv (n_v vs 8)) (v_iv (n_v vs 4)) := f4
  obtain ⟨f5, hf⟩ := fc_un (show (20 : Nat) < 100 from by decide) hf
  have f5 : TOO (w_fi ws (n_v vs 0) 5) (w_ei ws (w_ar ws (n_v vs 0) 2)) (w_ei ws (w_ar ws (n_v vs 0) 95)) (v_iv (n_v vs 8)) (v_iv (n_v vs 5)) := f5
  obtain ⟨f6, hf⟩ := fc_un (show (20 : Nat) < 100 from by decide) hf
  have f6 : TOO (w_fi ws (n_v vs 0) 5) (w_ei ws (w_ar ws (n_v vs 0) 2)) (w_ei ws (w_ar ws (n_v vs 0) 95)) (v_iv (n_v vs 2)) (v_iv (n_v vs 5)) := f6
  obtain ⟨f7, hf⟩ := fc_un (show (20 : Nat) < 100 from by decide) hf
  have f7 : FRO (w_fi ws (n_v vs 0) 5) (w_ei ws (w_ar ws (n_v vs 0) 2)) (w_ei ws (w_ar ws (n_v vs 0) 95)) (v_iv (n_v vs 2)) (v_iv (n_v vs 4)) := f7
  obtain ⟨f8, hf⟩ := fc_un (show (20 : Nat) < 100 from by decide) hf
  have f8 : 1 * v_iv (n_v vs 3) + ((-1) * w_el ws (w_ar ws (n_v vs 0) 2) (w_fi ws (n_v vs 0) 5 + 1).toNat + 0) ≤ 0 := f8
  obtain ⟨f9, hf⟩ := fc_un (show (20 : Nat) < 100 from by decide) hf
  have f9 : (-1) * v_iv (n_v vs 3) + (1 * w_el ws (w_ar ws (n_v vs 0) 2) (w_fi ws (n_v vs 0) 5 + 1).toNat + 0) ≤ 0 := f9
  obtain ⟨f10, hf⟩ := fc_un (show (20 : Nat) < 100 from by decide) hf
  have f10 : PTB (w_ei ws (w_ar ws (n_v vs 0) 110)) (w_ei ws (w_ar ws (n_v vs 0) 111)) (w_ei ws (w_ar ws (n_v vs 0) 112)) := f10
  obtain ⟨f11, hf⟩ := fc_un (show (20 : Nat) < 100 from by decide) hf
  have f11 : SGR (w_fi ws (n_v vs 0) 5) (w_ei ws (w_ar ws (n_v vs 0) 2)) := f11
  obtain ⟨f12, hf⟩ := fc_un (show (20 : Nat) < 100 from by decide) hf
  have f12 : 1 ≤ w_ei ws (w_ar ws (n_v vs 0) 2) (w_fi ws (n_v vs 0) 5) := f12
  obtain ⟨f13, hf⟩ := fc_un (show (20 : Nat) < 100 from by decide) hf
  have f13 : v_iv (n_v vs 2) ≤ w_ei ws (w_ar ws (n_v vs 0) 2) ((w_fi ws (n_v vs 0) 5 + 1)) := f13
  obtain ⟨f14, hf⟩ := fc_un (show (20 : Nat) < 100 from by decide) hf
  have f14 : TRK (w_fi ws (n_v vs 0) 5) (w_ei ws (w_ar ws (n_v vs 0) 2)) (w_ei ws (w_ar ws (n_v vs 0) 95)) := f14
  obtain ⟨f15, hf⟩ := fc_un (show (20 : Nat) < 100 from by decide) hf
  have f15 : w_fi ws (n_v vs 0) 79 = w_ei ws (w_ar ws (n_v vs 0) 2) (w_fi ws (n_v vs 0) 5) := f15
  obtain ⟨f16, hf⟩ := fc_un (show (20 : Nat) < 100 from by decide) hf
  have f16 : w_fi ws (n_v vs 0) 81 = v_iv (n_v vs 2) := f16
  obtain ⟨f17, hf⟩ := fc_un (show (20 : Nat) < 100 from by decide) hf
  have f17 : w_fi ws (n_v vs 0) 80 = (v_iv (n_v vs 8) + 1) := f17
  obtain ⟨f18, hf⟩ := fc_un (show (20 : Nat) < 100 from by decide) hf
  have f18 : LCP (w_fi ws (n_v vs 0) 5) (w_fi ws (n_v vs 0) 80) (w_fi ws (n_v vs 0) 81) (w_ei ws (w_ar ws (n_v vs 0) 2)) (w_ei ws (w_ar ws (n_v vs 0) 95)) (w_ei ws (w_ar ws (n_v vs 0) 83)) (w_ei ws (w_ar ws (n_v vs 0) 84)) (w_ei ws (w_ar ws (n_v vs 0) 85)) (w_ei ws (w_ar ws (n_v vs 0) 86)) (w_ei ws (w_ar ws (n_v vs 0) 87)) (w_ei ws (w_ar ws (n_v vs 0) 88)) (w_ei ws (w_ar ws (n_v vs 0) 89)) := f18
  obtain ⟨ta1, w1, le1, ⟨_, s1⟩, hf⟩ := fc_us (show ¬ (102 : Nat) < 100 from by decide) hf
  obtain ⟨f20, hf⟩ := fc_un (show (23 : Nat) < 100 from by decide) hf
  have f20 : 1 * v_iv (n_v vs 8) + ((-1) * v_iv (n_v vs 2) + 0) ≤ 0 := f20
  obtain ⟨f21, hf⟩ := fc_un (show (23 : Nat) < 100 from by decide) hf
  have f21 : (-1) * v_iv (n_v vs 8) + (1 * v_iv (n_v vs 2) + 0) ≤ 0 := f21
  obtain ⟨f22, hf⟩ := fc_un (show (7 : Nat) < 100 from by decide) hf
  have f22 : v_iv (n_v vs 2) < v_iv (n_v vs 3) := f22
  have cr_0_2 : ta (w_ar ws (n_v vs 0) 2) = some 152 := tv_rg (th_fd hD hth r0 (g := GG_150) rfl (k := 2) (t := (2, 0, 0, [152])) rfl rfl)
  have cr_0_83 : ta (w_ar ws (n_v vs 0) 83) = some 205 := tv_rg (th_fd hD hth r0 (g := GG_150) rfl (k := 83) (t := (2, 0, 0, [205])) rfl rfl)
  have cr_0_84 : ta (w_ar ws (n_v vs 0) 84) = some 206 := tv_rg (th_fd hD hth r0 (g := GG_150) rfl (k := 84) (t := (2, 0, 0, [206])) rfl rfl)
  have cr_0_85 : ta (w_ar ws (n_v vs 0) 85) = some 207 := tv_rg (th_fd hD hth r0 (g := GG_150) rfl (k := 85) (t := (2, 0, 0, [207])) rfl rfl)
  have cr_0_86 : ta (w_ar ws (n_v vs 0) 86) = some 208 := tv_rg (th_fd hD hth r0 (g := GG_150) rfl (k := 86) (t := (2, 0, 0, [208])) rfl rfl)
  have cr_0_87 : ta (w_ar ws (n_v vs 0) 87) = some 209 := tv_rg (th_fd hD hth r0 (g := GG_150) rfl (k := 87) (t := (2, 0, 0, [209])) rfl rfl)
  have cr_0_88 : ta (w_ar ws (n_v vs 0) 88) = some 210 := tv_rg (th_fd hD hth r0 (g := GG_150) rfl (k := 88) (t := (2, 0, 0, [210])) rfl rfl)
  have cr_0_89 : ta (w_ar ws (n_v vs 0) 89) = some 211 := tv_rg (th_fd hD hth r0 (g := GG_150) rfl (k := 89) (t := (2, 0, 0, [211])) rfl rfl)
  have cr_0_95 : ta (w_ar ws (n_v vs 0) 95) = some 216 := tv_rg (th_fd hD hth r0 (g := GG_150) rfl (k := 95) (t := (2, 0, 0, [216])) rfl rfl)
  have cr_0_110 : ta (w_ar ws (n_v vs 0) 110) = some 227 := tv_rg (th_fd hD hth r0 (g := GG_150) rfl (k := 110) (t := (2, 0, 0, [227])) rfl rfl)
  have cr_0_111 : ta (w_ar ws (n_v vs 0) 111) = some 228 := tv_rg (th_fd hD hth r0 (g := GG_150) rfl (k := 111) (t := (2, 0, 0, [228])) rfl rfl)
  have cr_0_112 : ta (w_ar ws (n_v vs 0) 112) = some 229 := tv_rg (th_fd hD hth r0 (g := GG_150) rfl (k := 112) (t := (2, 0, 0, [229])) rfl rfl)
  have hK_0_83 : ∀ j : Int, 0 ≤ j → j < 200 → 0 ≤ w_ei ws (w_ar ws (n_v vs 0) 83) j ∧ w_ei ws (w_ar ws (n_v vs 0) 83) j ≤ 75 := fun j h0 h1 => th_el hD hth cr_0_83 (kd := 0) (n := 200) (m := 200) (lo := 0) (hi := 75) (rs := []) (L := []) rfl (by decide) (j := j.toNat) (by omega)
  have hK_0_84 : ∀ j : Int, 0 ≤ j → j < 200 → 0 ≤ w_ei ws (w_ar ws (n_v vs 0) 84) j ∧ w_ei ws (w_ar ws (n_v vs 0) 84) j ≤ 75 := fun j h0 h1 => th_el hD hth cr_0_84 (kd := 0) (n := 200) (m := 200) (lo := 0) (hi := 75) (rs := []) (L := []) rfl (by decide) (j := j.toNat) (by omega)
  have hK_0_85 : ∀ j : Int, 0 ≤ j → j < 200 → 0 ≤ w_ei ws (w_ar ws (n_v vs 0) 85) j ∧ w_ei ws (w_ar ws (n_v vs 0) 85) j ≤ 72 := fun j h0 h1 => th_el hD hth cr_0_85 (kd := 0) (n := 200) (m := 200) (lo := 0) (hi := 72) (rs := []) (L := []) rfl (by decide) (j := j.toNat) (by omega)
  have hK_0_86 : ∀ j : Int, 0 ≤ j → j < 200 → 0 ≤ w_ei ws (w_ar ws (n_v vs 0) 86) j ∧ w_ei ws (w_ar ws (n_v vs 0) 86) j ≤ 1 := fun j h0 h1 => th_el hD hth cr_0_86 (kd := 2) (n := 200) (m := 200) (lo := 0) (hi := 1) (rs := []) (L := []) rfl (by decide) (j := j.toNat) (by omega)
  have hK_0_87 : ∀ j : Int, 0 ≤ j → j < 200 → 0 ≤ w_ei ws (w_ar ws (n_v vs 0) 87) j ∧ w_ei ws (w_ar ws (n_v vs 0) 87) j ≤ 75 := fun j h0 h1 => th_el hD hth cr_0_87 (kd := 0) (n := 200) (m := 200) (lo := 0) (hi := 75) (rs := []) (L := []) rfl (by decide) (j := j.toNat) (by omega)
  have hK_0_88 : ∀ j : Int, 0 ≤ j → j < 200 → 0 ≤ w_ei ws (w_ar ws (n_v vs 0) 88) j ∧ w_ei ws (w_ar ws (n_v vs 0) 88) j ≤ 75 := fun j h0 h1 => th_el hD hth cr_0_88 (kd := 0) (n := 200) (m := 200) (lo := 0) (hi := 75) (rs := []) (L := []) rfl (by decide) (j := j.toNat) (by omega)
  have hK_0_89 : ∀ j : Int, 0 ≤ j → j < 200 → 0 ≤ w_ei ws (w_ar ws (n_v vs 0) 89) j ∧ w_ei ws (w_ar ws (n_v vs 0) 89) j ≤ 202 := fun j h0 h1 => th_el hD hth cr_0_89 (kd := 0) (n := 200) (m := 200) (lo := 0) (hi := 202) (rs := []) (L := []) rfl (by decide) (j := j.toNat) (by omega)
  have hK_0_95 : ∀ j : Int, 0 ≤ j → j < 48 → 0 ≤ w_ei ws (w_ar ws (n_v vs 0) 95) j ∧ w_ei ws (w_ar ws (n_v vs 0) 95) j ≤ 1 := fun j h0 h1 => th_el hD hth cr_0_95 (kd := 2) (n := 48) (m := 48) (lo := 0) (hi := 1) (rs := []) (L := []) rfl (by decide) (j := j.toNat) (by omega)
  have hK_0_110 : ∀ j : Int, 0 ≤ j → j < 8 → 0 ≤ w_ei ws (w_ar ws (n_v vs 0) 110) j ∧ w_ei ws (w_ar ws (n_v vs 0) 110) j ≤ 5500 := fun j h0 h1 => th_el hD hth cr_0_110 (kd := 0) (n := 8) (m := 8) (lo := 0) (hi := 5500) (rs := []) (L := []) rfl (by decide) (j := j.toNat) (by omega)
  have hK_0_111 : ∀ j : Int, 0 ≤ j → j < 8 → 0 ≤ w_ei ws (w_ar ws (n_v vs 0) 111) j ∧ w_ei ws (w_ar ws (n_v vs 0) 111) j ≤ 720 := fun j h0 h1 => th_el hD hth cr_0_111 (kd := 0) (n := 8) (m := 8) (lo := 0) (hi := 720) (rs := []) (L := []) rfl (by decide) (j := j.toNat) (by omega)
  have hK_0_112 : ∀ j : Int, 0 ≤ j → j < 6000 → 0 ≤ w_ei ws (w_ar ws (n_v vs 0) 112) j ∧ w_ei ws (w_ar ws (n_v vs 0) 112) j ≤ 5 := fun j h0 h1 => th_el hD hth cr_0_112 (kd := 1) (n := 6000) (m := 6000) (lo := 0) (hi := 5) (rs := []) (L := []) rfl (by decide) (j := j.toNat) (by omega)
  have kz_0_79 : 0 ≤ w_fi ws (n_v vs 0) 79 ∧ w_fi ws (n_v vs 0) 79 ≤ 76 := tv_rng (th_fd hD hth r0 (g := GG_150) rfl (k := 79) (t := (0, 0, 76, [])) rfl rfl)
  have kz_0_80 : 0 ≤ w_fi ws (n_v vs 0) 80 ∧ w_fi ws (n_v vs 0) 80 ≤ 200 := tv_rng (th_fd hD hth r0 (g := GG_150) rfl (k := 80) (t := (0, 0, 200, [])) rfl rfl)
  have kz_0_81 : 0 ≤ w_fi ws (n_v vs 0) 81 ∧ w_fi ws (n_v vs 0) 81 ≤ 200 := tv_rng (th_fd hD hth r0 (g := GG_150) rfl (k := 81) (t := (0, 0, 200, [])) rfl rfl)
  obtain ⟨x, ex, hx⟩ := iv_ex (ta := ta) (lo := 0) (hi := 199) (z := v_iv (n_v vs 2)) (by omega) (by omega) (by omega) (by omega)
  have ex2 : v_iv (Value.int x) = v_iv (n_v vs 2) := ex
  have ex3 : 0 ≤ v_iv (Value.int x) ∧ v_iv (Value.int x) ≤ 199 := tv_rng hx
  have e_0 : n_v (vs ++ [Value.int x]) 0 = n_v vs 0 := n_v_old (by rw [hl]; decide)
  have e_2 : n_v (vs ++ [Value.int x]) 2 = n_v vs 2 := n_v_old (by rw [hl]; decide)
  have e_9 : n_v (vs ++ [Value.int x]) 9 = n_v vs 9 := n_v_old (by rw [hl]; decide)
  have e_10 : n_v (vs ++ [Value.int x]) 10 = n_v vs 10 := n_v_old (by rw [hl]; decide)
  have e_11 : n_v (vs ++ [Value.int x]) 11 = n_v vs 11 := n_v_old (by rw [hl]; decide)
  have e_12 : n_v (vs ++ [Value.int x]) 12 = Value.int x := n_v_new hl
  have nf0 : fc_1 PRD (23, [12, 2], [0, 1, -1]) ws (vs ++ [Value.int x]) := by
    refine ⟨fun n hn => ?_, ?_⟩
    · have hn : n ∈ [12, 2] := hn
      rw [List.length_append, hl]
      simp only [List.mem_cons, List.not_mem_nil, or_false] at hn
      show n < 12 + 1; omega
    · show 1 * v_iv (n_v (vs ++ [Value.int x]) 12) + ((-1) * v_iv (n_v (vs ++ [Value.int x]) 2) + 0) ≤ 0
      rw [e_2]
      rw [e_12]
      exact vc_Mo_layers_4_0 (v_iv (n_v vs 2)) (v_iv (n_v vs 3)) (v_iv (n_v vs 4)) (v_iv (n_v vs 5)) (v_iv (n_v vs 8)) (v_iv (n_v vs 9)) (v_iv (n_v vs 10)) (v_iv (n_v vs 11)) (w_ei ws (w_ar ws (n_v vs 0) 2)) (w_ei ws (w_ar ws (n_v vs 0) 95)) (w_fi ws (n_v vs 0) 5) (w_ei ws (w_ar ws (n_v vs 0) 110)) (w_ei ws (w_ar ws (n_v vs 0) 111)) (w_ei ws (w_ar ws (n_v vs 0) 112)) (w_fi ws (n_v vs 0) 79) (w_fi ws (n_v vs 0) 81) (w_fi ws (n_v vs 0) 80) (w_ei ws (w_ar ws (n_v vs 0) 83)) (w_ei ws (w_ar ws (n_v vs 0) 84)) (w_ei ws (w_ar ws (n_v vs 0) 85)) (w_ei ws (w_ar ws (n_v vs 0) 86)) (w_ei ws (w_ar ws (n_v vs 0) 87)) (w_ei ws (w_ar ws (n_v vs 0) 88)) (w_ei ws (w_ar ws (n_v vs 0) 89)) (v_iv (Value.int x)) k2 k3 k4 k5 k8 k9 k10 k11 d0 f0 f1 f2 f3 f4 f5 f6 f7 f8 f9 f10 f11 f12 f13 f14 f15 f16 f17 f18 f20 f21 f22 hK_0_83 hK_0_84 hK_0_85 hK_0_86 hK_0_87 hK_0_88 hK_0_89 hK_0_95 hK_0_110 hK_0_111 hK_0_112 kz_0_79 kz_0_80 kz_0_81 ex2 ex3
  have nf1 : fc_1 PRD (23, [12, 2], [0, -1, 1]) ws (vs ++ [Value.int x]) := by
    refine ⟨fun n hn => ?_, ?_⟩
    · have hn : n ∈ [12, 2] := hn
      rw [List.length_append, hl]
      simp only [List.mem_cons, List.not_mem_nil, or_false] at hn
      show n < 12 + 1; omega
    · show (-1) * v_iv (n_v (vs ++ [Value.int x]) 12) + (1 * v_iv (n_v (vs ++ [Value.int x]) 2) + 0) ≤ 0
      rw [e_2]
      rw [e_12]
      exact vc_Mo_layers_4_1 (v_iv (n_v vs 2)) (v_iv (n_v vs 3)) (v_iv (n_v vs 4)) (v_iv (n_v vs 5)) (v_iv (n_v vs 8)) (v_iv (n_v vs 9)) (v_iv (n_v vs 10)) (v_iv (n_v vs 11)) (w_ei ws (w_ar ws (n_v vs 0) 2)) (w_ei ws (w_ar ws (n_v vs 0) 95)) (w_fi ws (n_v vs 0) 5) (w_ei ws (w_ar ws (n_v vs 0) 110)) (w_ei ws (w_ar ws (n_v vs 0) 111)) (w_ei ws (w_ar ws (n_v vs 0) 112)) (w_fi ws (n_v vs 0) 79) (w_fi ws (n_v vs 0) 81) (w_fi ws (n_v vs 0) 80) (w_ei ws (w_ar ws (n_v vs 0) 83)) (w_ei ws (w_ar ws (n_v vs 0) 84)) (w_ei ws (w_ar ws (n_v vs 0) 85)) (w_ei ws (w_ar ws (n_v vs 0) 86)) (w_ei ws (w_ar ws (n_v vs 0) 87)) (w_ei ws (w_ar ws (n_v vs 0) 88)) (w_ei ws (w_ar ws (n_v vs 0) 89)) (v_iv (Value.int x)) k2 k3 k4 k5 k8 k9 k10 k11 d0 f0 f1 f2 f3 f4 f5 f6 f7 f8 f9 f10 f11 f12 f13 f14 f15 f16 f17 f18 f20 f21 f22 hK_0_83 hK_0_84 hK_0_85 hK_0_86 hK_0_87 hK_0_88 hK_0_89 hK_0_95 hK_0_110 hK_0_111 hK_0_112 kz_0_79 kz_0_80 kz_0_81 ex2 ex3
  have nf2 : fc_1 PRD (20, [0, 12], [50, 1, 0, 81, 1, 3, 2, 0, 81, 1, 1]) ws (vs ++ [Value.int x]) := by
    refine ⟨fun n hn => ?_, ?_⟩
    · have hn : n ∈ [0, 12] := hn
      rw [List.length_append, hl]
      simp only [List.mem_cons, List.not_mem_nil, or_false] at hn
      show n < 12 + 1; omega
    · show w_fi ws (n_v (vs ++ [Value.int x]) 0) 81 = v_iv (n_v (vs ++ [Value.int x]) 12)
      rw [e_0]
      rw [e_12]
      exact vc_Mo_layers_4_2 (v_iv (n_v vs 2)) (v_iv (n_v vs 3)) (v_iv (n_v vs 4)) (v_iv (n_v vs 5)) (v_iv (n_v vs 8)) (v_iv (n_v vs 9)) (v_iv (n_v vs 10)) (v_iv (n_v vs 11)) (w_ei ws (w_ar ws (n_v vs 0) 2)) (w_ei ws (w_ar ws (n_v vs 0) 95)) (w_fi ws (n_v vs 0) 5) (w_ei ws (w_ar ws (n_v vs 0) 110)) (w_ei ws (w_ar ws (n_v vs 0) 111)) (w_ei ws (w_ar ws (n_v vs 0) 112)) (w_fi ws (n_v vs 0) 79) (w_fi ws (n_v vs 0) 81) (w_fi ws (n_v vs 0) 80) (w_ei ws (w_ar ws (n_v vs 0) 83)) (w_ei ws (w_ar ws (n_v vs 0) 84)) (w_ei ws (w_ar ws (n_v vs 0) 85)) (w_ei ws (w_ar ws (n_v vs 0) 86)) (w_ei ws (w_ar ws (n_v vs 0) 87)) (w_ei ws (w_ar ws (n_v vs 0) 88)) (w_ei ws (w_ar ws (n_v vs 0) 89)) (v_iv (Value.int x)) k2 k3 k4 k5 k8 k9 k10 k11 d0 f0 f1 f2 f3 f4 f5 f6 f7 f8 f9 f10 f11 f12 f13 f14 f15 f16 f17 f18 f20 f21 f22 hK_0_83 hK_0_84 hK_0_85 hK_0_86 hK_0_87 hK_0_88 hK_0_89 hK_0_95 hK_0_110 hK_0_111 hK_0_112 kz_0_79 kz_0_80 kz_0_81 ex2 ex3
  have nf3 : fc_1 PRD (20, [0], [60, 3, 9, 358, 5, 80, 81, 2, 95, 83, 84, 85, 86, 87, 88, 89]) ws (vs ++ [Value.int x]) := by
    refine ⟨fun n hn => ?_, ?_⟩
    · have hn : n ∈ [0] := hn
      rw [List.length_append, hl]
      simp only [List.mem_cons, List.not_mem_nil, or_false] at hn
      show n < 12 + 1; omega
    · show LCP (w_fi ws (n_v (vs ++ [Value.int x]) 0) 5) (w_fi ws (n_v (vs ++ [Value.int x]) 0) 80) (w_fi ws (n_v (vs ++ [Value.int x]) 0) 81) (w_ei ws (w_ar ws (n_v (vs ++ [Value.int x]) 0) 2)) (w_ei ws (w_ar ws (n_v (vs ++ [Value.int x]) 0) 95)) (w_ei ws (w_ar ws (n_v (vs ++ [Value.int x]) 0) 83)) (w_ei ws (w_ar ws (n_v (vs ++ [Value.int x]) 0) 84)) (w_ei ws (w_ar ws (n_v (vs ++ [Value.int x]) 0) 85)) (w_ei ws (w_ar ws (n_v (vs ++ [Value.int x]) 0) 86)) (w_ei ws (w_ar ws (n_v (vs ++ [Value.int x]) 0) 87)) (w_ei ws (w_ar ws (n_v (vs ++ [Value.int x]) 0) 88)) (w_ei ws (w_ar ws (n_v (vs ++ [Value.int x]) 0) 89))
      rw [e_0]
      exact vc_Mo_layers_4_3 (v_iv (n_v vs 2)) (v_iv (n_v vs 3)) (v_iv (n_v vs 4)) (v_iv (n_v vs 5)) (v_iv (n_v vs 8)) (v_iv (n_v vs 9)) (v_iv (n_v vs 10)) (v_iv (n_v vs 11)) (w_ei ws (w_ar ws (n_v vs 0) 2)) (w_ei ws (w_ar ws (n_v vs 0) 95)) (w_fi ws (n_v vs 0) 5) (w_ei ws (w_ar ws (n_v vs 0) 110)) (w_ei ws (w_ar ws (n_v vs 0) 111)) (w_ei ws (w_ar ws (n_v vs 0) 112)) (w_fi ws (n_v vs 0) 79) (w_fi ws (n_v vs 0) 81) (w_fi ws (n_v vs 0) 80) (w_ei ws (w_ar ws (n_v vs 0) 83)) (w_ei ws (w_ar ws (n_v vs 0) 84)) (w_ei ws (w_ar ws (n_v vs 0) 85)) (w_ei ws (w_ar ws (n_v vs 0) 86)) (w_ei ws (w_ar ws (n_v vs 0) 87)) (w_ei ws (w_ar ws (n_v vs 0) 88)) (w_ei ws (w_ar ws (n_v vs 0) 89)) (v_iv (Value.int x)) k2 k3 k4 k5 k8 k9 k10 k11 d0 f0 f1 f2 f3 f4 f5 f6 f7 f8 f9 f10 f11 f12 f13 f14 f15 f16 f17 f18 f20 f21 f22 hK_0_83 hK_0_84 hK_0_85 hK_0_86 hK_0_87 hK_0_88 hK_0_89 hK_0_95 hK_0_110 hK_0_111 hK_0_112 kz_0_79 kz_0_80 kz_0_81 ex2 ex3
  have nf4 : fc_1 PRD (20, [0, 12, 9], [60, 1, 2, 356, 5, 2, 95]) ws (vs ++ [Value.int x]) := by
    refine ⟨fun n hn => ?_, ?_⟩
    · have hn : n ∈ [0, 12, 9] := hn
      rw [List.length_append, hl]
      simp only [List.mem_cons, List.not_mem_nil, or_false] at hn
      show n < 12 + 1; omega
    · show FRO (w_fi ws (n_v (vs ++ [Value.int x]) 0) 5) (w_ei ws (w_ar ws (n_v (vs ++ [Value.int x]) 0) 2)) (w_ei ws (w_ar ws (n_v (vs ++ [Value.int x]) 0) 95)) (v_iv (n_v (vs ++ [Value.int x]) 12)) (v_iv (n_v (vs ++ [Value.int x]) 9))
      rw [e_0]
      rw [e_9]
      rw [e_12]
      exact vc_Mo_layers_4_4 (v_iv (n_v vs 2)) (v_iv (n_v vs 3)) (v_iv (n_v vs 4)) (v_iv (n_v vs 5)) (v_iv (n_v vs 8)) (v_iv (n_v vs 9)) (v_iv (n_v vs 10)) (v_iv (n_v vs 11)) (w_ei ws (w_ar ws (n_v vs 0) 2)) (w_ei ws (w_ar ws (n_v vs 0) 95)) (w_fi ws (n_v vs 0) 5) (w_ei ws (w_ar ws (n_v vs 0) 110)) (w_ei ws (w_ar ws (n_v vs 0) 111)) (w_ei ws (w_ar ws (n_v vs 0) 112)) (w_fi ws (n_v vs 0) 79) (w_fi ws (n_v vs 0) 81) (w_fi ws (n_v vs 0) 80) (w_ei ws (w_ar ws (n_v vs 0) 83)) (w_ei ws (w_ar ws (n_v vs 0) 84)) (w_ei ws (w_ar ws (n_v vs 0) 85)) (w_ei ws (w_ar ws (n_v vs 0) 86)) (w_ei ws (w_ar ws (n_v vs 0) 87)) (w_ei ws (w_ar ws (n_v vs 0) 88)) (w_ei ws (w_ar ws (n_v vs 0) 89)) (v_iv (Value.int x)) k2 k3 k4 k5 k8 k9 k10 k11 d0 f0 f1 f2 f3 f4 f5 f6 f7 f8 f9 f10 f11 f12 f13 f14 f15 f16 f17 f18 f20 f21 f22 hK_0_83 hK_0_84 hK_0_85 hK_0_86 hK_0_87 hK_0_88 hK_0_89 hK_0_95 hK_0_110 hK_0_111 hK_0_112 kz_0_79 kz_0_80 kz_0_81 ex2 ex3
  have nf5 : fc_1 PRD (20, [0, 12, 10], [60, 1, 2, 357, 5, 2, 95]) ws (vs ++ [Value.int x]) := by
    refine ⟨fun n hn => ?_, ?_⟩
    · have hn : n ∈ [0, 12, 10] := hn
      rw [List.length_append, hl]
      simp only [List.mem_cons, List.not_mem_nil, or_false] at hn
      show n < 12 + 1; omega
    · show TOO (w_fi ws (n_v (vs ++ [Value.int x]) 0) 5) (w_ei ws (w_ar ws (n_v (vs ++ [Value.int x]) 0) 2)) (w_ei ws (w_ar ws (n_v (vs ++ [Value.int x]) 0) 95)) (v_iv (n_v (vs ++ [Value.int x]) 12)) (v_iv (n_v (vs ++ [Value.int x]) 10))
      rw [e_0]
      rw [e_10]
      rw [e_12]
      exact vc_Mo_layers_4_5 (v_iv (n_v vs 2)) (v_iv (n_v vs 3)) (v_iv (n_v vs 4)) (v_iv (n_v vs 5)) (v_iv (n_v vs 8)) (v_iv (n_v vs 9)) (v_iv (n_v vs 10)) (v_iv (n_v vs 11)) (w_ei ws (w_ar ws (n_v vs 0) 2)) (w_ei ws (w_ar ws (n_v vs 0) 95)) (w_fi ws (n_v vs 0) 5) (w_ei ws (w_ar ws (n_v vs 0) 110)) (w_ei ws (w_ar ws (n_v vs 0) 111)) (w_ei ws (w_ar ws (n_v vs 0) 112)) (w_fi ws (n_v vs 0) 79) (w_fi ws (n_v vs 0) 81) (w_fi ws (n_v vs 0) 80) (w_ei ws (w_ar ws (n_v vs 0) 83)) (w_ei ws (w_ar ws (n_v vs 0) 84)) (w_ei ws (w_ar ws (n_v vs 0) 85)) (w_ei ws (w_ar ws (n_v vs 0) 86)) (w_ei ws (w_ar ws (n_v vs 0) 87)) (w_ei ws (w_ar ws (n_v vs 0) 88)) (w_ei ws (w_ar ws (n_v vs 0) 89)) (v_iv (Value.int x)) k2 k3 k4 k5 k8 k9 k10 k11 d0 f0 f1 f2 f3 f4 f5 f6 f7 f8 f9 f10 f11 f12 f13 f14 f15 f16 f17 f18 f20 f21 f22 hK_0_83 hK_0_84 hK_0_85 hK_0_86 hK_0_87 hK_0_88 hK_0_89 hK_0_95 hK_0_110 hK_0_111 hK_0_112 kz_0_79 kz_0_80 kz_0_81 ex2 ex3
  have nf6 : fc_1 PRD (20, [11], [50, 0, 0, 1, 2, 1, 0, 0, 1]) ws (vs ++ [Value.int x]) := by
    refine ⟨fun n hn => ?_, ?_⟩
    · have hn : n ∈ [11] := hn
      rw [List.length_append, hl]
      simp only [List.mem_cons, List.not_mem_nil, or_false] at hn
      show n < 12 + 1; omega
    · show v_iv (n_v (vs ++ [Value.int x]) 11) = 1
      rw [e_11]
      exact vc_Mo_layers_4_6 (v_iv (n_v vs 2)) (v_iv (n_v vs 3)) (v_iv (n_v vs 4)) (v_iv (n_v vs 5)) (v_iv (n_v vs 8)) (v_iv (n_v vs 9)) (v_iv (n_v vs 10)) (v_iv (n_v vs 11)) (w_ei ws (w_ar ws (n_v vs 0) 2)) (w_ei ws (w_ar ws (n_v vs 0) 95)) (w_fi ws (n_v vs 0) 5) (w_ei ws (w_ar ws (n_v vs 0) 110)) (w_ei ws (w_ar ws (n_v vs 0) 111)) (w_ei ws (w_ar ws (n_v vs 0) 112)) (w_fi ws (n_v vs 0) 79) (w_fi ws (n_v vs 0) 81) (w_fi ws (n_v vs 0) 80) (w_ei ws (w_ar ws (n_v vs 0) 83)) (w_ei ws (w_ar ws (n_v vs 0) 84)) (w_ei ws (w_ar ws (n_v vs 0) 85)) (w_ei ws (w_ar ws (n_v vs 0) 86)) (w_ei ws (w_ar ws (n_v vs 0) 87)) (w_ei ws (w_ar ws (n_v vs 0) 88)) (w_ei ws (w_ar ws (n_v vs 0) 89)) (v_iv (Value.int x)) k2 k3 k4 k5 k8 k9 k10 k11 d0 f0 f1 f2 f3 f4 f5 f6 f7 f8 f9 f10 f11 f12 f13 f14 f15 f16 f17 f18 f20 f21 f22 hK_0_83 hK_0_84 hK_0_85 hK_0_86 hK_0_87 hK_0_88 hK_0_89 hK_0_95 hK_0_110 hK_0_111 hK_0_112 kz_0_79 kz_0_80 kz_0_81 ex2 ex3
  exact ⟨(fun _ h => (by cases h)), [Value.int x], ag_one hx, List.forall_mem_cons.mpr ⟨⟨show (23 : Nat) < 100 from by decide, nf0⟩, List.forall_mem_cons.mpr ⟨⟨show (23 : Nat) < 100 from by decide, nf1⟩, List.forall_mem_cons.mpr ⟨⟨show (20 : Nat) < 100 from by decide, nf2⟩, List.forall_mem_cons.mpr ⟨⟨show (20 : Nat) < 100 from by decide, nf3⟩, List.forall_mem_cons.mpr ⟨⟨show (20 : Nat) < 100 from by decide, nf4⟩, List.forall_mem_cons.mpr ⟨⟨show (20 : Nat) < 100 from by decide, nf5⟩, List.forall_mem_cons.mpr ⟨⟨show (20 : Nat) < 100 from by decide, nf6⟩, (fun _ h => (by cases h))⟩⟩⟩⟩⟩⟩⟩, (fun _ h => (by cases h))⟩
set_option maxHeartbeats 4000000 in
theorem vc_Mo_layers_5_0 (x2 : Int) (x3 : Int) (x4 : Int) (x5 : Int) (x8 : Int) (x9 : Int) (x10 : Int) (x11 : Int) (x12 : Int) (x13 : Int) (all_0 : Int → Int) (turned_0 : Int → Int) (r_0 : Int) (permBegin_0 : Int → Int) (permMany_0 : Int → Int) (perm_0 : Int → Int) (pointMany_0 : Int) (costMany_0 : Int) (apartMany_0 : Int) (costA_0 : Int → Int) (costB_0 : Int → Int) (costW_0 : Int → Int) (costPlain_0 : Int → Int) (apartA_0 : Int → Int) (apartB_0 : Int → Int) (apart_0 : Int → Int) (k2 : 0 ≤ x2 ∧ x2 ≤ 47) (k3 : 1 ≤ x3 ∧ x3 ≤ 48) (k4 : 0 ≤ x4 ∧ x4 ≤ 23) (k5 : 0 ≤ x5 ∧ x5 ≤ 23) (k8 : 0 ≤ x8 ∧ x8 ≤ 199) (k9 : 0 ≤ x9 ∧ x9 ≤ 23) (k10 : 0 ≤ x10 ∧ x10 ≤ 23) (k11 : 1 ≤ x11 ∧ x11 ≤ 1) (k12 : 0 ≤ x12 ∧ x12 ≤ 199) (k13 : 1 ≤ x13 ∧ x13 ≤ 48) (d0 : x2 + 1 ≤ x13 ∧ x13 ≤ x2 + 1) (d1 : x3 + (-4294967296) ≤ x13 ∧ x13 ≤ x3 + 0) (d2 : x3 + (-4294967296) ≤ x2 ∧ x2 ≤ x3 + (-1)) (f0 : x13 = x2 + 1) (f1 : 1 * x12 + ((-1) * x2 + 0) ≤ 0) (f2 : (-1) * x12 + (1 * x2 + 0) ≤ 0) (f3 : FRO (r_0) (all_0) (turned_0) (x12) (x9)) (f4 : TOO (r_0) (all_0) (turned_0) (x12) (x10)) (f5 : x11 = 1) (f6 : TOO (r_0) (all_0) (turned_0) (x2) (x10)) (f7 : FRO (r_0) (all_0) (turned_0) (x2) (x9)) (f8 : 1 * x8 + ((-1) * x2 + 0) ≤ 0) (f9 : (-1) * x8 + (1 * x2 + 0) ≤ 0) (f10 : FRO (r_0) (all_0) (turned_0) (x8) (x4)) (f11 : TOO (r_0) (all_0) (turned_0) (x8) (x5)) (f12 : TOO (r_0) (all_0) (turned_0) (x2) (x5)) (f13 : FRO (r_0) (all_0) (turned_0) (x2) (x4)) (f14 : 1 * x3 + ((-1) * all_0 (r_0 + 1) + 0) ≤ 0) (f15 : (-1) * x3 + (1 * all_0 (r_0 + 1) + 0) ≤ 0) (f16 : PTB (permBegin_0) (permMany_0) (perm_0)) (f17 : SGR (r_0) (all_0)) (f18 : 1 ≤ all_0 (r_0)) (f19 : x2 ≤ all_0 ((r_0 + 1))) (f20 : TRK (r_0) (all_0) (turned_0)) (f21 : pointMany_0 = all_0 (r_0)) (f22 : costMany_0 = (x8 + 1)) (f23 : apartMany_0 = (x12 + 1)) (f24 : LCP (r_0) (costMany_0) (apartMany_0) (all_0) (turned_0) (costA_0) (costB_0) (costW_0) (costPlain_0) (apartA_0) (apartB_0) (apart_0)) (f26 : 1 * x12 + ((-1) * x2 + 0) ≤ 0) (f27 : (-1) * x12 + (1 * x2 + 0) ≤ 0) (f28 : 1 * x8 + ((-1) * x2 + 0) ≤ 0) (f29 : (-1) * x8 + (1 * x2 + 0) ≤ 0) (f31 : 1 * x8 + ((-1) * x2 + 0) ≤ 0) (f32 : (-1) * x8 + (1 * x2 + 0) ≤ 0) (f33 : x2 < x3) (hK_0_83 : ∀ j : Int, 0 ≤ j → j < 200 → 0 ≤ costA_0 j ∧ costA_0 j ≤ 75) (hK_0_84 : ∀ j : Int, 0 ≤ j → j < 200 → 0 ≤ costB_0 j ∧ costB_0 j ≤ 75) (hK_0_85 : ∀ j : Int, 0 ≤ j → j < 200 → 0 ≤ costW_0 j ∧ costW_0 j ≤ 72) (hK_0_86 : ∀ j : Int, 0 ≤ j → j < 200 → 0 ≤ costPlain_0 j ∧ costPlain_0 j ≤ 1) (hK_0_87 : ∀ j : Int, 0 ≤ j → j < 200 → 0 ≤ apartA_0 j ∧ apartA_0 j ≤ 75) (hK_0_88 : ∀ j : Int, 0 ≤ j → j < 200 → 0 ≤ apartB_0 j ∧ apartB_0 j ≤ 75) (hK_0_89 : ∀ j : Int, 0 ≤ j → j < 200 → 0 ≤ apart_0 j ∧ apart_0 j ≤ 202) (hK_0_95 : ∀ j : Int, 0 ≤ j → j < 48 → 0 ≤ turned_0 j ∧ turned_0 j ≤ 1) (hK_0_110 : ∀ j : Int, 0 ≤ j → j < 8 → 0 ≤ permBegin_0 j ∧ permBegin_0 j ≤ 5500) (hK_0_111 : ∀ j : Int, 0 ≤ j → j < 8 → 0 ≤ permMany_0 j ∧ permMany_0 j ≤ 720) (hK_0_112 : ∀ j : Int, 0 ≤ j → j < 6000 → 0 ≤ perm_0 j ∧ perm_0 j ≤ 5) (kz_0_79 : 0 ≤ pointMany_0 ∧ pointMany_0 ≤ 76) (kz_0_80 : 0 ≤ costMany_0 ∧ costMany_0 ≤ 200) (kz_0_81 : 0 ≤ apartMany_0 ∧ apartMany_0 ≤ 200) : x13 ≤ all_0 ((r_0 + 1)) := by
  try simp only [Int.add_zero] at *
  first
    | omega
    | (have h := ‹SGR _ _›.1; omega)
    | (have h := ‹LSA _ _ _ _ _ _ _ _ _ _›.2.1; have h2 := ‹LSA _ _ _ _ _ _ _ _ _ _›.2.2.1 0 (by omega) (by omega); omega)
set_option maxHeartbeats 4000000 in
theorem vc_Mo_layers_5_1 (x2 : Int) (x3 : Int) (x4 : Int) (x5 : Int) (x8 : Int) (x9 : Int) (x10 : Int) (x11 : Int) (x12 : Int) (x13 : Int) (all_0 : Int → Int) (turned_0 : Int → Int) (r_0 : Int) (permBegin_0 : Int → Int) (permMany_0 : Int → Int) (perm_0 : Int → Int) (pointMany_0 : Int) (costMany_0 : Int) (apartMany_0 : Int) (costA_0 : Int → Int) (costB_0 : Int → Int) (costW_0 : Int → Int) (costPlain_0 : Int → Int) (apartA_0 : Int → Int) (apartB_0 : Int → Int) (apart_0 : Int → Int) (k2 : 0 ≤ x2 ∧ x2 ≤ 47) (k3 : 1 ≤ x3 ∧ x3 ≤ 48) (k4 : 0 ≤ x4 ∧ x4 ≤ 23) (k5 : 0 ≤ x5 ∧ x5 ≤ 23) (k8 : 0 ≤ x8 ∧ x8 ≤ 199) (k9 : 0 ≤ x9 ∧ x9 ≤ 23) (k10 : 0 ≤ x10 ∧ x10 ≤ 23) (k11 : 1 ≤ x11 ∧ x11 ≤ 1) (k12 : 0 ≤ x12 ∧ x12 ≤ 199) (k13 : 1 ≤ x13 ∧ x13 ≤ 48) (d0 : x2 + 1 ≤ x13 ∧ x13 ≤ x2 + 1) (d1 : x3 + (-4294967296) ≤ x13 ∧ x13 ≤ x3 + 0) (d2 : x3 + (-4294967296) ≤ x2 ∧ x2 ≤ x3 + (-1)) (f0 : x13 = x2 + 1) (f1 : 1 * x12 + ((-1) * x2 + 0) ≤ 0) (f2 : (-1) * x12 + (1 * x2 + 0) ≤ 0) (f3 : FRO (r_0) (all_0) (turned_0) (x12) (x9)) (f4 : TOO (r_0) (all_0) (turned_0) (x12) (x10)) (f5 : x11 = 1) (f6 : TOO (r_0) (all_0) (turned_0) (x2) (x10)) (f7 : FRO (r_0) (all_0) (turned_0) (x2) (x9)) (f8 : 1 * x8 + ((-1) * x2 + 0) ≤ 0) (f9 : (-1) * x8 + (1 * x2 + 0) ≤ 0) (f10 : FRO (r_0) (all_0) (turned_0) (x8) (x4)) (f11 : TOO (r_0) (all_0) (turned_0) (x8) (x5)) (f12 : TOO (r_0) (all_0) (turned_0) (x2) (x5)) (f13 : FRO (r_0) (all_0) (turned_0) (x2) (x4)) (f14 : 1 * x3 + ((-1) * all_0 (r_0 + 1) + 0) ≤ 0) (f15 : (-1) * x3 + (1 * all_0 (r_0 + 1) + 0) ≤ 0) (f16 : PTB (permBegin_0) (permMany_0) (perm_0)) (f17 : SGR (r_0) (all_0)) (f18 : 1 ≤ all_0 (r_0)) (f19 : x2 ≤ all_0 ((r_0 + 1))) (f20 : TRK (r_0) (all_0) (turned_0)) (f21 : pointMany_0 = all_0 (r_0)) (f22 : costMany_0 = (x8 + 1)) (f23 : apartMany_0 = (x12 + 1)) (f24 : LCP (r_0) (costMany_0) (apartMany_0) (all_0) (turned_0) (costA_0) (costB_0) (costW_0) (costPlain_0) (apartA_0) (apartB_0) (apart_0)) (f26 : 1 * x12 + ((-1) * x2 + 0) ≤ 0) (f27 : (-1) * x12 + (1 * x2 + 0) ≤ 0) (f28 : 1 * x8 + ((-1) * x2 + 0) ≤ 0) (f29 : (-1) * x8 + (1 * x2 + 0) ≤ 0) (f31 : 1 * x8 + ((-1) * x2 + 0) ≤ 0) (f32 : (-1) * x8 + (1 * x2 + 0) ≤ 0) (f33 : x2 < x3) (hK_0_83 : ∀ j : Int, 0 ≤ j → j < 200 → 0 ≤ costA_0 j ∧ costA_0 j ≤ 75) (hK_0_84 : ∀ j : Int, 0 ≤ j → j < 200 → 0 ≤ costB_0 j ∧ costB_0 j ≤ 75) (hK_0_85 : ∀ j : Int, 0 ≤ j → j < 200 → 0 ≤ costW_0 j ∧ costW_0 j ≤ 72) (hK_0_86 : ∀ j : Int, 0 ≤ j → j < 200 → 0 ≤ costPlain_0 j ∧ costPlain_0 j ≤ 1) (hK_0_87 : ∀ j : Int, 0 ≤ j → j < 200 → 0 ≤ apartA_0 j ∧ apartA_0 j ≤ 75) (hK_0_88 : ∀ j : Int, 0 ≤ j → j < 200 → 0 ≤ apartB_0 j ∧ apartB_0 j ≤ 75) (hK_0_89 : ∀ j : Int, 0 ≤ j → j < 200 → 0 ≤ apart_0 j ∧ apart_0 j ≤ 202) (hK_0_95 : ∀ j : Int, 0 ≤ j → j < 48 → 0 ≤ turned_0 j ∧ turned_0 j ≤ 1) (hK_0_110 : ∀ j : Int, 0 ≤ j → j < 8 → 0 ≤ permBegin_0 j ∧ permBegin_0 j ≤ 5500) (hK_0_111 : ∀ j : Int, 0 ≤ j → j < 8 → 0 ≤ permMany_0 j ∧ permMany_0 j ≤ 720) (hK_0_112 : ∀ j : Int, 0 ≤ j → j < 6000 → 0 ≤ perm_0 j ∧ perm_0 j ≤ 5) (kz_0_79 : 0 ≤ pointMany_0 ∧ pointMany_0 ≤ 76) (kz_0_80 : 0 ≤ costMany_0 ∧ costMany_0 ≤ 200) (kz_0_81 : 0 ≤ apartMany_0 ∧ apartMany_0 ≤ 200) : costMany_0 = x13 := by
  try simp only [Int.add_zero] at *
  first
    | omega
    | (have h := ‹SGR _ _›.1; omega)
    | (have h := ‹LSA _ _ _ _ _ _ _ _ _ _›.2.1; have h2 := ‹LSA _ _ _ _ _ _ _ _ _ _›.2.2.1 0 (by omega) (by omega); omega)
set_option maxHeartbeats 4000000 in
theorem vc_Mo_layers_5_2 (x2 : Int) (x3 : Int) (x4 : Int) (x5 : Int) (x8 : Int) (x9 : Int) (x10 : Int) (x11 : Int) (x12 : Int) (x13 : Int) (all_0 : Int → Int) (turned_0 : Int → Int) (r_0 : Int) (permBegin_0 : Int → Int) (permMany_0 : Int → Int) (perm_0 : Int → Int) (pointMany_0 : Int) (costMany_0 : Int) (apartMany_0 : Int) (costA_0 : Int → Int) (costB_0 : Int → Int) (costW_0 : Int → Int) (costPlain_0 : Int → Int) (apartA_0 : Int → Int) (apartB_0 : Int → Int) (apart_0 : Int → Int) (k2 : 0 ≤ x2 ∧ x2 ≤ 47) (k3 : 1 ≤ x3 ∧ x3 ≤ 48) (k4 : 0 ≤ x4 ∧ x4 ≤ 23) (k5 : 0 ≤ x5 ∧ x5 ≤ 23) (k8 : 0 ≤ x8 ∧ x8 ≤ 199) (k9 : 0 ≤ x9 ∧ x9 ≤ 23) (k10 : 0 ≤ x10 ∧ x10 ≤ 23) (k11 : 1 ≤ x11 ∧ x11 ≤ 1) (k12 : 0 ≤ x12 ∧ x12 ≤ 199) (k13 : 1 ≤ x13 ∧ x13 ≤ 48) (d0 : x2 + 1 ≤ x13 ∧ x13 ≤ x2 + 1) (d1 : x3 + (-4294967296) ≤ x13 ∧ x13 ≤ x3 + 0) (d2 : x3 + (-4294967296) ≤ x2 ∧ x2 ≤ x3 + (-1)) (f0 : x13 = x2 + 1) (f1 : 1 * x12 + ((-1) * x2 + 0) ≤ 0) (f2 : (-1) * x12 + (1 * x2 + 0) ≤ 0) (f3 : FRO (r_0) (all_0) (turned_0) (x12) (x9)) (f4 : TOO (r_0) (all_0) (turned_0) (x12) (x10)) (f5 : x11 = 1) (f6 : TOO (r_0) (all_0) (turned_0) (x2) (x10)) (f7 : FRO (r_0) (all_0) (turned_0) (x2) (x9)) (f8 : 1 * x8 + ((-1) * x2 + 0) ≤ 0) (f9 : (-1) * x8 + (1 * x2 + 0) ≤ 0) (f10 : FRO (r_0) (all_0) (turned_0) (x8) (x4)) (f11 : TOO (r_0) (all_0) (turned_0) (x8) (x5)) (f12 : TOO (r_0) (all_0) (turned_0) (x2) (x5)) (f13 : FRO (r_0) (all_0) (turned_0) (x2) (x4)) (f14 : 1 * x3 + ((-1) * all_0 (r_0 + 1) + 0) ≤ 0) (f15 : (-1) * x3 + (1 * all_0 (r_0 + 1) + 0) ≤ 0) (f16 : PTB (permBegin_0) (permMany_0) (perm_0)) (f17 : SGR (r_0) (all_0)) (f18 : 1 ≤ all_0 (r_0)) (f19 : x2 ≤ all_0 ((r_0 + 1))) (f20 : TRK (r_0) (all_0) (turned_0)) (f21 : pointMany_0 = all_0 (r_0)) (f22 : costMany_0 = (x8 + 1)) (f23 : apartMany_0 = (x12 + 1)) (f24 : LCP (r_0) (costMany_0) (apartMany_0) (all_0) (turned_0) (costA_0) (costB_0) (costW_0) (costPlain_0) (apartA_0) (apartB_0) (apart_0)) (f26 : 1 * x12 + ((-1) * x2 + 0) ≤ 0) (f27 : (-1) * x12 + (1 * x2 + 0) ≤ 0) (f28 : 1 * x8 + ((-1) * x2 + 0) ≤ 0) (f29 : (-1) * x8 + (1 * x2 + 0) ≤ 0) (f31 : 1 * x8 + ((-1) * x2 + 0) ≤ 0) (f32 : (-1) * x8 + (1 * x2 + 0) ≤ 0) (f33 : x2 < x3) (hK_0_83 : ∀ j : Int, 0 ≤ j → j < 200 → 0 ≤ costA_0 j ∧ costA_0 j ≤ 75) (hK_0_84 : ∀ j : Int, 0 ≤ j → j < 200 → 0 ≤ costB_0 j ∧ costB_0 j ≤ 75) (hK_0_85 : ∀ j : Int, 0 ≤ j → j < 200 → 0 ≤ costW_0 j ∧ costW_0 j ≤ 72) (hK_0_86 : ∀ j : Int, 0 ≤ j → j < 200 → 0 ≤ costPlain_0 j ∧ costPlain_0 j ≤ 1) (hK_0_87 : ∀ j : Int, 0 ≤ j → j < 200 → 0 ≤ apartA_0 j ∧ apartA_0 j ≤ 75) (hK_0_88 : ∀ j : Int, 0 ≤ j → j < 200 → 0 ≤ apartB_0 j ∧ apartB_0 j ≤ 75) (hK_0_89 : ∀ j : Int, 0 ≤ j → j < 200 → 0 ≤ apart_0 j ∧ apart_0 j ≤ 202) (hK_0_95 : ∀ j : Int, 0 ≤ j → j < 48 → 0 ≤ turned_0 j ∧ turned_0 j ≤ 1) (hK_0_110 : ∀ j : Int, 0 ≤ j → j < 8 → 0 ≤ permBegin_0 j ∧ permBegin_0 j ≤ 5500) (hK_0_111 : ∀ j : Int, 0 ≤ j → j < 8 → 0 ≤ permMany_0 j ∧ permMany_0 j ≤ 720) (hK_0_112 : ∀ j : Int, 0 ≤ j → j < 6000 → 0 ≤ perm_0 j ∧ perm_0 j ≤ 5) (kz_0_79 : 0 ≤ pointMany_0 ∧ pointMany_0 ≤ 76) (kz_0_80 : 0 ≤ costMany_0 ∧ costMany_0 ≤ 200) (kz_0_81 : 0 ≤ apartMany_0 ∧ apartMany_0 ≤ 200) : apartMany_0 = x13 := by
  try simp only [Int.add_zero] at *
  first
    | omega
    | (have h := ‹SGR _ _›.1; omega)
    | (have h := ‹LSA _ _ _ _ _ _ _ _ _ _›.2.1; have h2 := ‹LSA _ _ _ _ _ _ _ _ _ _›.2.2.1 0 (by omega) (by omega); omega)
def o_Mo_layers_5 : or_T := (24, 14, [(0, (2, 0, 0, [150])), (2, (0, 0, 47, [])), (3, (0, 1, 48, [])), (4, (0, 0, 23, [])), (5, (0, 0, 23, [])), (8, (0, 0, 199, [])), (9, (0, 0, 23, [])), (10, (0, 0, 23, [])), (11, (0, 1, 1, [])), (12, (0, 0, 199, [])), (13, (0, 1, 48, []))], [(6, [13, 2], [1]), (23, [12, 2], [0, 1, -1]), (23, [12, 2], [0, -1, 1]), (20, [0, 12, 9], [60, 1, 2, 356, 5, 2, 95]), (20, [0, 12, 10], [60, 1, 2, 357, 5, 2, 95]), (20, [11], [50, 0, 0, 1, 2, 1, 0, 0, 1]), (20, [0, 2, 10], [60, 1, 2, 357, 5, 2, 95]), (20, [0, 2, 9], [60, 1, 2, 356, 5, 2, 95]), (23, [8, 2], [0, 1, -1]), (23, [8, 2], [0, -1, 1]), (20, [0, 8, 4], [60, 1, 2, 356, 5, 2, 95]), (20, [0, 8, 5], [60, 1, 2, 357, 5, 2, 95]), (20, [0, 2, 5], [60, 1, 2, 357, 5, 2, 95]), (20, [0, 2, 4], [60, 1, 2, 356, 5, 2, 95]), (20, [3, 0], [30, 0, 1, 0, 0, -1, 3, 2005001]), (20, [3, 0], [30, 0, -1, 0, 0, 1, 3, 2005001]), (20, [0], [60, 0, 3, 291, 110, 111, 112]), (20, [0], [60, 1, 1, 122, 5, 2]), (20, [0], [50, 1, 1, 5, 2, 0, 2, 0, 1, 3, 0, 2, 2, 0, 5]), (20, [2, 0], [50, 1, 1, 1005, 1002, 0, 2, 1, 0, 3, 1, 2, 4, 3, 2, 1, 5, 0, 1]), (20, [0], [60, 1, 2, 290, 5, 2, 95]), (20, [0], [50, 2, 1, 79, 5, 2, 1, 3, 2, 0, 79, 3, 0, 2, 2, 0, 5]), (20, [0, 8], [50, 1, 0, 80, 1, 3, 2, 0, 80, 4, 2, 1, 1, 0, 1]), (20, [0, 12], [50, 1, 0, 81, 1, 3, 2, 0, 81, 4, 2, 1, 1, 0, 1]), (20, [0], [60, 3, 9, 358, 5, 80, 81, 2, 95, 83, 84, 85, 86, 87, 88, 89]), (102, [12], [5759265950624221147542392138950726767439575529717529521720131584, 13081]), (23, [12, 2], [0, 1, -1]), (23, [12, 2], [0, -1, 1]), (23, [8, 2], [0, 1, -1]), (23, [8, 2], [0, -1, 1]), (102, [8], [771330261244315332260141804323758049210657437015740560944660480, 13080]), (23, [8, 2], [0, 1, -1]), (23, [8, 2], [0, -1, 1]), (7, [2, 3], [2])], [], [], [(20, [13, 0], [50, 1, 1, 1005, 1002, 0, 2, 1, 0, 3, 1, 2, 4, 3, 2, 1, 5, 0, 1]), (20, [0, 13], [50, 1, 0, 80, 1, 3, 2, 0, 80, 1, 1]), (20, [0, 13], [50, 1, 0, 81, 1, 3, 2, 0, 81, 1, 1])], [], [(13, 2, 1, 1), (13, 3, -4294967296, 0), (2, 3, -4294967296, -1)])
theorem oo_Mo_layers_5 {kA : Nat → ClassId} : or_ok PRD kA GG o_Mo_layers_5 := by
  intro A ta ws vs hD hth hl hk hds hf
  have hl : vs.length = 14 := hl
  have hk : ∀ q ∈ ([(0, (2, 0, 0, [150])), (2, (0, 0, 47, [])), (3, (0, 1, 48, [])), (4, (0, 0, 23, [])), (5, (0, 0, 23, [])), (8, (0, 0, 199, [])), (9, (0, 0, 23, [])), (10, (0, 0, 23, [])), (11, (0, 1, 1, [])), (12, (0, 0, 199, [])), (13, (0, 1, 48, []))] : List (Nat × tv_T)), tv_ok ta q.2 (n_v vs q.1) := hk
  obtain ⟨t0, hk⟩ := List.forall_mem_cons.mp hk
  have t0 : tv_ok ta (2, 0, 0, [150]) (n_v vs 0) := t0
  have r0 : ta (v_ad (n_v vs 0)) = some 150 := tv_rg t0
  obtain ⟨t2, hk⟩ := List.forall_mem_cons.mp hk
  have t2 : tv_ok ta (0, 0, 47, []) (n_v vs 2) := t2
  have k2 : 0 ≤ v_iv (n_v vs 2) ∧ v_iv (n_v vs 2) ≤ 47 := tv_rng t2
  obtain ⟨t3, hk⟩ := List.forall_mem_cons.mp hk
  have t3 : tv_ok ta (0, 1, 48, []) (n_v vs 3) := t3
  have k3 : 1 ≤ v_iv (n_v vs 3) ∧ v_iv (n_v vs 3) ≤ 48 := tv_rng t3
  obtain ⟨t4, hk⟩ := List.forall_mem_cons.mp hk
  have t4 : tv_ok ta (0, 0, 23, []) (n_v vs 4) := t4
  have k4 : 0 ≤ v_iv (n_v vs 4) ∧ v_iv (n_v vs 4) ≤ 23 := tv_rng t4
  obtain ⟨t5, hk⟩ := List.forall_mem_cons.mp hk
  have t5 : tv_ok ta (0, 0, 23, []) (n_v vs 5) := t5
  have k5 : 0 ≤ v_iv (n_v vs 5) ∧ v_iv (n_v vs 5) ≤ 23 := tv_rng t5
  obtain ⟨t8, hk⟩ := List.forall_mem_cons.mp hk
  have t8 : tv_ok ta (0, 0, 199, []) (n_v vs 8) := t8
  have k8 : 0 ≤ v_iv (n_v vs 8) ∧ v_iv (n_v vs 8) ≤ 199 := tv_rng t8
  obtain ⟨t9, hk⟩ := List.forall_mem_cons.mp hk
  have t9 : tv_ok ta (0, 0, 23, []) (n_v vs 9) := t9
  have k9 : 0 ≤ v_iv (n_v vs 9) ∧ v_iv (n_v vs 9) ≤ 23 := tv_rng t9
  obtain ⟨t10, hk⟩ := List.forall_mem_cons.mp hk
  have t10 : tv_ok ta (0, 0, 23, []) (n_v vs 10) := t10
  have k10 : 0 ≤ v_iv (n_v vs 10) ∧ v_iv (n_v vs 10) ≤ 23 := tv_rng t10
  obtain ⟨t11, hk⟩ := List.forall_mem_cons.mp hk
  have t11 : tv_ok ta (0, 1, 1, []) (n_v vs 11) := t11
  have k11 : 1 ≤ v_iv (n_v vs 11) ∧ v_iv (n_v vs 11) ≤ 1 := tv_rng t11
  obtain ⟨t12, hk⟩ := List.forall_mem_cons.mp hk
  have t12 : tv_ok ta (0, 0, 199, []) (n_v vs 12) := t12
  have k12 : 0 ≤ v_iv (n_v vs 12) ∧ v_iv (n_v vs 12) ≤ 199 := tv_rng t12
  obtain ⟨t13, hk⟩ := List.forall_mem_cons.mp hk
  have t13 : tv_ok ta (0, 1, 48, []) (n_v vs 13) := t13
  have k13 : 1 ≤ v_iv (n_v vs 13) ∧ v_iv (n_v vs 13) ≤ 48 := tv_rng t13
  have hds : ∀ q ∈ ([(13, 2, 1, 1), (13, 3, -4294967296, 0), (2, 3, -4294967296, -1)] : List of_T), n_iv vs q.2.1 + q.2.2.1 ≤ n_iv vs q.1 ∧ n_iv vs q.1 ≤ n_iv vs q.2.1 + q.2.2.2 := hds
  obtain ⟨d0, hds⟩ := List.forall_mem_cons.mp hds
  have d0 : v_iv (n_v vs 2) + 1 ≤ v_iv (n_v vs 13) ∧ v_iv (n_v vs 13) ≤ v_iv (n_v vs 2) + 1 := d0
  obtain ⟨d1, hds⟩ := List.forall_mem_cons.mp hds
  have d1 : v_iv (n_v vs 3) + (-4294967296) ≤ v_iv (n_v vs 13) ∧ v_iv (n_v vs 13) ≤ v_iv (n_v vs 3) + 0 := d1
  obtain ⟨d2, hds⟩ := List.forall_mem_cons.mp hds
  have d2 : v_iv (n_v vs 3) + (-4294967296) ≤ v_iv (n_v vs 2) ∧ v_iv (n_v vs 2) ≤ v_iv (n_v vs 3) + (-1) := d2
  have hf : fc_ok PRD [(6, [13, 2], [1]), (23, [12, 2], [0, 1, -1]), (23, [12, 2], [0, -1, 1]), (20, [0, 12, 9], [60, 1, 2, 356, 5, 2, 95]), (20, [0, 12, 10], [60, 1, 2, 357, 5, 2, 95]), (20, [11], [50, 0, 0, 1, 2, 1, 0, 0, 1]), (20, [0, 2, 10], [60, 1, 2, 357, 5, 2, 95]), (20, [0, 2, 9], [60, 1, 2, 356, 5, 2, 95]), (23, [8, 2], [0, 1, -1]), (23, [8, 2], [0, -1, 1]), (20, [0, 8, 4], [60, 1, 2, 356, 5, 2, 95]), (20, [0, 8, 5], [60, 1, 2, 357, 5, 2, 95]), (20, [0, 2, 5], [60, 1, 2, 357, 5, 2, 95]), (20, [0, 2, 4], [60, 1, 2, 356, 5, 2, 95]), (20, [3, 0], [30, 0, 1, 0, 0, -1, 3, 2005001]), (20, [3, 0], [30, 0, -1, 0, 0, 1, 3, 2005001]), (20, [0], [60, 0, 3, 291, 110, 111, 112]), (20, [0], [60, 1, 1, 122, 5, 2]), (20, [0], [50, 1, 1, 5, 2, 0, 2, 0, 1, 3, 0, 2, 2, 0, 5]), (20, [2, 0], [50, 1, 1, 1005, 1002, 0, 2, 1, 0, 3, 1, 2, 4, 3, 2, 1, 5, 0, 1]), (20, [0], [60, 1, 2, 290, 5, 2, 95]), (20, [0], [50, 2, 1, 79, 5, 2, 1, 3, 2, 0, 79, 3, 0, 2, 2, 0, 5]), (20, [0, 8], [50, 1, 0, 80, 1, 3, 2, 0, 80, 4, 2, 1, 1, 0, 1]), (20, [0, 12], [50, 1, 0, 81, 1, 3, 2, 0, 81, 4, 2, 1, 1, 0, 1]), (20, [0], [60, 3, 9, 358, 5, 80, 81, 2, 95, 83, 84, 85, 86, 87, 88, 89]), (102, [12], [5759265950624221147542392138950726767439575529717529521720131584, 13081]), (23, [12, 2], [0, 1, -1]), (23, [12, 2], [0, -1, 1]), (23, [8, 2], [0, 1, -1]), (23, [8, 2], [0, -1, 1]), (102, [8], [771330261244315332260141804323758049210657437015740560944660480, 13080]), (23, [8, 2], [0, 1, -1]), (23, [8, 2], [0, -1, 1]), (7, [2, 3], [2])] ta ws vs := hf
  obtain ⟨f0, hf⟩ := fc_un (show (6 : Nat) < 100 from by decide) hf
  have f0 : v_iv (n_v vs 13) = v_iv (n_v vs 2) + 1 := f0
  obtain ⟨f1, hf⟩ := fc_un (show (23 : Nat) < 100 from by decide) hf
  have f1 : 1 * v_iv (n_v vs 12) + ((-1) * v_iv (n_v vs 2) + 0) ≤ 0 := f1
  obtain ⟨f2, hf⟩ := fc_un (show (23 : Nat) < 100 from by decide) hf
  have f2 : (-1) * v_iv (n_v vs 12) + (1 * v_iv (n_v vs 2) + 0) ≤ 0 := f2
  obtain ⟨f3, hf⟩ := fc_un (show (20 : Nat) < 100 from by decide) hf
  have f3 : FRO (w_fi ws (n_v vs 0) 5) (w_ei ws (w_ar ws (n_v vs 0) 2)) (w_ei ws (w_ar ws (n_v vs 0) 95)) (v_iv (n_v vs 12)) (v_iv (n_v vs 9)) := f3
  obtain ⟨f4, hf⟩ := fc_un (show (20 : Nat) < 100 from by decide) hf
  have f4 : TOO (w_fi ws (n_v vs 0) 5) (w_ei ws (w_ar ws (n_v vs 0) 2)) (w_ei ws (w_ar ws (n_v vs 0) 95)) (v_iv (n_v vs 12)) (v_iv (n_v vs 10)) := f4
  obtain ⟨f5, hf⟩ := fc_un (show (20 : Nat) < 100 from by decide) hf
  have f5 : v_iv (n_v vs 11) = 1 := f5
  obtain ⟨f6, hf⟩ := fc_un (show (20 : Nat) < 100 from by decide) hf
  have f6 : TOO (w_fi ws (n_v vs 0) 5) (w_ei ws (w_ar ws (n_v vs 0) 2)) (w_ei ws (w_ar ws (n_v vs 0) 95)) (v_iv (n_v vs 2)) (v_iv (n_v vs 10)) := f6
  obtain ⟨f7, hf⟩ := fc_un (show (20 : Nat) < 100 from by decide) hf
  have f7 : FRO (w_fi ws (n_v vs 0) 5) (w_ei ws (w_ar ws (n_v vs 0) 2)) (w_ei ws (w_ar ws (n_v vs 0) 95)) (v_iv (n_v vs 2)) (v_iv (n_v vs 9)) := f7
  obtain ⟨f8, hf⟩ := fc_un (show (23 : Nat) < 100 from by decide) hf
  have f8 : 1 * v_iv (n_v vs 8) + ((-1) * v_iv (n_v vs 2) + 0) ≤ 0 := f8
  obtain ⟨f9, hf⟩ := fc_un (show (23 : Nat) < 100 from by decide) hf
  have f9 : (-1) * v_iv (n_v vs 8) + (1 * v_iv (n_v vs 2) + 0) ≤ 0 := f9
  obtain ⟨f10, hf⟩ := fc_un (show (20 : Nat) < 100 from by decide) hf
  have f10 : FRO (w_fi ws (n_v vs 0) 5) (w_ei ws (w_ar ws (n_v vs 0) 2)) (w_ei ws (w_ar ws (n_v vs 0) 95)) (v_iv (n_v vs 8)) (v_iv (n_v vs 4)) := f10
  obtain ⟨f11, hf⟩ := fc_un (show (20 : Nat) < 100 from by decide) hf
  have f11 : TOO (w_fi ws (n_v vs 0) 5) (w_ei ws (w_ar ws (n_v vs 0) 2)) (w_ei ws (w_ar ws (n_v vs 0) 95)) (v_iv (n_v vs 8)) (v_iv (n_v vs 5)) := f11
  obtain ⟨f12, hf⟩ := fc_un (show (20 : Nat) < 100 from by decide) hf
  have f12 : TOO (w_fi ws (n_v vs 0) 5) (w_ei ws (w_ar ws (n_v vs 0) 2)) (w_ei ws (w_ar ws (n_v vs 0) 95)) (v_iv (n_v vs 2)) (v_iv (n_v vs 5)) := f12
  obtain ⟨f13, hf⟩ := fc_un (show (20 : Nat) < 100 from by decide) hf
  have f13 : FRO (w_fi ws (n_v vs 0) 5) (w_ei ws (w_ar ws (n_v vs 0) 2)) (w_ei ws (w_ar ws (n_v vs 0) 95)) (v_iv (n_v vs 2)) (v_iv (n_v vs 4)) := f13
  obtain ⟨f14, hf⟩ := fc_un (show (20 : Nat) < 100 from by decide) hf
  have f14 : 1 * v_iv (n_v vs 3) + ((-1) * w_el ws (w_ar ws (n_v vs 0) 2) (w_fi ws (n_v vs 0) 5 + 1).toNat + 0) ≤ 0 := f14
  obtain ⟨f15, hf⟩ := fc_un (show (20 : Nat) < 100 from by decide) hf
  have f15 : (-1) * v_iv (n_v vs 3) + (1 * w_el ws (w_ar ws (n_v vs 0) 2) (w_fi ws (n_v vs 0) 5 + 1).toNat + 0) ≤ 0 := f15
  obtain ⟨f16, hf⟩ := fc_un (show (20 : Nat) < 100 from by decide) hf
  have f16 : PTB (w_ei ws (w_ar ws (n_v vs 0) 110)) (w_ei ws (w_ar ws (n_v vs 0) 111)) (w_ei ws (w_ar ws (n_v vs 0) 112)) := f16
  obtain ⟨f17, hf⟩ := fc_un (show (20 : Nat) < 100 from by decide) hf
  have f17 : SGR (w_fi ws (n_v vs 0) 5) (w_ei ws (w_ar ws (n_v vs 0) 2)) := f17
  obtain ⟨f18, hf⟩ := fc_un (show (20 : Nat) < 100 from by decide) hf
  have f18 : 1 ≤ w_ei ws (w_ar ws (n_v vs 0) 2) (w_fi ws (n_v vs 0) 5) := f18
  obtain ⟨f19, hf⟩ := fc_un (show (20 : Nat) < 100 from by decide) hf
  have f19 : v_iv (n_v vs 2) ≤ w_ei ws (w_ar ws (n_v vs 0) 2) ((w_fi ws (n_v vs 0) 5 + 1)) := f19
  obtain ⟨f20, hf⟩ := fc_un (show (20 : Nat) < 100 from by decide) hf
  have f20 : TRK (w_fi ws (n_v vs 0) 5) (w_ei ws (w_ar ws (n_v vs 0) 2)) (w_ei ws (w_ar ws (n_v vs 0) 95)) := f20
  obtain ⟨f21, hf⟩ := fc_un (show (20 : Nat) < 100 from by decide) hf
  have f21 : w_fi ws (n_v vs 0) 79 = w_ei ws (w_ar ws (n_v vs 0) 2) (w_fi ws (n_v vs 0) 5) := f21
  obtain ⟨f22, hf⟩ := fc_un (show (20 : Nat) < 100 from by decide) hf
  have f22 : w_fi ws (n_v vs 0) 80 = (v_iv (n_v vs 8) + 1) := f22
  obtain ⟨f23, hf⟩ := fc_un (show (20 : Nat) < 100 from by decide) hf
  have f23 : w_fi ws (n_v vs 0) 81 = (v_iv (n_v vs 12) + 1) := f23
  obtain ⟨f24, hf⟩ := fc_un (show (20 : Nat) < 100 from by decide) hf
  have f24 : LCP (w_fi ws (n_v vs 0) 5) (w_fi ws (n_v vs 0) 80) (w_fi ws (n_v vs 0) 81) (w_ei ws (w_ar ws (n_v vs 0) 2)) (w_ei ws (w_ar ws (n_v vs 0) 95)) (w_ei ws (w_ar ws (n_v vs 0) 83)) (w_ei ws (w_ar ws (n_v vs 0) 84)) (w_ei ws (w_ar ws (n_v vs 0) 85)) (w_ei ws (w_ar ws (n_v vs 0) 86)) (w_ei ws (w_ar ws (n_v vs 0) 87)) (w_ei ws (w_ar ws (n_v vs 0) 88)) (w_ei ws (w_ar ws (n_v vs 0) 89)) := f24
  obtain ⟨ta1, w1, le1, ⟨_, s1⟩, hf⟩ := fc_us (show ¬ (102 : Nat) < 100 from by decide) hf
  obtain ⟨f26, hf⟩ := fc_un (show (23 : Nat) < 100 from by decide) hf
  have f26 : 1 * v_iv (n_v vs 12) + ((-1) * v_iv (n_v vs 2) + 0) ≤ 0 := f26
  obtain ⟨f27, hf⟩ := fc_un (show (23 : Nat) < 100 from by decide) hf
  have f27 : (-1) * v_iv (n_v vs 12) + (1 * v_iv (n_v vs 2) + 0) ≤ 0 := f27
  obtain ⟨f28, hf⟩ := fc_un (show (23 : Nat) < 100 from by decide) hf
  have f28 : 1 * v_iv (n_v vs 8) + ((-1) * v_iv (n_v vs 2) + 0) ≤ 0 := f28
  obtain ⟨f29, hf⟩ := fc_un (show (23 : Nat) < 100 from by decide) hf
  have f29 : (-1) * v_iv (n_v vs 8) + (1 * v_iv (n_v vs 2) + 0) ≤ 0 := f29
  obtain ⟨ta2, w2, le2, ⟨_, s2⟩, hf⟩ := fc_us (show ¬ (102 : Nat) < 100 from by decide) hf
  obtain ⟨f31, hf⟩ := fc_un (show (23 : Nat) < 100 from by decide) hf
  have f31 : 1 * v_iv (n_v vs 8) + ((-1) * v_iv (n_v vs 2) + 0) ≤ 0 := f31
  obtain ⟨f32, hf⟩ := fc_un (show (23 : Nat) < 100 from by decide) hf
  have f32 : (-1) * v_iv (n_v vs 8) + (1 * v_iv (n_v vs 2) + 0) ≤ 0 := f32
  obtain ⟨f33, hf⟩ := fc_un (show (7 : Nat) < 100 from by decide) hf
  have f33 : v_iv (n_v vs 2) < v_iv (n_v vs 3) := f33
  have cr_0_2 : ta (w_ar ws (n_v vs 0) 2) = some 152 := tv_rg (th_fd hD hth r0 (g := GG_150) rfl (k := 2) (t := (2, 0, 0, [152])) rfl rfl)
  have cr_0_83 : ta (w_ar ws (n_v vs 0) 83) = some 205 := tv_rg (th_fd hD hth r0 (g := GG_150) rfl (k := 83) (t := (2, 0, 0, [205])) rfl rfl)
  have cr_0_84 : ta (w_ar ws (n_v vs 0) 84) = some 206 := tv_rg (th_fd hD hth r0 (g := GG_150) rfl (k := 84) (t := (2, 0, 0, [206])) rfl rfl)
  have cr_0_85 : ta (w_ar ws (n_v vs 0) 85) = some 207 := tv_rg (th_fd hD hth r0 (g := GG_150) rfl (k := 85) (t := (2, 0, 0, [207])) rfl rfl)
  have cr_0_86 : ta (w_ar ws (n_v vs 0) 86) = some 208 := tv_rg (th_fd hD hth r0 (g := GG_150) rfl (k := 86) (t := (2, 0, 0, [208])) rfl rfl)
  have cr_0_87 : ta (w_ar ws (n_v vs 0) 87) = some 209 := tv_rg (th_fd hD hth r0 (g := GG_150) rfl (k := 87) (t := (2, 0, 0, [209])) rfl rfl)
  have cr_0_88 : ta (w_ar ws (n_v vs 0) 88) = some 210 := tv_rg (th_fd hD hth r0 (g := GG_150) rfl (k := 88) (t := (2, 0, 0, [210])) rfl rfl)
  have cr_0_89 : ta (w_ar ws (n_v vs 0) 89) = some 211 := tv_rg (th_fd hD hth r0 (g := GG_150) rfl (k := 89) (t := (2, 0, 0, [211])) rfl rfl)
  have cr_0_95 : ta (w_ar ws (n_v vs 0) 95) = some 216 := tv_rg (th_fd hD hth r0 (g := GG_150) rfl (k := 95) (t := (2, 0, 0, [216])) rfl rfl)
  have cr_0_110 : ta (w_ar ws (n_v vs 0) 110) = some 227 := tv_rg (th_fd hD hth r0 (g := GG_150) rfl (k := 110) (t := (2, 0, 0, [227])) rfl rfl)
  have cr_0_111 : ta (w_ar ws (n_v vs 0) 111) = some 228 := tv_rg (th_fd hD hth r0 (g := GG_150) rfl (k := 111) (t := (2, 0, 0, [228])) rfl rfl)
  have cr_0_112 : ta (w_ar ws (n_v vs 0) 112) = some 229 := tv_rg (th_fd hD hth r0 (g := GG_150) rfl (k := 112) (t := (2, 0, 0, [229])) rfl rfl)
  have hK_0_83 : ∀ j : Int, 0 ≤ j → j < 200 → 0 ≤ w_ei ws (w_ar ws (n_v vs 0) 83) j ∧ w_ei ws (w_ar ws (n_v vs 0) 83) j ≤ 75 := fun j h0 h1 => th_el hD hth cr_0_83 (kd := 0) (n := 200) (m := 200) (lo := 0) (hi := 75) (rs := []) (L := []) rfl (by decide) (j := j.toNat) (by omega)
  have hK_0_84 : ∀ j : Int, 0 ≤ j → j < 200 → 0 ≤ w_ei ws (w_ar ws (n_v vs 0) 84) j ∧ w_ei ws (w_ar ws (n_v vs 0) 84) j ≤ 75 := fun j h0 h1 => th_el hD hth cr_0_84 (kd := 0) (n := 200) (m := 200) (lo := 0) (hi := 75) (rs := []) (L := []) rfl (by decide) (j := j.toNat) (by omega)
  have hK_0_85 : ∀ j : Int, 0 ≤ j → j < 200 → 0 ≤ w_ei ws (w_ar ws (n_v vs 0) 85) j ∧ w_ei ws (w_ar ws (n_v vs 0) 85) j ≤ 72 := fun j h0 h1 => th_el hD hth cr_0_85 (kd := 0) (n := 200) (m := 200) (lo := 0) (hi := 72) (rs := []) (L := []) rfl (by decide) (j := j.toNat) (by omega)
  have hK_0_86 : ∀ j : Int, 0 ≤ j → j < 200 → 0 ≤ w_ei ws (w_ar ws (n_v vs 0) 86) j ∧ w_ei ws (w_ar ws (n_v vs 0) 86) j ≤ 1 := fun j h0 h1 => th_el hD hth cr_0_86 (kd := 2) (n := 200) (m := 200) (lo := 0) (hi := 1) (rs := []) (L := []) rfl (by decide) (j := j.toNat) (by omega)
  have hK_0_87 : ∀ j : Int, 0 ≤ j → j < 200 → 0 ≤ w_ei ws (w_ar ws (n_v vs 0) 87) j ∧ w_ei ws (w_ar ws (n_v vs 0) 87) j ≤ 75 := fun j h0 h1 => th_el hD hth cr_0_87 (kd := 0) (n := 200) (m := 200) (lo := 0) (hi := 75) (rs := []) (L := []) rfl (by decide) (j := j.toNat) (by omega)
  have hK_0_88 : ∀ j : Int, 0 ≤ j → j < 200 → 0 ≤ w_ei ws (w_ar ws (n_v vs 0) 88) j ∧ w_ei ws (w_ar ws (n_v vs 0) 88) j ≤ 75 := fun j h0 h1 => th_el hD hth cr_0_88 (kd := 0) (n := 200) (m := 200) (lo := 0) (hi := 75) (rs := []) (L := []) rfl (by decide) (j := j.toNat) (by omega)
  have hK_0_89 : ∀ j : Int, 0 ≤ j → j < 200 → 0 ≤ w_ei ws (w_ar ws (n_v vs 0) 89) j ∧ w_ei ws (w_ar ws (n_v vs 0) 89) j ≤ 202 := fun j h0 h1 => th_el hD hth cr_0_89 (kd := 0) (n := 200) (m := 200) (lo := 0) (hi := 202) (rs := []) (L := []) rfl (by decide) (j := j.toNat) (by omega)
  have hK_0_95 : ∀ j : Int, 0 ≤ j → j < 48 → 0 ≤ w_ei ws (w_ar ws (n_v vs 0) 95) j ∧ w_ei ws (w_ar ws (n_v vs 0) 95) j ≤ 1 := fun j h0 h1 => th_el hD hth cr_0_95 (kd := 2) (n := 48) (m := 48) (lo := 0) (hi := 1) (rs := []) (L := []) rfl (by decide) (j := j.toNat) (by omega)
  have hK_0_110 : ∀ j : Int, 0 ≤ j → j < 8 → 0 ≤ w_ei ws (w_ar ws (n_v vs 0) 110) j ∧ w_ei ws (w_ar ws (n_v vs 0) 110) j ≤ 5500 := fun j h0 h1 => th_el hD hth cr_0_110 (kd := 0) (n := 8) (m := 8) (lo := 0) (hi := 5500) (rs := []) (L := []) rfl (by decide) (j := j.toNat) (by omega)
  have hK_0_111 : ∀ j : Int, 0 ≤ j → j < 8 → 0 ≤ w_ei ws (w_ar ws (n_v vs 0) 111) j ∧ w_ei ws (w_ar ws (n_v vs 0) 111) j ≤ 720 := fun j h0 h1 => th_el hD hth cr_0_111 (kd := 0) (n := 8) (m := 8) (lo := 0) (hi := 720) (rs := []) (L := []) rfl (by decide) (j := j.toNat) (by omega)
  have hK_0_112 : ∀ j : Int, 0 ≤ j → j < 6000 → 0 ≤ w_ei ws (w_ar ws (n_v vs 0) 112) j ∧ w_ei ws (w_ar ws (n_v vs 0) 112) j ≤ 5 := fun j h0 h1 => th_el hD hth cr_0_112 (kd := 1) (n := 6000) (m := 6000) (lo := 0) (hi := 5) (rs := []) (L := []) rfl (by decide) (j := j.toNat) (by omega)
  have kz_0_79 : 0 ≤ w_fi ws (n_v vs 0) 79 ∧ w_fi ws (n_v vs 0) 79 ≤ 76 := tv_rng (th_fd hD hth r0 (g := GG_150) rfl (k := 79) (t := (0, 0, 76, [])) rfl rfl)
  have kz_0_80 : 0 ≤ w_fi ws (n_v vs 0) 80 ∧ w_fi ws (n_v vs 0) 80 ≤ 200 := tv_rng (th_fd hD hth r0 (g := GG_150) rfl (k := 80) (t := (0, 0, 200, [])) rfl rfl)
  have kz_0_81 : 0 ≤ w_fi ws (n_v vs 0) 81 ∧ w_fi ws (n_v vs 0) 81 ≤ 200 := tv_rng (th_fd hD hth r0 (g := GG_150) rfl (k := 81) (t := (0, 0, 200, [])) rfl rfl)
  have nf0 : fc_1 PRD (20, [13, 0], [50, 1, 1, 1005, 1002, 0, 2, 1, 0, 3, 1, 2, 4, 3, 2, 1, 5, 0, 1]) ws (vs) := by
    refine ⟨fun n hn => ?_, ?_⟩
    · have hn : n ∈ [13, 0] := hn
      rw [hl]
      simp only [List.mem_cons, List.not_mem_nil, or_false] at hn
      show n < 14; omega
    · show v_iv (n_v vs 13) ≤ w_ei ws (w_ar ws (n_v vs 0) 2) ((w_fi ws (n_v vs 0) 5 + 1))
      exact vc_Mo_layers_5_0 (v_iv (n_v vs 2)) (v_iv (n_v vs 3)) (v_iv (n_v vs 4)) (v_iv (n_v vs 5)) (v_iv (n_v vs 8)) (v_iv (n_v vs 9)) (v_iv (n_v vs 10)) (v_iv (n_v vs 11)) (v_iv (n_v vs 12)) (v_iv (n_v vs 13)) (w_ei ws (w_ar ws (n_v vs 0) 2)) (w_ei ws (w_ar ws (n_v vs 0) 95)) (w_fi ws (n_v vs 0) 5) (w_ei ws (w_ar ws (n_v vs 0) 110)) (w_ei ws (w_ar ws (n_v vs 0) 111)) (w_ei ws (w_ar ws (n_v vs 0) 112)) (w_fi ws (n_v vs 0) 79) (w_fi ws (n_v vs 0) 80) (w_fi ws (n_v vs 0) 81) (w_ei ws (w_ar ws (n_v vs 0) 83)) (w_ei ws (w_ar ws (n_v vs 0) 84)) (w_ei ws (w_ar ws (n_v vs 0) 85)) (w_ei ws (w_ar ws (n_v vs 0) 86)) (w_ei ws (w_ar ws (n_v vs 0) 87)) (w_ei ws (w_ar ws (n_v vs 0) 88)) (w_ei ws (w_ar ws (n_v vs 0) 89)) k2 k3 k4 k5 k8 k9 k10 k11 k12 k13 d0 d1 d2 f0 f1 f2 f3 f4 f5 f6 f7 f8 f9 f10 f11 f12 f13 f14 f15 f16 f17 f18 f19 f20 f21 f22 f23 f24 f26 f27 f28 f29 f31 f32 f33 hK_0_83 hK_0_84 hK_0_85 hK_0_86 hK_0_87 hK_0_88 hK_0_89 hK_0_95 hK_0_110 hK_0_111 hK_0_112 kz_0_79 kz_0_80 kz_0_81
  have nf1 : fc_1 PRD (20, [0, 13], [50, 1, 0, 80, 1, 3, 2, 0, 80, 1, 1]) ws (vs) := by
    refine ⟨fun n hn => ?_, ?_⟩
    · have hn : n ∈ [0, 13] := hn
      rw [hl]
      simp only [List.mem_cons, List.not_mem_nil, or_false] at hn
      show n < 14; omega
    · show w_fi ws (n_v vs 0) 80 = v_iv (n_v vs 13)
      exact vc_Mo_layers_5_1 (v_iv (n_v vs 2)) (v_iv (n_v vs 3)) (v_iv (n_v vs 4)) (v_iv (n_v vs 5)) (v_iv (n_v vs 8)) (v_iv (n_v vs 9)) (v_iv (n_v vs 10)) (v_iv (n_v vs 11)) (v_iv (n_v vs 12)) (v_iv (n_v vs 13)) (w_ei ws (w_ar ws (n_v vs 0) 2)) (w_ei ws (w_ar ws (n_v vs 0) 95)) (w_fi ws (n_v vs 0) 5) (w_ei ws (w_ar ws (n_v vs 0) 110)) (w_ei ws (w_ar ws (n_v vs 0) 111)) (w_ei ws (w_ar ws (n_v vs 0) 112)) (w_fi ws (n_v vs 0) 79) (w_fi ws (n_v vs 0) 80) (w_fi ws (n_v vs 0) 81) (w_ei ws (w_ar ws (n_v vs 0) 83)) (w_ei ws (w_ar ws (n_v vs 0) 84)) (w_ei ws (w_ar ws (n_v vs 0) 85)) (w_ei ws (w_ar ws (n_v vs 0) 86)) (w_ei ws (w_ar ws (n_v vs 0) 87)) (w_ei ws (w_ar ws (n_v vs 0) 88)) (w_ei ws (w_ar ws (n_v vs 0) 89)) k2 k3 k4 k5 k8 k9 k10 k11 k12 k13 d0 d1 d2 f0 f1 f2 f3 f4 f5 f6 f7 f8 f9 f10 f11 f12 f13 f14 f15 f16 f17 f18 f19 f20 f21 f22 f23 f24 f26 f27 f28 f29 f31 f32 f33 hK_0_83 hK_0_84 hK_0_85 hK_0_86 hK_0_87 hK_0_88 hK_0_89 hK_0_95 hK_0_110 hK_0_111 hK_0_112 kz_0_79 kz_0_80 kz_0_81
  have nf2 : fc_1 PRD (20, [0, 13], [50, 1, 0, 81, 1, 3, 2, 0, 81, 1, 1]) ws (vs) := by
    refine ⟨fun n hn => ?_, ?_⟩
    · have hn : n ∈ [0, 13] := hn
      rw [hl]
      simp only [List.mem_cons, List.not_mem_nil, or_false] at hn
      show n < 14; omega
    · show w_fi ws (n_v vs 0) 81 = v_iv (n_v vs 13)
      exact vc_Mo_layers_5_2 (v_iv (n_v vs 2)) (v_iv (n_v vs 3)) (v_iv (n_v vs 4)) (v_iv (n_v vs 5)) (v_iv (n_v vs 8)) (v_iv (n_v vs 9)) (v_iv (n_v vs 10)) (v_iv (n_v vs 11)) (v_iv (n_v vs 12)) (v_iv (n_v vs 13)) (w_ei ws (w_ar ws (n_v vs 0) 2)) (w_ei ws (w_ar ws (n_v vs 0) 95)) (w_fi ws (n_v vs 0) 5) (w_ei ws (w_ar ws (n_v vs 0) 110)) (w_ei ws (w_ar ws (n_v vs 0) 111)) (w_ei ws (w_ar ws (n_v vs 0) 112)) (w_fi ws (n_v vs 0) 79) (w_fi ws (n_v vs 0) 80) (w_fi ws (n_v vs 0) 81) (w_ei ws (w_ar ws (n_v vs 0) 83)) (w_ei ws (w_ar ws (n_v vs 0) 84)) (w_ei ws (w_ar ws (n_v vs 0) 85)) (w_ei ws (w_ar ws (n_v vs 0) 86)) (w_ei ws (w_ar ws (n_v vs 0) 87)) (w_ei ws (w_ar ws (n_v vs 0) 88)) (w_ei ws (w_ar ws (n_v vs 0) 89)) k2 k3 k4 k5 k8 k9 k10 k11 k12 k13 d0 d1 d2 f0 f1 f2 f3 f4 f5 f6 f7 f8 f9 f10 f11 f12 f13 f14 f15 f16 f17 f18 f19 f20 f21 f22 f23 f24 f26 f27 f28 f29 f31 f32 f33 hK_0_83 hK_0_84 hK_0_85 hK_0_86 hK_0_87 hK_0_88 hK_0_89 hK_0_95 hK_0_110 hK_0_111 hK_0_112 kz_0_79 kz_0_80 kz_0_81
  refine ⟨(fun _ h => (by cases h)), [], trivial, ?_, (fun _ h => (by cases h))⟩
  rw [List.append_nil]
  exact List.forall_mem_cons.mpr ⟨⟨show (20 : Nat) < 100 from by decide, nf0⟩, List.forall_mem_cons.mpr ⟨⟨show (20 : Nat) < 100 from by decide, nf1⟩, List.forall_mem_cons.mpr ⟨⟨show (20 : Nat) < 100 from by decide, nf2⟩, (fun _ h => (by cases h))⟩⟩⟩
set_option maxHeartbeats 4000000 in
theorem vc_Mo_layers_6_0 (x2 : Int) (x3 : Int) (x4 : Int) (x5 : Int) (x6 : Int) (permBegin_0 : Int → Int) (permMany_0 : Int → Int) (perm_0 : Int → Int) (all_0 : Int → Int) (r_0 : Int) (turned_0 : Int → Int) (spot_0 : Int → Int) (itemLayer_0 : Int → Int) (k2 : 0 ≤ x2 ∧ x2 ≤ 24) (k3 : 0 ≤ x3 ∧ x3 ≤ 0) (k4 : 0 ≤ x4 ∧ x4 ≤ 0) (k5 : 0 ≤ x5 ∧ x5 ≤ 24) (k6 : 0 ≤ x6 ∧ x6 ≤ 0) (d0 : x2 + 0 ≤ x5 ∧ x5 ≤ x2 + 4294967296) (d1 : x2 + (-4294967296) ≤ x5 ∧ x5 ≤ x2 + 0) (f0 : x2 ≤ x5) (f1 : PTB (permBegin_0) (permMany_0) (perm_0)) (f2 : SGR (r_0) (all_0)) (f3 : 1 ≤ all_0 (r_0)) (f4 : LYP (r_0) (all_0) (turned_0) (spot_0)) (f5 : ILE (itemLayer_0) (spot_0) (x5)) (f6 : x2 = all_0 (r_0)) (hK_0_82 : ∀ j : Int, 0 ≤ j → j < 76 → 0 ≤ spot_0 j ∧ spot_0 j ≤ 221100000) (hK_0_95 : ∀ j : Int, 0 ≤ j → j < 48 → 0 ≤ turned_0 j ∧ turned_0 j ≤ 1) (hK_0_102 : ∀ j : Int, 0 ≤ j → j < 76 → 0 ≤ itemLayer_0 j ∧ itemLayer_0 j ≤ 75) (hK_0_110 : ∀ j : Int, 0 ≤ j → j < 8 → 0 ≤ permBegin_0 j ∧ permBegin_0 j ≤ 5500) (hK_0_111 : ∀ j : Int, 0 ≤ j → j < 8 → 0 ≤ permMany_0 j ∧ permMany_0 j ≤ 720) (hK_0_112 : ∀ j : Int, 0 ≤ j → j < 6000 → 0 ≤ perm_0 j ∧ perm_0 j ≤ 5) : x6 ≤ all_0 ((r_0 + 1)) := by
  try simp only [Int.add_zero] at *
  first
    | omega
    | (have h := ‹SGR _ _›.1; omega)
    | (have h := lyp_d (e := x5) (a := x10) (b := x8) (ya := x11) (yb := x9) ‹LYP _ _ _ _› (by omega) (by omega) (by assumption) (by assumption) (by assumption) (by assumption)
       have q := Int.mul_le_mul (show x16 ≤ 9 by omega) (show x12 ≤ 23 by omega) (by omega) (by omega)
       have q0 := Int.mul_nonneg (show 0 ≤ x16 by omega) (show 0 ≤ x12 by omega)
       omega)
set_option maxHeartbeats 4000000 in
theorem vc_Mo_layers_6_1 (x2 : Int) (x3 : Int) (x4 : Int) (x5 : Int) (x6 : Int) (permBegin_0 : Int → Int) (permMany_0 : Int → Int) (perm_0 : Int → Int) (all_0 : Int → Int) (r_0 : Int) (turned_0 : Int → Int) (spot_0 : Int → Int) (itemLayer_0 : Int → Int) (k2 : 0 ≤ x2 ∧ x2 ≤ 24) (k3 : 0 ≤ x3 ∧ x3 ≤ 0) (k4 : 0 ≤ x4 ∧ x4 ≤ 0) (k5 : 0 ≤ x5 ∧ x5 ≤ 24) (k6 : 0 ≤ x6 ∧ x6 ≤ 0) (d0 : x2 + 0 ≤ x5 ∧ x5 ≤ x2 + 4294967296) (d1 : x2 + (-4294967296) ≤ x5 ∧ x5 ≤ x2 + 0) (f0 : x2 ≤ x5) (f1 : PTB (permBegin_0) (permMany_0) (perm_0)) (f2 : SGR (r_0) (all_0)) (f3 : 1 ≤ all_0 (r_0)) (f4 : LYP (r_0) (all_0) (turned_0) (spot_0)) (f5 : ILE (itemLayer_0) (spot_0) (x5)) (f6 : x2 = all_0 (r_0)) (hK_0_82 : ∀ j : Int, 0 ≤ j → j < 76 → 0 ≤ spot_0 j ∧ spot_0 j ≤ 221100000) (hK_0_95 : ∀ j : Int, 0 ≤ j → j < 48 → 0 ≤ turned_0 j ∧ turned_0 j ≤ 1) (hK_0_102 : ∀ j : Int, 0 ≤ j → j < 76 → 0 ≤ itemLayer_0 j ∧ itemLayer_0 j ≤ 75) (hK_0_110 : ∀ j : Int, 0 ≤ j → j < 8 → 0 ≤ permBegin_0 j ∧ permBegin_0 j ≤ 5500) (hK_0_111 : ∀ j : Int, 0 ≤ j → j < 8 → 0 ≤ permMany_0 j ∧ permMany_0 j ≤ 720) (hK_0_112 : ∀ j : Int, 0 ≤ j → j < 6000 → 0 ≤ perm_0 j ∧ perm_0 j ≤ 5) : ILX (r_0) (all_0) (itemLayer_0) (spot_0) := by
  try simp only [Int.add_zero] at *
  first
    | assumption
    | exact fun j a b => ‹ILE _ _ _› j a (by omega)
set_option maxHeartbeats 4000000 in
theorem vc_Mo_layers_6_2 (x2 : Int) (x3 : Int) (x4 : Int) (x5 : Int) (x6 : Int) (permBegin_0 : Int → Int) (permMany_0 : Int → Int) (perm_0 : Int → Int) (all_0 : Int → Int) (r_0 : Int) (turned_0 : Int → Int) (spot_0 : Int → Int) (itemLayer_0 : Int → Int) (k2 : 0 ≤ x2 ∧ x2 ≤ 24) (k3 : 0 ≤ x3 ∧ x3 ≤ 0) (k4 : 0 ≤ x4 ∧ x4 ≤ 0) (k5 : 0 ≤ x5 ∧ x5 ≤ 24) (k6 : 0 ≤ x6 ∧ x6 ≤ 0) (d0 : x2 + 0 ≤ x5 ∧ x5 ≤ x2 + 4294967296) (d1 : x2 + (-4294967296) ≤ x5 ∧ x5 ≤ x2 + 0) (f0 : x2 ≤ x5) (f1 : PTB (permBegin_0) (permMany_0) (perm_0)) (f2 : SGR (r_0) (all_0)) (f3 : 1 ≤ all_0 (r_0)) (f4 : LYP (r_0) (all_0) (turned_0) (spot_0)) (f5 : ILE (itemLayer_0) (spot_0) (x5)) (f6 : x2 = all_0 (r_0)) (hK_0_82 : ∀ j : Int, 0 ≤ j → j < 76 → 0 ≤ spot_0 j ∧ spot_0 j ≤ 221100000) (hK_0_95 : ∀ j : Int, 0 ≤ j → j < 48 → 0 ≤ turned_0 j ∧ turned_0 j ≤ 1) (hK_0_102 : ∀ j : Int, 0 ≤ j → j < 76 → 0 ≤ itemLayer_0 j ∧ itemLayer_0 j ≤ 75) (hK_0_110 : ∀ j : Int, 0 ≤ j → j < 8 → 0 ≤ permBegin_0 j ∧ permBegin_0 j ≤ 5500) (hK_0_111 : ∀ j : Int, 0 ≤ j → j < 8 → 0 ≤ permMany_0 j ∧ permMany_0 j ≤ 720) (hK_0_112 : ∀ j : Int, 0 ≤ j → j < 6000 → 0 ≤ perm_0 j ∧ perm_0 j ≤ 5) : JNT (r_0) (all_0) (turned_0) (spot_0) (x6) (x3) := by
  first
    | exact jnt_zero (by omega) (by omega)
    | exact jnt_step (a := x10) (b := x8) (ya := x11) (yb := x9) (d := x12) ‹JNT _ _ _ _ _ _› (by omega) (by assumption) (by assumption) (by assumption) (by assumption) (by assumption) (by assumption) (by omega)
set_option maxHeartbeats 4000000 in
theorem vc_Mo_layers_6_3 (x2 : Int) (x3 : Int) (x4 : Int) (x5 : Int) (x6 : Int) (permBegin_0 : Int → Int) (permMany_0 : Int → Int) (perm_0 : Int → Int) (all_0 : Int → Int) (r_0 : Int) (turned_0 : Int → Int) (spot_0 : Int → Int) (itemLayer_0 : Int → Int) (k2 : 0 ≤ x2 ∧ x2 ≤ 24) (k3 : 0 ≤ x3 ∧ x3 ≤ 0) (k4 : 0 ≤ x4 ∧ x4 ≤ 0) (k5 : 0 ≤ x5 ∧ x5 ≤ 24) (k6 : 0 ≤ x6 ∧ x6 ≤ 0) (d0 : x2 + 0 ≤ x5 ∧ x5 ≤ x2 + 4294967296) (d1 : x2 + (-4294967296) ≤ x5 ∧ x5 ≤ x2 + 0) (f0 : x2 ≤ x5) (f1 : PTB (permBegin_0) (permMany_0) (perm_0)) (f2 : SGR (r_0) (all_0)) (f3 : 1 ≤ all_0 (r_0)) (f4 : LYP (r_0) (all_0) (turned_0) (spot_0)) (f5 : ILE (itemLayer_0) (spot_0) (x5)) (f6 : x2 = all_0 (r_0)) (hK_0_82 : ∀ j : Int, 0 ≤ j → j < 76 → 0 ≤ spot_0 j ∧ spot_0 j ≤ 221100000) (hK_0_95 : ∀ j : Int, 0 ≤ j → j < 48 → 0 ≤ turned_0 j ∧ turned_0 j ≤ 1) (hK_0_102 : ∀ j : Int, 0 ≤ j → j < 76 → 0 ≤ itemLayer_0 j ∧ itemLayer_0 j ≤ 75) (hK_0_110 : ∀ j : Int, 0 ≤ j → j < 8 → 0 ≤ permBegin_0 j ∧ permBegin_0 j ≤ 5500) (hK_0_111 : ∀ j : Int, 0 ≤ j → j < 8 → 0 ≤ permMany_0 j ∧ permMany_0 j ≤ 720) (hK_0_112 : ∀ j : Int, 0 ≤ j → j < 6000 → 0 ≤ perm_0 j ∧ perm_0 j ≤ 5) : (0 ≤ x3) ∧ (x3 ≤ (22 * x6)) := by
  try simp only [Int.add_zero] at *
  first
    | omega
    | (have h := ‹SGR _ _›.1; omega)
    | (have h := lyp_d (e := x5) (a := x10) (b := x8) (ya := x11) (yb := x9) ‹LYP _ _ _ _› (by omega) (by omega) (by assumption) (by assumption) (by assumption) (by assumption)
       have q := Int.mul_le_mul (show x16 ≤ 9 by omega) (show x12 ≤ 23 by omega) (by omega) (by omega)
       have q0 := Int.mul_nonneg (show 0 ≤ x16 by omega) (show 0 ≤ x12 by omega)
       omega)
set_option maxHeartbeats 4000000 in
theorem vc_Mo_layers_6_4 (x2 : Int) (x3 : Int) (x4 : Int) (x5 : Int) (x6 : Int) (permBegin_0 : Int → Int) (permMany_0 : Int → Int) (perm_0 : Int → Int) (all_0 : Int → Int) (r_0 : Int) (turned_0 : Int → Int) (spot_0 : Int → Int) (itemLayer_0 : Int → Int) (k2 : 0 ≤ x2 ∧ x2 ≤ 24) (k3 : 0 ≤ x3 ∧ x3 ≤ 0) (k4 : 0 ≤ x4 ∧ x4 ≤ 0) (k5 : 0 ≤ x5 ∧ x5 ≤ 24) (k6 : 0 ≤ x6 ∧ x6 ≤ 0) (d0 : x2 + 0 ≤ x5 ∧ x5 ≤ x2 + 4294967296) (d1 : x2 + (-4294967296) ≤ x5 ∧ x5 ≤ x2 + 0) (f0 : x2 ≤ x5) (f1 : PTB (permBegin_0) (permMany_0) (perm_0)) (f2 : SGR (r_0) (all_0)) (f3 : 1 ≤ all_0 (r_0)) (f4 : LYP (r_0) (all_0) (turned_0) (spot_0)) (f5 : ILE (itemLayer_0) (spot_0) (x5)) (f6 : x2 = all_0 (r_0)) (hK_0_82 : ∀ j : Int, 0 ≤ j → j < 76 → 0 ≤ spot_0 j ∧ spot_0 j ≤ 221100000) (hK_0_95 : ∀ j : Int, 0 ≤ j → j < 48 → 0 ≤ turned_0 j ∧ turned_0 j ≤ 1) (hK_0_102 : ∀ j : Int, 0 ≤ j → j < 76 → 0 ≤ itemLayer_0 j ∧ itemLayer_0 j ≤ 75) (hK_0_110 : ∀ j : Int, 0 ≤ j → j < 8 → 0 ≤ permBegin_0 j ∧ permBegin_0 j ≤ 5500) (hK_0_111 : ∀ j : Int, 0 ≤ j → j < 8 → 0 ≤ permMany_0 j ∧ permMany_0 j ≤ 720) (hK_0_112 : ∀ j : Int, 0 ≤ j → j < 6000 → 0 ≤ perm_0 j ∧ perm_0 j ≤ 5) : (0 ≤ x4) ∧ (x4 ≤ (207 * x6)) := by
  try simp only [Int.add_zero] at *
  first
    | omega
    | (have h := ‹SGR _ _›.1; omega)
    | (have h := lyp_d (e := x5) (a := x10) (b := x8) (ya := x11) (yb := x9) ‹LYP _ _ _ _› (by omega) (by omega) (by assumption) (by assumption) (by assumption) (by assumption)
       have q := Int.mul_le_mul (show x16 ≤ 9 by omega) (show x12 ≤ 23 by omega) (by omega) (by omega)
       have q0 := Int.mul_nonneg (show 0 ≤ x16 by omega) (show 0 ≤ x12 by omega)
       omega)
def o_Mo_layers_6 : or_T := (119, 7, [(0, (2, 0, 0, [150])), (2, (0, 0, 24, [])), (3, (0, 0, 0, [])), (4, (0, 0, 0, [])), (5, (0, 0, 24, [])), (6, (0, 0, 0, []))], [(7, [5, 2], [3]), (20, [0], [60, 0, 3, 291, 110, 111, 112]), (20, [0], [60, 1, 1, 122, 5, 2]), (20, [0], [50, 1, 1, 5, 2, 0, 2, 0, 1, 3, 0, 2, 2, 0, 5]), (20, [0], [60, 1, 3, 359, 5, 2, 95, 82]), (20, [0, 5], [60, 0, 2, 360, 102, 82]), (20, [2, 0], [50, 1, 1, 1005, 1002, 1, 2, 1, 0, 3, 1, 2, 2, 1, 5])], [], [], [(20, [6, 0], [50, 1, 1, 1005, 1002, 0, 2, 1, 0, 3, 1, 2, 4, 3, 2, 1, 5, 0, 1]), (20, [0], [60, 1, 3, 416, 5, 2, 102, 82]), (20, [0, 6, 3], [60, 1, 3, 361, 5, 2, 95, 82]), (20, [3, 6], [50, 0, 0, 2, 6, 0, 2, 0, 0, 1, 0, 0, 2, 1, 0, 6, 2, 0, 22, 1, 1]), (20, [4, 6], [50, 0, 0, 2, 6, 0, 2, 0, 0, 1, 0, 0, 2, 1, 0, 6, 2, 0, 207, 1, 1])], [], [(5, 2, 0, 4294967296), (5, 2, -4294967296, 0)])
theorem oo_Mo_layers_6 {kA : Nat → ClassId} : or_ok PRD kA GG o_Mo_layers_6 := by
  intro A ta ws vs hD hth hl hk hds hf
  have hl : vs.length = 7 := hl
  have hk : ∀ q ∈ ([(0, (2, 0, 0, [150])), (2, (0, 0, 24, [])), (3, (0, 0, 0, [])), (4, (0, 0, 0, [])), (5, (0, 0, 24, [])), (6, (0, 0, 0, []))] : List (Nat × tv_T)), tv_ok ta q.2 (n_v vs q.1) := hk
  obtain ⟨t0, hk⟩ := List.forall_mem_cons.mp hk
  have t0 : tv_ok ta (2, 0, 0, [150]) (n_v vs 0) := t0
  have r0 : ta (v_ad (n_v vs 0)) = some 150 := tv_rg t0
  obtain ⟨t2, hk⟩ := List.forall_mem_cons.mp hk
  have t2 : tv_ok ta (0, 0, 24, []) (n_v vs 2) := t2
  have k2 : 0 ≤ v_iv (n_v vs 2) ∧ v_iv (n_v vs 2) ≤ 24 := tv_rng t2
  obtain ⟨t3, hk⟩ := List.forall_mem_cons.mp hk
  have t3 : tv_ok ta (0, 0, 0, []) (n_v vs 3) := t3
  have k3 : 0 ≤ v_iv (n_v vs 3) ∧ v_iv (n_v vs 3) ≤ 0 := tv_rng t3
  obtain ⟨t4, hk⟩ := List.forall_mem_cons.mp hk
  have t4 : tv_ok ta (0, 0, 0, []) (n_v vs 4) := t4
  have k4 : 0 ≤ v_iv (n_v vs 4) ∧ v_iv (n_v vs 4) ≤ 0 := tv_rng t4
  obtain ⟨t5, hk⟩ := List.forall_mem_cons.mp hk
  have t5 : tv_ok ta (0, 0, 24, []) (n_v vs 5) := t5
  have k5 : 0 ≤ v_iv (n_v vs 5) ∧ v_iv (n_v vs 5) ≤ 24 := tv_rng t5
  obtain ⟨t6, hk⟩ := List.forall_mem_cons.mp hk
  have t6 : tv_ok ta (0, 0, 0, []) (n_v vs 6) := t6
  have k6 : 0 ≤ v_iv (n_v vs 6) ∧ v_iv (n_v vs 6) ≤ 0 := tv_rng t6
  have hds : ∀ q ∈ ([(5, 2, 0, 4294967296), (5, 2, -4294967296, 0)] : List of_T), n_iv vs q.2.1 + q.2.2.1 ≤ n_iv vs q.1 ∧ n_iv vs q.1 ≤ n_iv vs q.2.1 + q.2.2.2 := hds
  obtain ⟨d0, hds⟩ := List.forall_mem_cons.mp hds
  have d0 : v_iv (n_v vs 2) + 0 ≤ v_iv (n_v vs 5) ∧ v_iv (n_v vs 5) ≤ v_iv (n_v vs 2) + 4294967296 := d0
  obtain ⟨d1, hds⟩ := List.forall_mem_cons.mp hds
  have d1 : v_iv (n_v vs 2) + (-4294967296) ≤ v_iv (n_v vs 5) ∧ v_iv (n_v vs 5) ≤ v_iv (n_v vs 2) + 0 := d1
  have hf : fc_ok PRD [(7, [5, 2], [3]), (20, [0], [60, 0, 3, 291, 110, 111, 112]), (20, [0], [60, 1, 1, 122, 5, 2]), (20, [0], [50, 1, 1, 5, 2, 0, 2, 0, 1, 3, 0, 2, 2, 0, 5]), (20, [0], [60, 1, 3, 359, 5, 2, 95, 82]), (20, [0, 5], [60, 0, 2, 360, 102, 82]), (20, [2, 0], [50, 1, 1, 1005, 1002, 1, 2, 1, 0, 3, 1, 2, 2, 1, 5])] ta ws vs := hf
  obtain ⟨f0, hf⟩ := fc_un (show (7 : Nat) < 100 from by decide) hf
  have f0 : v_iv (n_v vs 2) ≤ v_iv (n_v vs 5) := f0
  obtain ⟨f1, hf⟩ := fc_un (show (20 : Nat) < 100 from by decide) hf
  have f1 : PTB (w_ei ws (w_ar ws (n_v vs 0) 110)) (w_ei ws (w_ar ws (n_v vs 0) 111)) (w_ei ws (w_ar ws (n_v vs 0) 112)) := f1
  obtain ⟨f2, hf⟩ := fc_un (show (20 : Nat) < 100 from by decide) hf
  have f2 : SGR (w_fi ws (n_v vs 0) 5) (w_ei ws (w_ar ws (n_v vs 0) 2)) := f2
  obtain ⟨f3, hf⟩ := fc_un (show (20 : Nat) < 100 from by decide) hf
  have f3 : 1 ≤ w_ei ws (w_ar ws (n_v vs 0) 2) (w_fi ws (n_v vs 0) 5) := f3
  obtain ⟨f4, hf⟩ := fc_un (show (20 : Nat) < 100 from by decide) hf
  have f4 : LYP (w_fi ws (n_v vs 0) 5) (w_ei ws (w_ar ws (n_v vs 0) 2)) (w_ei ws (w_ar ws (n_v vs 0) 95)) (w_ei ws (w_ar ws (n_v vs 0) 82)) := f4
  obtain ⟨f5, hf⟩ := fc_un (show (20 : Nat) < 100 from by decide) hf
  have f5 : ILE (w_ei ws (w_ar ws (n_v vs 0) 102)) (w_ei ws (w_ar ws (n_v vs 0) 82)) (v_iv (n_v vs 5)) := f5
  obtain ⟨f6, hf⟩ := fc_un (show (20 : Nat) < 100 from by decide) hf
  have f6 : v_iv (n_v vs 2) = w_ei ws (w_ar ws (n_v vs 0) 2) (w_fi ws (n_v vs 0) 5) := f6
  have cr_0_2 : ta (w_ar ws (n_v vs 0) 2) = some 152 := tv_rg (th_fd hD hth r0 (g := GG_150) rfl (k := 2) (t := (2, 0, 0, [152])) rfl rfl)
  have cr_0_82 : ta (w_ar ws (n_v vs 0) 82) = some 204 := tv_rg (th_fd hD hth r0 (g := GG_150) rfl (k := 82) (t := (2, 0, 0, [204])) rfl rfl)
  have cr_0_95 : ta (w_ar ws (n_v vs 0) 95) = some 216 := tv_rg (th_fd hD hth r0 (g := GG_150) rfl (k := 95) (t := (2, 0, 0, [216])) rfl rfl)
  have cr_0_102 : ta (w_ar ws (n_v vs 0) 102) = some 220 := tv_rg (th_fd hD hth r0 (g := GG_150) rfl (k := 102) (t := (2, 0, 0, [220])) rfl rfl)
  have cr_0_110 : ta (w_ar ws (n_v vs 0) 110) = some 227 := tv_rg (th_fd hD hth r0 (g := GG_150) rfl (k := 110) (t := (2, 0, 0, [227])) rfl rfl)
  have cr_0_111 : ta (w_ar ws (n_v vs 0) 111) = some 228 := tv_rg (th_fd hD hth r0 (g := GG_150) rfl (k := 111) (t := (2, 0, 0, [228])) rfl rfl)
  have cr_0_112 : ta (w_ar ws (n_v vs 0) 112) = some 229 := tv_rg (th_fd hD hth r0 (g := GG_150) rfl (k := 112) (t := (2, 0, 0, [229])) rfl rfl)
  have hK_0_82 : ∀ j : Int, 0 ≤ j → j < 76 → 0 ≤ w_ei ws (w_ar ws (n_v vs 0) 82) j ∧ w_ei ws (w_ar ws (n_v vs 0) 82) j ≤ 221100000 := fun j h0 h1 => th_el hD hth cr_0_82 (kd := 0) (n := 76) (m := 76) (lo := 0) (hi := 221100000) (rs := []) (L := []) rfl (by decide) (j := j.toNat) (by omega)
  have hK_0_95 : ∀ j : Int, 0 ≤ j → j < 48 → 0 ≤ w_ei ws (w_ar ws (n_v vs 0) 95) j ∧ w_ei ws (w_ar ws (n_v vs 0) 95) j ≤ 1 := fun j h0 h1 => th_el hD hth cr_0_95 (kd := 2) (n := 48) (m := 48) (lo := 0) (hi := 1) (rs := []) (L := []) rfl (by decide) (j := j.toNat) (by omega)
  have hK_0_102 : ∀ j : Int, 0 ≤ j → j < 76 → 0 ≤ w_ei ws (w_ar ws (n_v vs 0) 102) j ∧ w_ei ws (w_ar ws (n_v vs 0) 102) j ≤ 75 := fun j h0 h1 => th_el hD hth cr_0_102 (kd := 0) (n := 76) (m := 76) (lo := 0) (hi := 75) (rs := []) (L := []) rfl (by decide) (j := j.toNat) (by omega)
  have hK_0_110 : ∀ j : Int, 0 ≤ j → j < 8 → 0 ≤ w_ei ws (w_ar ws (n_v vs 0) 110) j ∧ w_ei ws (w_ar ws (n_v vs 0) 110) j ≤ 5500 := fun j h0 h1 => th_el hD hth cr_0_110 (kd := 0) (n := 8) (m := 8) (lo := 0) (hi := 5500) (rs := []) (L := []) rfl (by decide) (j := j.toNat) (by omega)
  have hK_0_111 : ∀ j : Int, 0 ≤ j → j < 8 → 0 ≤ w_ei ws (w_ar ws (n_v vs 0) 111) j ∧ w_ei ws (w_ar ws (n_v vs 0) 111) j ≤ 720 := fun j h0 h1 => th_el hD hth cr_0_111 (kd := 0) (n := 8) (m := 8) (lo := 0) (hi := 720) (rs := []) (L := []) rfl (by decide) (j := j.toNat) (by omega)
  have hK_0_112 : ∀ j : Int, 0 ≤ j → j < 6000 → 0 ≤ w_ei ws (w_ar ws (n_v vs 0) 112) j ∧ w_ei ws (w_ar ws (n_v vs 0) 112) j ≤ 5 := fun j h0 h1 => th_el hD hth cr_0_112 (kd := 1) (n := 6000) (m := 6000) (lo := 0) (hi := 5) (rs := []) (L := []) rfl (by decide) (j := j.toNat) (by omega)
  have nf0 : fc_1 PRD (20, [6, 0], [50, 1, 1, 1005, 1002, 0, 2, 1, 0, 3, 1, 2, 4, 3, 2, 1, 5, 0, 1]) ws (vs) := by
    refine ⟨fun n hn => ?_, ?_⟩
    · have hn : n ∈ [6, 0] := hn
      rw [hl]
      simp only [List.mem_cons, List.not_mem_nil, or_false] at hn
      show n < 7; omega
    · show v_iv (n_v vs 6) ≤ w_ei ws (w_ar ws (n_v vs 0) 2) ((w_fi ws (n_v vs 0) 5 + 1))
      exact vc_Mo_layers_6_0 (v_iv (n_v vs 2)) (v_iv (n_v vs 3)) (v_iv (n_v vs 4)) (v_iv (n_v vs 5)) (v_iv (n_v vs 6)) (w_ei ws (w_ar ws (n_v vs 0) 110)) (w_ei ws (w_ar ws (n_v vs 0) 111)) (w_ei ws (w_ar ws (n_v vs 0) 112)) (w_ei ws (w_ar ws (n_v vs 0) 2)) (w_fi ws (n_v vs 0) 5) (w_ei ws (w_ar ws (n_v vs 0) 95)) (w_ei ws (w_ar ws (n_v vs 0) 82)) (w_ei ws (w_ar ws (n_v vs 0) 102)) k2 k3 k4 k5 k6 d0 d1 f0 f1 f2 f3 f4 f5 f6 hK_0_82 hK_0_95 hK_0_102 hK_0_110 hK_0_111 hK_0_112
  have nf1 : fc_1 PRD (20, [0], [60, 1, 3, 416, 5, 2, 102, 82]) ws (vs) := by
    refine ⟨fun n hn => ?_, ?_⟩
    · have hn : n ∈ [0] := hn
      rw [hl]
      simp only [List.mem_cons, List.not_mem_nil, or_false] at hn
      show n < 7; omega
    · show ILX (w_fi ws (n_v vs 0) 5) (w_ei ws (w_ar ws (n_v vs 0) 2)) (w_ei ws (w_ar ws (n_v vs 0) 102)) (w_ei ws (w_ar ws (n_v vs 0) 82))
      exact vc_Mo_layers_6_1 (v_iv (n_v vs 2)) (v_iv (n_v vs 3)) (v_iv (n_v vs 4)) (v_iv (n_v vs 5)) (v_iv (n_v vs 6)) (w_ei ws (w_ar ws (n_v vs 0) 110)) (w_ei ws (w_ar ws (n_v vs 0) 111)) (w_ei ws (w_ar ws (n_v vs 0) 112)) (w_ei ws (w_ar ws (n_v vs 0) 2)) (w_fi ws (n_v vs 0) 5) (w_ei ws (w_ar ws (n_v vs 0) 95)) (w_ei ws (w_ar ws (n_v vs 0) 82)) (w_ei ws (w_ar ws (n_v vs 0) 102)) k2 k3 k4 k5 k6 d0 d1 f0 f1 f2 f3 f4 f5 f6 hK_0_82 hK_0_95 hK_0_102 hK_0_110 hK_0_111 hK_0_112
  have nf2 : fc_1 PRD (20, [0, 6, 3], [60, 1, 3, 361, 5, 2, 95, 82]) ws (vs) := by
    refine ⟨fun n hn => ?_, ?_⟩
    · have hn : n ∈ [0, 6, 3] := hn
      rw [hl]
      simp only [List.mem_cons, List.not_mem_nil, or_false] at hn
      show n < 7; omega
    · show JNT (w_fi ws (n_v vs 0) 5) (w_ei ws (w_ar ws (n_v vs 0) 2)) (w_ei ws (w_ar ws (n_v vs 0) 95)) (w_ei ws (w_ar ws (n_v vs 0) 82)) (v_iv (n_v vs 6)) (v_iv (n_v vs 3))
      exact vc_Mo_layers_6_2 (v_iv (n_v vs 2)) (v_iv (n_v vs 3)) (v_iv (n_v vs 4)) (v_iv (n_v vs 5)) (v_iv (n_v vs 6)) (w_ei ws (w_ar ws (n_v vs 0) 110)) (w_ei ws (w_ar ws (n_v vs 0) 111)) (w_ei ws (w_ar ws (n_v vs 0) 112)) (w_ei ws (w_ar ws (n_v vs 0) 2)) (w_fi ws (n_v vs 0) 5) (w_ei ws (w_ar ws (n_v vs 0) 95)) (w_ei ws (w_ar ws (n_v vs 0) 82)) (w_ei ws (w_ar ws (n_v vs 0) 102)) k2 k3 k4 k5 k6 d0 d1 f0 f1 f2 f3 f4 f5 f6 hK_0_82 hK_0_95 hK_0_102 hK_0_110 hK_0_111 hK_0_112
  have nf3 : fc_1 PRD (20, [3, 6], [50, 0, 0, 2, 6, 0, 2, 0, 0, 1, 0, 0, 2, 1, 0, 6, 2, 0, 22, 1, 1]) ws (vs) := by
    refine ⟨fun n hn => ?_, ?_⟩
    · have hn : n ∈ [3, 6] := hn
      rw [hl]
      simp only [List.mem_cons, List.not_mem_nil, or_false] at hn
      show n < 7; omega
    · show (0 ≤ v_iv (n_v vs 3)) ∧ (v_iv (n_v vs 3) ≤ (22 * v_iv (n_v vs 6)))
      exact vc_Mo_layers_6_3 (v_iv (n_v vs 2)) (v_iv (n_v vs 3)) (v_iv (n_v vs 4)) (v_iv (n_v vs 5)) (v_iv (n_v vs 6)) (w_ei ws (w_ar ws (n_v vs 0) 110)) (w_ei ws (w_ar ws (n_v vs 0) 111)) (w_ei ws (w_ar ws (n_v vs 0) 112)) (w_ei ws (w_ar ws (n_v vs 0) 2)) (w_fi ws (n_v vs 0) 5) (w_ei ws (w_ar ws (n_v vs 0) 95)) (w_ei ws (w_ar ws (n_v vs 0) 82)) (w_ei ws (w_ar ws (n_v vs 0) 102)) k2 k3 k4 k5 k6 d0 d1 f0 f1 f2 f3 f4 f5 f6 hK_0_82 hK_0_95 hK_0_102 hK_0_110 hK_0_111 hK_0_112
  have nf4 : fc_1 PRD (20, [4, 6], [50, 0, 0, 2, 6, 0, 2, 0, 0, 1, 0, 0, 2, 1, 0, 6, 2, 0, 207, 1, 1]) ws (vs) := by
    refine ⟨fun n hn => ?_, ?_⟩
    · have hn : n ∈ [4, 6] := hn
      rw [hl]
      simp only [List.mem_cons, List.not_mem_nil, or_false] at hn
      show n < 7; omega
    · show (0 ≤ v_iv (n_v vs 4)) ∧ (v_iv (n_v vs 4) ≤ (207 * v_iv (n_v vs 6)))
      exact vc_Mo_layers_6_4 (v_iv (n_v vs 2)) (v_iv (n_v vs 3)) (v_iv (n_v vs 4)) (v_iv (n_v vs 5)) (v_iv (n_v vs 6)) (w_ei ws (w_ar ws (n_v vs 0) 110)) (w_ei ws (w_ar ws (n_v vs 0) 111)) (w_ei ws (w_ar ws (n_v vs 0) 112)) (w_ei ws (w_ar ws (n_v vs 0) 2)) (w_fi ws (n_v vs 0) 5) (w_ei ws (w_ar ws (n_v vs 0) 95)) (w_ei ws (w_ar ws (n_v vs 0) 82)) (w_ei ws (w_ar ws (n_v vs 0) 102)) k2 k3 k4 k5 k6 d0 d1 f0 f1 f2 f3 f4 f5 f6 hK_0_82 hK_0_95 hK_0_102 hK_0_110 hK_0_111 hK_0_112
  refine ⟨(fun _ h => (by cases h)), [], trivial, ?_, (fun _ h => (by cases h))⟩
  rw [List.append_nil]
  exact List.forall_mem_cons.mpr ⟨⟨show (20 : Nat) < 100 from by decide, nf0⟩, List.forall_mem_cons.mpr ⟨⟨show (20 : Nat) < 100 from by decide, nf1⟩, List.forall_mem_cons.mpr ⟨⟨show (20 : Nat) < 100 from by decide, nf2⟩, List.forall_mem_cons.mpr ⟨⟨show (20 : Nat) < 100 from by decide, nf3⟩, List.forall_mem_cons.mpr ⟨⟨show (20 : Nat) < 100 from by decide, nf4⟩, (fun _ h => (by cases h))⟩⟩⟩⟩⟩
set_option maxHeartbeats 4000000 in
theorem vc_Mo_layers_7_r0 (x2 : Int) (x5 : Int) (x8 : Int) (spot_0 : Int → Int) (permBegin_0 : Int → Int) (permMany_0 : Int → Int) (perm_0 : Int → Int) (all_0 : Int → Int) (r_0 : Int) (turned_0 : Int → Int) (itemLayer_0 : Int → Int) (k2 : 1 ≤ x2 ∧ x2 ≤ 24) (k5 : 0 ≤ x5 ∧ x5 ≤ 23) (k8 : 0 ≤ x8 ∧ x8 ≤ 221100000) (d0 : x2 + (-4294967296) ≤ x5 ∧ x5 ≤ x2 + (-1)) (d1 : x2 + (-4294967296) ≤ x5 ∧ x5 ≤ x2 + 0) (h0 : x8 = spot_0 (x5)) (f3 : x5 < x2) (f4 : PTB (permBegin_0) (permMany_0) (perm_0)) (f5 : SGR (r_0) (all_0)) (f6 : 1 ≤ all_0 (r_0)) (f7 : LYP (r_0) (all_0) (turned_0) (spot_0)) (f8 : ILE (itemLayer_0) (spot_0) (x5)) (f9 : x2 = all_0 (r_0)) (hK_0_82 : ∀ j : Int, 0 ≤ j → j < 76 → 0 ≤ spot_0 j ∧ spot_0 j ≤ 221100000) (hK_0_95 : ∀ j : Int, 0 ≤ j → j < 48 → 0 ≤ turned_0 j ∧ turned_0 j ≤ 1) (hK_0_102 : ∀ j : Int, 0 ≤ j → j < 76 → 0 ≤ itemLayer_0 j ∧ itemLayer_0 j ≤ 75) (hK_0_110 : ∀ j : Int, 0 ≤ j → j < 8 → 0 ≤ permBegin_0 j ∧ permBegin_0 j ≤ 5500) (hK_0_111 : ∀ j : Int, 0 ≤ j → j < 8 → 0 ≤ permMany_0 j ∧ permMany_0 j ≤ 720) (hK_0_112 : ∀ j : Int, 0 ≤ j → j < 6000 → 0 ≤ perm_0 j ∧ perm_0 j ≤ 5) : 0 ≤ x8 ∧ x8 ≤ 23 := by
  have h := ‹LYP _ _ _ _›.2.1 x5 (by omega) (by omega)
  omega
def o_Mo_layers_7 : or_T := (109, 9, [(0, (2, 0, 0, [150])), (2, (0, 1, 24, [])), (5, (0, 0, 23, [])), (6, (2, 0, 0, [220])), (7, (2, 0, 0, [204])), (8, (0, 0, 221100000, []))], [(10, [8, 7, 5], []), (9, [7, 0], [82]), (9, [6, 0], [102]), (7, [5, 2], [2]), (20, [0], [60, 0, 3, 291, 110, 111, 112]), (20, [0], [60, 1, 1, 122, 5, 2]), (20, [0], [50, 1, 1, 5, 2, 0, 2, 0, 1, 3, 0, 2, 2, 0, 5]), (20, [0], [60, 1, 3, 359, 5, 2, 95, 82]), (20, [0, 5], [60, 0, 2, 360, 102, 82]), (20, [2, 0], [50, 1, 1, 1005, 1002, 1, 2, 1, 0, 3, 1, 2, 2, 1, 5])], [(8, (0, 0, 23, []))], [], [], [], [(5, 2, -4294967296, -1), (5, 2, -4294967296, 0)])
theorem oo_Mo_layers_7 {kA : Nat → ClassId} : or_ok PRD kA GG o_Mo_layers_7 := by
  intro A ta ws vs hD hth hl hk hds hf
  have hl : vs.length = 9 := hl
  have hk : ∀ q ∈ ([(0, (2, 0, 0, [150])), (2, (0, 1, 24, [])), (5, (0, 0, 23, [])), (6, (2, 0, 0, [220])), (7, (2, 0, 0, [204])), (8, (0, 0, 221100000, []))] : List (Nat × tv_T)), tv_ok ta q.2 (n_v vs q.1) := hk
  obtain ⟨t0, hk⟩ := List.forall_mem_cons.mp hk
  have t0 : tv_ok ta (2, 0, 0, [150]) (n_v vs 0) := t0
  have r0 : ta (v_ad (n_v vs 0)) = some 150 := tv_rg t0
  obtain ⟨t2, hk⟩ := List.forall_mem_cons.mp hk
  have t2 : tv_ok ta (0, 1, 24, []) (n_v vs 2) := t2
  have k2 : 1 ≤ v_iv (n_v vs 2) ∧ v_iv (n_v vs 2) ≤ 24 := tv_rng t2
  obtain ⟨t5, hk⟩ := List.forall_mem_cons.mp hk
  have t5 : tv_ok ta (0, 0, 23, []) (n_v vs 5) := t5
  have k5 : 0 ≤ v_iv (n_v vs 5) ∧ v_iv (n_v vs 5) ≤ 23 := tv_rng t5
  obtain ⟨t6, hk⟩ := List.forall_mem_cons.mp hk
  have t6 : tv_ok ta (2, 0, 0, [220]) (n_v vs 6) := t6
  have r6 : ta (v_ad (n_v vs 6)) = some 220 := tv_rg t6
  obtain ⟨t7, hk⟩ := List.forall_mem_cons.mp hk
  have t7 : tv_ok ta (2, 0, 0, [204]) (n_v vs 7) := t7
  have r7 : ta (v_ad (n_v vs 7)) = some 204 := tv_rg t7
  obtain ⟨t8, hk⟩ := List.forall_mem_cons.mp hk
  have t8 : tv_ok ta (0, 0, 221100000, []) (n_v vs 8) := t8
  have k8 : 0 ≤ v_iv (n_v vs 8) ∧ v_iv (n_v vs 8) ≤ 221100000 := tv_rng t8
  have hds : ∀ q ∈ ([(5, 2, -4294967296, -1), (5, 2, -4294967296, 0)] : List of_T), n_iv vs q.2.1 + q.2.2.1 ≤ n_iv vs q.1 ∧ n_iv vs q.1 ≤ n_iv vs q.2.1 + q.2.2.2 := hds
  obtain ⟨d0, hds⟩ := List.forall_mem_cons.mp hds
  have d0 : v_iv (n_v vs 2) + (-4294967296) ≤ v_iv (n_v vs 5) ∧ v_iv (n_v vs 5) ≤ v_iv (n_v vs 2) + (-1) := d0
  obtain ⟨d1, hds⟩ := List.forall_mem_cons.mp hds
  have d1 : v_iv (n_v vs 2) + (-4294967296) ≤ v_iv (n_v vs 5) ∧ v_iv (n_v vs 5) ≤ v_iv (n_v vs 2) + 0 := d1
  have hf : fc_ok PRD [(10, [8, 7, 5], []), (9, [7, 0], [82]), (9, [6, 0], [102]), (7, [5, 2], [2]), (20, [0], [60, 0, 3, 291, 110, 111, 112]), (20, [0], [60, 1, 1, 122, 5, 2]), (20, [0], [50, 1, 1, 5, 2, 0, 2, 0, 1, 3, 0, 2, 2, 0, 5]), (20, [0], [60, 1, 3, 359, 5, 2, 95, 82]), (20, [0, 5], [60, 0, 2, 360, 102, 82]), (20, [2, 0], [50, 1, 1, 1005, 1002, 1, 2, 1, 0, 3, 1, 2, 2, 1, 5])] ta ws vs := hf
  obtain ⟨f0, hf⟩ := fc_un (show (10 : Nat) < 100 from by decide) hf
  have f0 : v_iv (n_v vs 8) = w_el ws (v_ad (n_v vs 7)) (v_iv (n_v vs 5)).toNat := f0
  obtain ⟨f1, hf⟩ := fc_un (show (9 : Nat) < 100 from by decide) hf
  have f1 : n_v vs 7 = w_fd ws (v_ad (n_v vs 0)) 82 := f1
  obtain ⟨f2, hf⟩ := fc_un (show (9 : Nat) < 100 from by decide) hf
  have f2 : n_v vs 6 = w_fd ws (v_ad (n_v vs 0)) 102 := f2
  obtain ⟨f3, hf⟩ := fc_un (show (7 : Nat) < 100 from by decide) hf
  have f3 : v_iv (n_v vs 5) < v_iv (n_v vs 2) := f3
  obtain ⟨f4, hf⟩ := fc_un (show (20 : Nat) < 100 from by decide) hf
  have f4 : PTB (w_ei ws (w_ar ws (n_v vs 0) 110)) (w_ei ws (w_ar ws (n_v vs 0) 111)) (w_ei ws (w_ar ws (n_v vs 0) 112)) := f4
  obtain ⟨f5, hf⟩ := fc_un (show (20 : Nat) < 100 from by decide) hf
  have f5 : SGR (w_fi ws (n_v vs 0) 5) (w_ei ws (w_ar ws (n_v vs 0) 2)) := f5
  obtain ⟨f6, hf⟩ := fc_un (show (20 : Nat) < 100 from by decide) hf
  have f6 : 1 ≤ w_ei ws (w_ar ws (n_v vs 0) 2) (w_fi ws (n_v vs 0) 5) := f6
  obtain ⟨f7, hf⟩ := fc_un (show (20 : Nat) < 100 from by decide) hf
  have f7 : LYP (w_fi ws (n_v vs 0) 5) (w_ei ws (w_ar ws (n_v vs 0) 2)) (w_ei ws (w_ar ws (n_v vs 0) 95)) (w_ei ws (w_ar ws (n_v vs 0) 82)) := f7
  obtain ⟨f8, hf⟩ := fc_un (show (20 : Nat) < 100 from by decide) hf
  have f8 : ILE (w_ei ws (w_ar ws (n_v vs 0) 102)) (w_ei ws (w_ar ws (n_v vs 0) 82)) (v_iv (n_v vs 5)) := f8
  obtain ⟨f9, hf⟩ := fc_un (show (20 : Nat) < 100 from by decide) hf
  have f9 : v_iv (n_v vs 2) = w_ei ws (w_ar ws (n_v vs 0) 2) (w_fi ws (n_v vs 0) 5) := f9
  have cr_0_2 : ta (w_ar ws (n_v vs 0) 2) = some 152 := tv_rg (th_fd hD hth r0 (g := GG_150) rfl (k := 2) (t := (2, 0, 0, [152])) rfl rfl)
  have cr_0_82 : ta (w_ar ws (n_v vs 0) 82) = some 204 := tv_rg (th_fd hD hth r0 (g := GG_150) rfl (k := 82) (t := (2, 0, 0, [204])) rfl rfl)
  have cr_0_95 : ta (w_ar ws (n_v vs 0) 95) = some 216 := tv_rg (th_fd hD hth r0 (g := GG_150) rfl (k := 95) (t := (2, 0, 0, [216])) rfl rfl)
  have cr_0_102 : ta (w_ar ws (n_v vs 0) 102) = some 220 := tv_rg (th_fd hD hth r0 (g := GG_150) rfl (k := 102) (t := (2, 0, 0, [220])) rfl rfl)
  have cr_0_110 : ta (w_ar ws (n_v vs 0) 110) = some 227 := tv_rg (th_fd hD hth r0 (g := GG_150) rfl (k := 110) (t := (2, 0, 0, [227])) rfl rfl)
  have cr_0_111 : ta (w_ar ws (n_v vs 0) 111) = some 228 := tv_rg (th_fd hD hth r0 (g := GG_150) rfl (k := 111) (t := (2, 0, 0, [228])) rfl rfl)
  have cr_0_112 : ta (w_ar ws (n_v vs 0) 112) = some 229 := tv_rg (th_fd hD hth r0 (g := GG_150) rfl (k := 112) (t := (2, 0, 0, [229])) rfl rfl)
  have ad_7 : v_ad (n_v vs 7) = w_ar ws (n_v vs 0) 82 := congrArg v_ad f1
  have ad_6 : v_ad (n_v vs 6) = w_ar ws (n_v vs 0) 102 := congrArg v_ad f2
  rw [ad_7] at f0
  have h0 : v_iv (n_v vs 8) = w_ei ws (w_ar ws (n_v vs 0) 82) (v_iv (n_v vs 5)) := f0
  have hK_0_82 : ∀ j : Int, 0 ≤ j → j < 76 → 0 ≤ w_ei ws (w_ar ws (n_v vs 0) 82) j ∧ w_ei ws (w_ar ws (n_v vs 0) 82) j ≤ 221100000 := fun j h0 h1 => th_el hD hth cr_0_82 (kd := 0) (n := 76) (m := 76) (lo := 0) (hi := 221100000) (rs := []) (L := []) rfl (by decide) (j := j.toNat) (by omega)
  have hK_0_95 : ∀ j : Int, 0 ≤ j → j < 48 → 0 ≤ w_ei ws (w_ar ws (n_v vs 0) 95) j ∧ w_ei ws (w_ar ws (n_v vs 0) 95) j ≤ 1 := fun j h0 h1 => th_el hD hth cr_0_95 (kd := 2) (n := 48) (m := 48) (lo := 0) (hi := 1) (rs := []) (L := []) rfl (by decide) (j := j.toNat) (by omega)
  have hK_0_102 : ∀ j : Int, 0 ≤ j → j < 76 → 0 ≤ w_ei ws (w_ar ws (n_v vs 0) 102) j ∧ w_ei ws (w_ar ws (n_v vs 0) 102) j ≤ 75 := fun j h0 h1 => th_el hD hth cr_0_102 (kd := 0) (n := 76) (m := 76) (lo := 0) (hi := 75) (rs := []) (L := []) rfl (by decide) (j := j.toNat) (by omega)
  have hK_0_110 : ∀ j : Int, 0 ≤ j → j < 8 → 0 ≤ w_ei ws (w_ar ws (n_v vs 0) 110) j ∧ w_ei ws (w_ar ws (n_v vs 0) 110) j ≤ 5500 := fun j h0 h1 => th_el hD hth cr_0_110 (kd := 0) (n := 8) (m := 8) (lo := 0) (hi := 5500) (rs := []) (L := []) rfl (by decide) (j := j.toNat) (by omega)
  have hK_0_111 : ∀ j : Int, 0 ≤ j → j < 8 → 0 ≤ w_ei ws (w_ar ws (n_v vs 0) 111) j ∧ w_ei ws (w_ar ws (n_v vs 0) 111) j ≤ 720 := fun j h0 h1 => th_el hD hth cr_0_111 (kd := 0) (n := 8) (m := 8) (lo := 0) (hi := 720) (rs := []) (L := []) rfl (by decide) (j := j.toNat) (by omega)
  have hK_0_112 : ∀ j : Int, 0 ≤ j → j < 6000 → 0 ≤ w_ei ws (w_ar ws (n_v vs 0) 112) j ∧ w_ei ws (w_ar ws (n_v vs 0) 112) j ≤ 5 := fun j h0 h1 => th_el hD hth cr_0_112 (kd := 1) (n := 6000) (m := 6000) (lo := 0) (hi := 5) (rs := []) (L := []) rfl (by decide) (j := j.toNat) (by omega)
  have hrf0 : 0 ≤ v_iv (n_v vs 8) ∧ v_iv (n_v vs 8) ≤ 23 := vc_Mo_layers_7_r0 (v_iv (n_v vs 2)) (v_iv (n_v vs 5)) (v_iv (n_v vs 8)) (w_ei ws (w_ar ws (n_v vs 0) 82)) (w_ei ws (w_ar ws (n_v vs 0) 110)) (w_ei ws (w_ar ws (n_v vs 0) 111)) (w_ei ws (w_ar ws (n_v vs 0) 112)) (w_ei ws (w_ar ws (n_v vs 0) 2)) (w_fi ws (n_v vs 0) 5) (w_ei ws (w_ar ws (n_v vs 0) 95)) (w_ei ws (w_ar ws (n_v vs 0) 102)) k2 k5 k8 d0 d1 h0 f3 f4 f5 f6 f7 f8 f9 hK_0_82 hK_0_95 hK_0_102 hK_0_110 hK_0_111 hK_0_112
  have rf8 : tv_ok ta (0, 0, 23, []) (n_v vs 8) := tv_in t8 (by first | omega | grind) (by first | omega | grind)
  refine ⟨List.forall_mem_cons.mpr ⟨rf8, (fun _ h => (by cases h))⟩, [], trivial, ?_, (fun _ h => (by cases h))⟩
  rw [List.append_nil]
  exact (fun _ h => (by cases h))
set_option maxHeartbeats 4000000 in
theorem vc_Mo_layers_8_0 (x2 : Int) (x5 : Int) (x8 : Int) (x9 : Int) (permBegin_0 : Int → Int) (permMany_0 : Int → Int) (perm_0 : Int → Int) (all_0 : Int → Int) (r_0 : Int) (turned_0 : Int → Int) (spot_0 : Int → Int) (spot_1 : Int → Int) (permBegin_1 : Int → Int) (permMany_1 : Int → Int) (perm_1 : Int → Int) (all_1 : Int → Int) (r_1 : Int) (turned_1 : Int → Int) (itemLayer_1 : Int → Int) (itemLayer_0 : Int → Int) (k2 : 1 ≤ x2 ∧ x2 ≤ 24) (k5 : 0 ≤ x5 ∧ x5 ≤ 23) (k8 : 0 ≤ x8 ∧ x8 ≤ 23) (k9 : 1 ≤ x9 ∧ x9 ≤ 24) (d0 : x5 + 1 ≤ x9 ∧ x9 ≤ x5 + 1) (d1 : x2 + (-4294967296) ≤ x9 ∧ x9 ≤ x2 + 0) (d2 : x2 + (-4294967296) ≤ x9 ∧ x9 ≤ x2 + 1) (d3 : x2 + (-4294967296) ≤ x5 ∧ x5 ≤ x2 + (-1)) (d4 : x2 + (-4294967296) ≤ x5 ∧ x5 ≤ x2 + 0) (f0 : x9 = x5 + 1) (f1 : PTB (permBegin_0) (permMany_0) (perm_0)) (f2 : SGR (r_0) (all_0)) (f3 : 1 ≤ all_0 (r_0)) (f4 : LYP (r_0) (all_0) (turned_0) (spot_0)) (f5 : x2 = all_0 (r_0)) (h7 : x8 = spot_1 (x5)) (f10 : x5 < x2) (f11 : PTB (permBegin_1) (permMany_1) (perm_1)) (f12 : SGR (r_1) (all_1)) (f13 : 1 ≤ all_1 (r_1)) (f14 : LYP (r_1) (all_1) (turned_1) (spot_1)) (f15 : ILE (itemLayer_1) (spot_1) (x5)) (f16 : x2 = all_1 (r_1)) (fe_0_5_1 : r_0 = r_1) (hE_0_2_1 : ∀ j : Int, all_0 j = all_1 j) (hE_0_82_1 : ∀ j : Int, spot_0 j = spot_1 j) (hK_0_82 : ∀ j : Int, 0 ≤ j → j < 76 → 0 ≤ spot_0 j ∧ spot_0 j ≤ 221100000) (hE_0_95_1 : ∀ j : Int, turned_0 j = turned_1 j) (hK_0_95 : ∀ j : Int, 0 ≤ j → j < 48 → 0 ≤ turned_0 j ∧ turned_0 j ≤ 1) (hE_0_102_1 : ∀ j : Int, 0 ≤ j → (j = x5 → itemLayer_0 j = x8) ∧ (j ≠ x5 → itemLayer_0 j = itemLayer_1 j)) (hK_0_102 : ∀ j : Int, 0 ≤ j → j < 76 → 0 ≤ itemLayer_0 j ∧ itemLayer_0 j ≤ 75) (hE_0_110_1 : ∀ j : Int, permBegin_0 j = permBegin_1 j) (hK_0_110 : ∀ j : Int, 0 ≤ j → j < 8 → 0 ≤ permBegin_0 j ∧ permBegin_0 j ≤ 5500) (hE_0_111_1 : ∀ j : Int, permMany_0 j = permMany_1 j) (hK_0_111 : ∀ j : Int, 0 ≤ j → j < 8 → 0 ≤ permMany_0 j ∧ permMany_0 j ≤ 720) (hE_0_112_1 : ∀ j : Int, perm_0 j = perm_1 j) (hK_0_112 : ∀ j : Int, 0 ≤ j → j < 6000 → 0 ≤ perm_0 j ∧ perm_0 j ≤ 5) : ILE (itemLayer_0) (spot_0) (x9) := by
  subst fe_0_5_1
  have e_hE_0_2_1 := funext hE_0_2_1; subst e_hE_0_2_1
  have e_hE_0_82_1 := funext hE_0_82_1; subst e_hE_0_82_1
  have e_hE_0_95_1 := funext hE_0_95_1; subst e_hE_0_95_1
  have e_hE_0_110_1 := funext hE_0_110_1; subst e_hE_0_110_1
  have e_hE_0_111_1 := funext hE_0_111_1; subst e_hE_0_111_1
  have e_hE_0_112_1 := funext hE_0_112_1; subst e_hE_0_112_1
  first
    | (intro j a b; exfalso; omega)
    | exact ile_step ‹ILE _ _ _› (by assumption) (by assumption) rfl (by assumption)
def o_Mo_layers_8 : or_T := (90, 10, [(0, (2, 0, 0, [150])), (2, (0, 1, 24, [])), (5, (0, 0, 23, [])), (6, (2, 0, 0, [220])), (7, (2, 0, 0, [204])), (8, (0, 0, 23, [])), (9, (0, 1, 24, []))], [(6, [9, 5], [1]), (20, [0], [60, 0, 3, 291, 110, 111, 112]), (20, [0], [60, 1, 1, 122, 5, 2]), (20, [0], [50, 1, 1, 5, 2, 0, 2, 0, 1, 3, 0, 2, 2, 0, 5]), (20, [0], [60, 1, 3, 359, 5, 2, 95, 82]), (20, [2, 0], [50, 1, 1, 1005, 1002, 1, 2, 1, 0, 3, 1, 2, 2, 1, 5]), (100, [6, 5, 8], []), (10, [8, 7, 5], []), (9, [7, 0], [82]), (9, [6, 0], [102]), (7, [5, 2], [2]), (20, [0], [60, 0, 3, 291, 110, 111, 112]), (20, [0], [60, 1, 1, 122, 5, 2]), (20, [0], [50, 1, 1, 5, 2, 0, 2, 0, 1, 3, 0, 2, 2, 0, 5]), (20, [0], [60, 1, 3, 359, 5, 2, 95, 82]), (20, [0, 5], [60, 0, 2, 360, 102, 82]), (20, [2, 0], [50, 1, 1, 1005, 1002, 1, 2, 1, 0, 3, 1, 2, 2, 1, 5])], [], [], [(20, [0, 9], [60, 0, 2, 360, 102, 82])], [], [(9, 5, 1, 1), (9, 2, -4294967296, 0), (9, 2, -4294967296, 1), (5, 2, -4294967296, -1), (5, 2, -4294967296, 0)])
theorem oo_Mo_layers_8 {kA : Nat → ClassId} : or_ok PRD kA GG o_Mo_layers_8 := by
  intro A ta ws vs hD hth hl hk hds hf
  have hl : vs.length = 10 := hl
  have hk : ∀ q ∈ ([(0, (2, 0, 0, [150])), (2, (0, 1, 24, [])), (5, (0, 0, 23, [])), (6, (2, 0, 0, [220])), (7, (2, 0, 0, [204])), (8, (0, 0, 23, [])), (9, (0, 1, 24, []))] : List (Nat × tv_T)), tv_ok ta q.2 (n_v vs q.1) := hk
  obtain ⟨t0, hk⟩ := List.forall_mem_cons.mp hk
  have t0 : tv_ok ta (2, 0, 0, [150]) (n_v vs 0) := t0
  have r0 : ta (v_ad (n_v vs 0)) = some 150 := tv_rg t0
  obtain ⟨t2, hk⟩ := List.forall_mem_cons.mp hk
  have t2 : tv_ok ta (0, 1, 24, []) (n_v vs 2) := t2
  have k2 : 1 ≤ v_iv (n_v vs 2) ∧ v_iv (n_v vs 2) ≤ 24 := tv_rng t2
  obtain ⟨t5, hk⟩ := List.forall_mem_cons.mp hk
  have t5 : tv_ok ta (0, 0, 23, []) (n_v vs 5) := t5
  have k5 : 0 ≤ v_iv (n_v vs 5) ∧ v_iv (n_v vs 5) ≤ 23 := tv_rng t5
  obtain ⟨t6, hk⟩ := List.forall_mem_cons.mp hk
  have t6 : tv_ok ta (2, 0, 0, [220]) (n_v vs 6) := t6
  have r6 : ta (v_ad (n_v vs 6)) = some 220 := tv_rg t6
  obtain ⟨t7, hk⟩ := List.forall_mem_cons.mp hk
  have t7 : tv_ok ta (2, 0, 0, [204]) (n_v vs 7) := t7
  have r7 : ta (v_ad (n_v vs 7)) = some 204 := tv_rg t7
  obtain ⟨t8, hk⟩ := List.forall_mem_cons.mp hk
  have t8 : tv_ok ta (0, 0, 23, []) (n_v vs 8) := t8
  have k8 : 0 ≤ v_iv (n_v vs 8) ∧ v_iv (n_v vs 8) ≤ 23 := tv_rng t8
  obtain ⟨t9, hk⟩ := List.forall_mem_cons.mp hk
  have t9 : tv_ok ta (0, 1, 24, []) (n_v vs 9) := t9
  have k9 : 1 ≤ v_iv (n_v vs 9) ∧ v_iv (n_v vs 9) ≤ 24 := tv_rng t9
  have hds : ∀ q ∈ ([(9, 5, 1, 1), (9, 2, -4294967296, 0), (9, 2, -4294967296, 1), (5, 2, -4294967296, -1), (5, 2, -4294967296, 0)] : List of_T), n_iv vs q.2.1 + q.2.2.1 ≤ n_iv vs q.1 ∧ n_iv vs q.1 ≤ n_iv vs q.2.1 + q.2.2.2 := hds
  obtain ⟨d0, hds⟩ := List.forall_mem_cons.mp hds
  have d0 : v_iv (n_v vs 5) + 1 ≤ v_iv (n_v vs 9) ∧ v_iv (n_v vs 9) ≤ v_iv (n_v vs 5) + 1 := d0
  obtain ⟨d1, hds⟩ := List.forall_mem_cons.mp hds
  have d1 : v_iv (n_v vs 2) + (-4294967296) ≤ v_iv (n_v vs 9) ∧ v_iv (n_v vs 9) ≤ v_iv (n_v vs 2) + 0 := d1
  obtain ⟨d2, hds⟩ := List.forall_mem_cons.mp hds
  have d2 : v_iv (n_v vs 2) + (-4294967296) ≤ v_iv (n_v vs 9) ∧ v_iv (n_v vs 9) ≤ v_iv (n_v vs 2) + 1 := d2
  obtain ⟨d3, hds⟩ := List.forall_mem_cons.mp hds
  have d3 : v_iv (n_v vs 2) + (-4294967296) ≤ v_iv (n_v vs 5) ∧ v_iv (n_v vs 5) ≤ v_iv (n_v vs 2) + (-1) := d3
  obtain ⟨d4, hds⟩ := List.forall_mem_cons.mp hds
  have d4 : v_iv (n_v vs 2) + (-4294967296) ≤ v_iv (n_v vs 5) ∧ v_iv (n_v vs 5) ≤ v_iv (n_v vs 2) + 0 := d4
  have hf : fc_ok PRD [(6, [9, 5], [1]), (20, [0], [60, 0, 3, 291, 110, 111, 112]), (20, [0], [60, 1, 1, 122, 5, 2]), (20, [0], [50, 1, 1, 5, 2, 0, 2, 0, 1, 3, 0, 2, 2, 0, 5]), (20, [0], [60, 1, 3, 359, 5, 2, 95, 82]), (20, [2, 0], [50, 1, 1, 1005, 1002, 1, 2, 1, 0, 3, 1, 2, 2, 1, 5]), (100, [6, 5, 8], []), (10, [8, 7, 5], []), (9, [7, 0], [82]), (9, [6, 0], [102]), (7, [5, 2], [2]), (20, [0], [60, 0, 3, 291, 110, 111, 112]), (20, [0], [60, 1, 1, 122, 5, 2]), (20, [0], [50, 1, 1, 5, 2, 0, 2, 0, 1, 3, 0, 2, 2, 0, 5]), (20, [0], [60, 1, 3, 359, 5, 2, 95, 82]), (20, [0, 5], [60, 0, 2, 360, 102, 82]), (20, [2, 0], [50, 1, 1, 1005, 1002, 1, 2, 1, 0, 3, 1, 2, 2, 1, 5])] ta ws vs := hf
  obtain ⟨f0, hf⟩ := fc_un (show (6 : Nat) < 100 from by decide) hf
  have f0 : v_iv (n_v vs 9) = v_iv (n_v vs 5) + 1 := f0
  obtain ⟨f1, hf⟩ := fc_un (show (20 : Nat) < 100 from by decide) hf
  have f1 : PTB (w_ei ws (w_ar ws (n_v vs 0) 110)) (w_ei ws (w_ar ws (n_v vs 0) 111)) (w_ei ws (w_ar ws (n_v vs 0) 112)) := f1
  obtain ⟨f2, hf⟩ := fc_un (show (20 : Nat) < 100 from by decide) hf
  have f2 : SGR (w_fi ws (n_v vs 0) 5) (w_ei ws (w_ar ws (n_v vs 0) 2)) := f2
  obtain ⟨f3, hf⟩ := fc_un (show (20 : Nat) < 100 from by decide) hf
  have f3 : 1 ≤ w_ei ws (w_ar ws (n_v vs 0) 2) (w_fi ws (n_v vs 0) 5) := f3
  obtain ⟨f4, hf⟩ := fc_un (show (20 : Nat) < 100 from by decide) hf
  have f4 : LYP (w_fi ws (n_v vs 0) 5) (w_ei ws (w_ar ws (n_v vs 0) 2)) (w_ei ws (w_ar ws (n_v vs 0) 95)) (w_ei ws (w_ar ws (n_v vs 0) 82)) := f4
  obtain ⟨f5, hf⟩ := fc_un (show (20 : Nat) < 100 from by decide) hf
  have f5 : v_iv (n_v vs 2) = w_ei ws (w_ar ws (n_v vs 0) 2) (w_fi ws (n_v vs 0) 5) := f5
  obtain ⟨ta1, w1, le1, ⟨_, s1⟩, hf⟩ := fc_us (show ¬ (100 : Nat) < 100 from by decide) hf
  have s1 : (∀ b j, w_el ws b j = if b = v_ad (n_v vs 6) ∧ j = (v_iv (n_v vs 5)).toNat then v_iv (n_v vs 8) else w_el w1 b j) ∧ ∀ b k, w_fd ws b k = w_fd w1 b k := s1
  obtain ⟨f7, hf⟩ := fc_un (show (10 : Nat) < 100 from by decide) hf
  have f7 : v_iv (n_v vs 8) = w_el w1 (v_ad (n_v vs 7)) (v_iv (n_v vs 5)).toNat := f7
  obtain ⟨f8, hf⟩ := fc_un (show (9 : Nat) < 100 from by decide) hf
  have f8 : n_v vs 7 = w_fd w1 (v_ad (n_v vs 0)) 82 := f8
  obtain ⟨f9, hf⟩ := fc_un (show (9 : Nat) < 100 from by decide) hf
  have f9 : n_v vs 6 = w_fd w1 (v_ad (n_v vs 0)) 102 := f9
  obtain ⟨f10, hf⟩ := fc_un (show (7 : Nat) < 100 from by decide) hf
  have f10 : v_iv (n_v vs 5) < v_iv (n_v vs 2) := f10
  obtain ⟨f11, hf⟩ := fc_un (show (20 : Nat) < 100 from by decide) hf
  have f11 : PTB (w_ei w1 (w_ar w1 (n_v vs 0) 110)) (w_ei w1 (w_ar w1 (n_v vs 0) 111)) (w_ei w1 (w_ar w1 (n_v vs 0) 112)) := f11
  obtain ⟨f12, hf⟩ := fc_un (show (20 : Nat) < 100 from by decide) hf
  have f12 : SGR (w_fi w1 (n_v vs 0) 5) (w_ei w1 (w_ar w1 (n_v vs 0) 2)) := f12
  obtain ⟨f13, hf⟩ := fc_un (show (20 : Nat) < 100 from by decide) hf
  have f13 : 1 ≤ w_ei w1 (w_ar w1 (n_v vs 0) 2) (w_fi w1 (n_v vs 0) 5) := f13
  obtain ⟨f14, hf⟩ := fc_un (show (20 : Nat) < 100 from by decide) hf
  have f14 : LYP (w_fi w1 (n_v vs 0) 5) (w_ei w1 (w_ar w1 (n_v vs 0) 2)) (w_ei w1 (w_ar w1 (n_v vs 0) 95)) (w_ei w1 (w_ar w1 (n_v vs 0) 82)) := f14
  obtain ⟨f15, hf⟩ := fc_un (show (20 : Nat) < 100 from by decide) hf
  have f15 : ILE (w_ei w1 (w_ar w1 (n_v vs 0) 102)) (w_ei w1 (w_ar w1 (n_v vs 0) 82)) (v_iv (n_v vs 5)) := f15
  obtain ⟨f16, hf⟩ := fc_un (show (20 : Nat) < 100 from by decide) hf
  have f16 : v_iv (n_v vs 2) = w_ei w1 (w_ar w1 (n_v vs 0) 2) (w_fi w1 (n_v vs 0) 5) := f16
  have ar_0_2_1 : w_ar w1 (n_v vs 0) 2 = w_ar ws (n_v vs 0) 2 := by show v_ad (w_fd w1 _ _) = v_ad (w_fd ws _ _); rw [s1.2]
  have cr_0_2 : ta (w_ar ws (n_v vs 0) 2) = some 152 := tv_rg (th_fd hD hth r0 (g := GG_150) rfl (k := 2) (t := (2, 0, 0, [152])) rfl rfl)
  have ar_0_82_1 : w_ar w1 (n_v vs 0) 82 = w_ar ws (n_v vs 0) 82 := by show v_ad (w_fd w1 _ _) = v_ad (w_fd ws _ _); rw [s1.2]
  have cr_0_82 : ta (w_ar ws (n_v vs 0) 82) = some 204 := tv_rg (th_fd hD hth r0 (g := GG_150) rfl (k := 82) (t := (2, 0, 0, [204])) rfl rfl)
  have ar_0_95_1 : w_ar w1 (n_v vs 0) 95 = w_ar ws (n_v vs 0) 95 := by show v_ad (w_fd w1 _ _) = v_ad (w_fd ws _ _); rw [s1.2]
  have cr_0_95 : ta (w_ar ws (n_v vs 0) 95) = some 216 := tv_rg (th_fd hD hth r0 (g := GG_150) rfl (k := 95) (t := (2, 0, 0, [216])) rfl rfl)
  have ar_0_102_1 : w_ar w1 (n_v vs 0) 102 = w_ar ws (n_v vs 0) 102 := by show v_ad (w_fd w1 _ _) = v_ad (w_fd ws _ _); rw [s1.2]
  have cr_0_102 : ta (w_ar ws (n_v vs 0) 102) = some 220 := tv_rg (th_fd hD hth r0 (g := GG_150) rfl (k := 102) (t := (2, 0, 0, [220])) rfl rfl)
  have ar_0_110_1 : w_ar w1 (n_v vs 0) 110 = w_ar ws (n_v vs 0) 110 := by show v_ad (w_fd w1 _ _) = v_ad (w_fd ws _ _); rw [s1.2]
  have cr_0_110 : ta (w_ar ws (n_v vs 0) 110) = some 227 := tv_rg (th_fd hD hth r0 (g := GG_150) rfl (k := 110) (t := (2, 0, 0, [227])) rfl rfl)
  have ar_0_111_1 : w_ar w1 (n_v vs 0) 111 = w_ar ws (n_v vs 0) 111 := by show v_ad (w_fd w1 _ _) = v_ad (w_fd ws _ _); rw [s1.2]
  have cr_0_111 : ta (w_ar ws (n_v vs 0) 111) = some 228 := tv_rg (th_fd hD hth r0 (g := GG_150) rfl (k := 111) (t := (2, 0, 0, [228])) rfl rfl)
  have ar_0_112_1 : w_ar w1 (n_v vs 0) 112 = w_ar ws (n_v vs 0) 112 := by show v_ad (w_fd w1 _ _) = v_ad (w_fd ws _ _); rw [s1.2]
  have cr_0_112 : ta (w_ar ws (n_v vs 0) 112) = some 229 := tv_rg (th_fd hD hth r0 (g := GG_150) rfl (k := 112) (t := (2, 0, 0, [229])) rfl rfl)
  have ad_7 : v_ad (n_v vs 7) = w_ar ws (n_v vs 0) 82 := (congrArg v_ad f8).trans ar_0_82_1
  have ad_6 : v_ad (n_v vs 6) = w_ar ws (n_v vs 0) 102 := (congrArg v_ad f9).trans ar_0_102_1
  rw [ad_7] at f7
  have h7 : v_iv (n_v vs 8) = w_ei w1 (w_ar ws (n_v vs 0) 82) (v_iv (n_v vs 5)) := f7
  rw [ar_0_110_1] at f11
  rw [ar_0_111_1] at f11
  rw [ar_0_112_1] at f11
  rw [ar_0_2_1] at f12
  rw [ar_0_2_1] at f13
  rw [ar_0_2_1] at f14
  rw [ar_0_82_1] at f14
  rw [ar_0_95_1] at f14
  rw [ar_0_82_1] at f15
  rw [ar_0_102_1] at f15
  rw [ar_0_2_1] at f16
  have fe_0_5_1 : w_fi ws (n_v vs 0) 5 = w_fi w1 (n_v vs 0) 5 := congrArg v_iv (s1.2 _ _)
  have hE_0_2_1 : ∀ j : Int, w_ei ws (w_ar ws (n_v vs 0) 2) j = w_ei w1 (w_ar ws (n_v vs 0) 2) j := fun j => by unfold w_ei; rw [s1.1, if_neg (fun e => by have e1 := e.1; rw [← e1] at r6; rw [cr_0_2] at r6; exact absurd (Option.some.inj r6) (by decide))]
  have hE_0_82_1 : ∀ j : Int, w_ei ws (w_ar ws (n_v vs 0) 82) j = w_ei w1 (w_ar ws (n_v vs 0) 82) j := fun j => by unfold w_ei; rw [s1.1, if_neg (fun e => by have e1 := e.1; rw [← e1] at r6; rw [cr_0_82] at r6; exact absurd (Option.some.inj r6) (by decide))]
  have hK_0_82 : ∀ j : Int, 0 ≤ j → j < 76 → 0 ≤ w_ei ws (w_ar ws (n_v vs 0) 82) j ∧ w_ei ws (w_ar ws (n_v vs 0) 82) j ≤ 221100000 := fun j h0 h1 => th_el hD hth cr_0_82 (kd := 0) (n := 76) (m := 76) (lo := 0) (hi := 221100000) (rs := []) (L := []) rfl (by decide) (j := j.toNat) (by omega)
  have hE_0_95_1 : ∀ j : Int, w_ei ws (w_ar ws (n_v vs 0) 95) j = w_ei w1 (w_ar ws (n_v vs 0) 95) j := fun j => by unfold w_ei; rw [s1.1, if_neg (fun e => by have e1 := e.1; rw [← e1] at r6; rw [cr_0_95] at r6; exact absurd (Option.some.inj r6) (by decide))]
  have hK_0_95 : ∀ j : Int, 0 ≤ j → j < 48 → 0 ≤ w_ei ws (w_ar ws (n_v vs 0) 95) j ∧ w_ei ws (w_ar ws (n_v vs 0) 95) j ≤ 1 := fun j h0 h1 => th_el hD hth cr_0_95 (kd := 2) (n := 48) (m := 48) (lo := 0) (hi := 1) (rs := []) (L := []) rfl (by decide) (j := j.toNat) (by omega)
  have hE_0_102_1 : ∀ j : Int, 0 ≤ j → (j = v_iv (n_v vs 5) → w_ei ws (w_ar ws (n_v vs 0) 102) j = v_iv (n_v vs 8)) ∧ (j ≠ v_iv (n_v vs 5) → w_ei ws (w_ar ws (n_v vs 0) 102) j = w_ei w1 (w_ar ws (n_v vs 0) 102) j) := fun j hj => ⟨fun h => by unfold w_ei; rw [s1.1, if_pos ⟨ad_6.symm, by rw [h]⟩], fun h => by unfold w_ei; rw [s1.1, if_neg (fun e => h (by have := e.2; omega))]⟩
  have hK_0_102 : ∀ j : Int, 0 ≤ j → j < 76 → 0 ≤ w_ei ws (w_ar ws (n_v vs 0) 102) j ∧ w_ei ws (w_ar ws (n_v vs 0) 102) j ≤ 75 := fun j h0 h1 => th_el hD hth cr_0_102 (kd := 0) (n := 76) (m := 76) (lo := 0) (hi := 75) (rs := []) (L := []) rfl (by decide) (j := j.toNat) (by omega)
  have hE_0_110_1 : ∀ j : Int, w_ei ws (w_ar ws (n_v vs 0) 110) j = w_ei w1 (w_ar ws (n_v vs 0) 110) j := fun j => by unfold w_ei; rw [s1.1, if_neg (fun e => by have e1 := e.1; rw [← e1] at r6; rw [cr_0_110] at r6; exact absurd (Option.some.inj r6) (by decide))]
  have hK_0_110 : ∀ j : Int, 0 ≤ j → j < 8 → 0 ≤ w_ei ws (w_ar ws (n_v vs 0) 110) j ∧ w_ei ws (w_ar ws (n_v vs 0) 110) j ≤ 5500 := fun j h0 h1 => th_el hD hth cr_0_110 (kd := 0) (n := 8) (m := 8) (lo := 0) (hi := 5500) (rs := []) (L := []) rfl (by decide) (j := j.toNat) (by omega)
  have hE_0_111_1 : ∀ j : Int, w_ei ws (w_ar ws (n_v vs 0) 111) j = w_ei w1 (w_ar ws (n_v vs 0) 111) j := fun j => by unfold w_ei; rw [s1.1, if_neg (fun e => by have e1 := e.1; rw [← e1] at r6; rw [cr_0_111] at r6; exact absurd (Option.some.inj r6) (by decide))]
  have hK_0_111 : ∀ j : Int, 0 ≤ j → j < 8 → 0 ≤ w_ei ws (w_ar ws (n_v vs 0) 111) j ∧ w_ei ws (w_ar ws (n_v vs 0) 111) j ≤ 720 := fun j h0 h1 => th_el hD hth cr_0_111 (kd := 0) (n := 8) (m := 8) (lo := 0) (hi := 720) (rs := []) (L := []) rfl (by decide) (j := j.toNat) (by omega)
  have hE_0_112_1 : ∀ j : Int, w_ei ws (w_ar ws (n_v vs 0) 112) j = w_ei w1 (w_ar ws (n_v vs 0) 112) j := fun j => by unfold w_ei; rw [s1.1, if_neg (fun e => by have e1 := e.1; rw [← e1] at r6; rw [cr_0_112] at r6; exact absurd (Option.some.inj r6) (by decide))]
  have hK_0_112 : ∀ j : Int, 0 ≤ j → j < 6000 → 0 ≤ w_ei ws (w_ar ws (n_v vs 0) 112) j ∧ w_ei ws (w_ar ws (n_v vs 0) 112) j ≤ 5 := fun j h0 h1 => th_el hD hth cr_0_112 (kd := 1) (n := 6000) (m := 6000) (lo := 0) (hi := 5) (rs := []) (L := []) rfl (by decide) (j := j.toNat) (by omega)
  have nf0 : fc_1 PRD (20, [0, 9], [60, 0, 2, 360, 102, 82]) ws (vs) := by
    refine ⟨fun n hn => ?_, ?_⟩
    · have hn : n ∈ [0, 9] := hn
      rw [hl]
      simp only [List.mem_cons, List.not_mem_nil, or_false] at hn
      show n < 10; omega
    · show ILE (w_ei ws (w_ar ws (n_v vs 0) 102)) (w_ei ws (w_ar ws (n_v vs 0) 82)) (v_iv (n_v vs 9))
      exact vc_Mo_layers_8_0 (v_iv (n_v vs 2)) (v_iv (n_v vs 5)) (v_iv (n_v vs 8)) (v_iv (n_v vs 9)) (w_ei ws (w_ar ws (n_v vs 0) 110)) (w_ei ws (w_ar ws (n_v vs 0) 111)) (w_ei ws (w_ar ws (n_v vs 0) 112)) (w_ei ws (w_ar ws (n_v vs 0) 2)) (w_fi ws (n_v vs 0) 5) (w_ei ws (w_ar ws (n_v vs 0) 95)) (w_ei ws (w_ar ws (n_v vs 0) 82)) (w_ei w1 (w_ar ws (n_v vs 0) 82)) (w_ei w1 (w_ar ws (n_v vs 0) 110)) (w_ei w1 (w_ar ws (n_v vs 0) 111)) (w_ei w1 (w_ar ws (n_v vs 0) 112)) (w_ei w1 (w_ar ws (n_v vs 0) 2)) (w_fi w1 (n_v vs 0) 5) (w_ei w1 (w_ar ws (n_v vs 0) 95)) (w_ei w1 (w_ar ws (n_v vs 0) 102)) (w_ei ws (w_ar ws (n_v vs 0) 102)) k2 k5 k8 k9 d0 d1 d2 d3 d4 f0 f1 f2 f3 f4 f5 h7 f10 f11 f12 f13 f14 f15 f16 fe_0_5_1 hE_0_2_1 hE_0_82_1 hK_0_82 hE_0_95_1 hK_0_95 hE_0_102_1 hK_0_102 hE_0_110_1 hK_0_110 hE_0_111_1 hK_0_111 hE_0_112_1 hK_0_112
  refine ⟨(fun _ h => (by cases h)), [], trivial, ?_, (fun _ h => (by cases h))⟩
  rw [List.append_nil]
  exact List.forall_mem_cons.mpr ⟨⟨show (20 : Nat) < 100 from by decide, nf0⟩, (fun _ h => (by cases h))⟩
set_option maxHeartbeats 4000000 in
theorem vc_Mo_layers_9_0 (x2 : Int) (x3 : Int) (x4 : Int) (x5 : Int) (x6 : Int) (x7 : Int) (x8 : Int) (all_0 : Int → Int) (r_0 : Int) (permBegin_0 : Int → Int) (permMany_0 : Int → Int) (perm_0 : Int → Int) (turned_0 : Int → Int) (spot_0 : Int → Int) (itemLayer_0 : Int → Int) (k2 : 0 ≤ x2 ∧ x2 ≤ 24) (k3 : 0 ≤ x3 ∧ x3 ≤ 72) (k4 : 0 ≤ x4 ∧ x4 ≤ 9936) (k5 : 0 ≤ x5 ∧ x5 ≤ 48) (k6 : 0 ≤ x6 ∧ x6 ≤ 48) (k7 : 0 ≤ x7 ∧ x7 ≤ 72) (k8 : 72 ≤ x8 ∧ x8 ≤ 72) (d0 : x3 + 0 ≤ x7 ∧ x7 ≤ x3 + 24) (d1 : x2 + 0 ≤ x7 ∧ x7 ≤ x2 + 1056) (d2 : x6 + 0 ≤ x5 ∧ x5 ≤ x6 + 4294967296) (f0 : x7 ≤ x8) (f1 : x7 = x2 + x3) (f2 : x6 ≤ x5) (f3 : 1 * x6 + ((-1) * all_0 (r_0 + 1) + 0) ≤ 0) (f4 : (-1) * x6 + (1 * all_0 (r_0 + 1) + 0) ≤ 0) (f5 : PTB (permBegin_0) (permMany_0) (perm_0)) (f6 : SGR (r_0) (all_0)) (f7 : 1 ≤ all_0 (r_0)) (f8 : x5 ≤ all_0 ((r_0 + 1))) (f9 : LYP (r_0) (all_0) (turned_0) (spot_0)) (f10 : ILX (r_0) (all_0) (itemLayer_0) (spot_0)) (f11 : x2 = all_0 (r_0)) (f12 : JNT (r_0) (all_0) (turned_0) (spot_0) (x5) (x3)) (f13 : (0 ≤ x3) ∧ (x3 ≤ (22 * x5))) (f14 : (0 ≤ x4) ∧ (x4 ≤ (207 * x5))) (hK_0_82 : ∀ j : Int, 0 ≤ j → j < 76 → 0 ≤ spot_0 j ∧ spot_0 j ≤ 221100000) (hK_0_95 : ∀ j : Int, 0 ≤ j → j < 48 → 0 ≤ turned_0 j ∧ turned_0 j ≤ 1) (hK_0_102 : ∀ j : Int, 0 ≤ j → j < 76 → 0 ≤ itemLayer_0 j ∧ itemLayer_0 j ≤ 75) (hK_0_110 : ∀ j : Int, 0 ≤ j → j < 8 → 0 ≤ permBegin_0 j ∧ permBegin_0 j ≤ 5500) (hK_0_111 : ∀ j : Int, 0 ≤ j → j < 8 → 0 ≤ permMany_0 j ∧ permMany_0 j ≤ 720) (hK_0_112 : ∀ j : Int, 0 ≤ j → j < 6000 → 0 ≤ perm_0 j ∧ perm_0 j ≤ 5) : LYJ (r_0) (all_0) (turned_0) (itemLayer_0) := by
  try simp only [Int.add_zero] at *
  exact lyj_of ‹LYP _ _ _ _› ‹ILX _ _ _ _› (by omega) ‹JNT _ _ _ _ _ _› (by omega) (by omega)
def o_Mo_layers_9 : or_T := (193, 9, [(0, (2, 0, 0, [150])), (2, (0, 0, 24, [])), (3, (0, 0, 72, [])), (4, (0, 0, 9936, [])), (5, (0, 0, 48, [])), (6, (0, 0, 48, [])), (7, (0, 0, 72, [])), (8, (0, 72, 72, []))], [(7, [7, 8], [5]), (1, [7, 2, 3], []), (7, [5, 6], [3]), (20, [6, 0], [30, 0, 1, 0, 0, -1, 3, 2005001]), (20, [6, 0], [30, 0, -1, 0, 0, 1, 3, 2005001]), (20, [0], [60, 0, 3, 291, 110, 111, 112]), (20, [0], [60, 1, 1, 122, 5, 2]), (20, [0], [50, 1, 1, 5, 2, 0, 2, 0, 1, 3, 0, 2, 2, 0, 5]), (20, [5, 0], [50, 1, 1, 1005, 1002, 0, 2, 1, 0, 3, 1, 2, 4, 3, 2, 1, 5, 0, 1]), (20, [0], [60, 1, 3, 359, 5, 2, 95, 82]), (20, [0], [60, 1, 3, 416, 5, 2, 102, 82]), (20, [2, 0], [50, 1, 1, 1005, 1002, 1, 2, 1, 0, 3, 1, 2, 2, 1, 5]), (20, [0, 5, 3], [60, 1, 3, 361, 5, 2, 95, 82]), (20, [3, 5], [50, 0, 0, 2, 6, 0, 2, 0, 0, 1, 0, 0, 2, 1, 0, 6, 2, 0, 22, 1, 1]), (20, [4, 5], [50, 0, 0, 2, 6, 0, 2, 0, 0, 1, 0, 0, 2, 1, 0, 6, 2, 0, 207, 1, 1])], [], [], [(20, [0], [60, 1, 3, 362, 5, 2, 95, 102])], [], [(7, 3, 0, 24), (7, 2, 0, 1056), (5, 6, 0, 4294967296)])
theorem oo_Mo_layers_9 {kA : Nat → ClassId} : or_ok PRD kA GG o_Mo_layers_9 := by
  intro A ta ws vs hD hth hl hk hds hf
  have hl : vs.length = 9 := hl
  have hk : ∀ q ∈ ([(0, (2, 0, 0, [150])), (2, (0, 0, 24, [])), (3, (0, 0, 72, [])), (4, (0, 0, 9936, [])), (5, (0, 0, 48, [])), (6, (0, 0, 48, [])), (7, (0, 0, 72, [])), (8, (0, 72, 72, []))] : List (Nat × tv_T)), tv_ok ta q.2 (n_v vs q.1) := hk
  obtain ⟨t0, hk⟩ := List.forall_mem_cons.mp hk
  have t0 : tv_ok ta (2, 0, 0, [150]) (n_v vs 0) := t0
  have r0 : ta (v_ad (n_v vs 0)) = some 150 := tv_rg t0
  obtain ⟨t2, hk⟩ := List.forall_mem_cons.mp hk
  have t2 : tv_ok ta (0, 0, 24, []) (n_v vs 2) := t2
  have k2 : 0 ≤ v_iv (n_v vs 2) ∧ v_iv (n_v vs 2) ≤ 24 := tv_rng t2
  obtain ⟨t3, hk⟩ := List.forall_mem_cons.mp hk
  have t3 : tv_ok ta (0, 0, 72, []) (n_v vs 3) := t3
  have k3 : 0 ≤ v_iv (n_v vs 3) ∧ v_iv (n_v vs 3) ≤ 72 := tv_rng t3
  obtain ⟨t4, hk⟩ := List.forall_mem_cons.mp hk
  have t4 : tv_ok ta (0, 0, 9936, []) (n_v vs 4) := t4
  have k4 : 0 ≤ v_iv (n_v vs 4) ∧ v_iv (n_v vs 4) ≤ 9936 := tv_rng t4
  obtain ⟨t5, hk⟩ := List.forall_mem_cons.mp hk
  have t5 : tv_ok ta (0, 0, 48, []) (n_v vs 5) := t5
  have k5 : 0 ≤ v_iv (n_v vs 5) ∧ v_iv (n_v vs 5) ≤ 48 := tv_rng t5
  obtain ⟨t6, hk⟩ := List.forall_mem_cons.mp hk
  have t6 : tv_ok ta (0, 0, 48, []) (n_v vs 6) := t6
  have k6 : 0 ≤ v_iv (n_v vs 6) ∧ v_iv (n_v vs 6) ≤ 48 := tv_rng t6
  obtain ⟨t7, hk⟩ := List.forall_mem_cons.mp hk
  have t7 : tv_ok ta (0, 0, 72, []) (n_v vs 7) := t7
  have k7 : 0 ≤ v_iv (n_v vs 7) ∧ v_iv (n_v vs 7) ≤ 72 := tv_rng t7
  obtain ⟨t8, hk⟩ := List.forall_mem_cons.mp hk
  have t8 : tv_ok ta (0, 72, 72, []) (n_v vs 8) := t8
  have k8 : 72 ≤ v_iv (n_v vs 8) ∧ v_iv (n_v vs 8) ≤ 72 := tv_rng t8
  have hds : ∀ q ∈ ([(7, 3, 0, 24), (7, 2, 0, 1056), (5, 6, 0, 4294967296)] : List of_T), n_iv vs q.2.1 + q.2.2.1 ≤ n_iv vs q.1 ∧ n_iv vs q.1 ≤ n_iv vs q.2.1 + q.2.2.2 := hds
  obtain ⟨d0, hds⟩ := List.forall_mem_cons.mp hds
  have d0 : v_iv (n_v vs 3) + 0 ≤ v_iv (n_v vs 7) ∧ v_iv (n_v vs 7) ≤ v_iv (n_v vs 3) + 24 := d0
  obtain ⟨d1, hds⟩ := List.forall_mem_cons.mp hds
  have d1 : v_iv (n_v vs 2) + 0 ≤ v_iv (n_v vs 7) ∧ v_iv (n_v vs 7) ≤ v_iv (n_v vs 2) + 1056 := d1
  obtain ⟨d2, hds⟩ := List.forall_mem_cons.mp hds
  have d2 : v_iv (n_v vs 6) + 0 ≤ v_iv (n_v vs 5) ∧ v_iv (n_v vs 5) ≤ v_iv (n_v vs 6) + 4294967296 := d2
  have hf : fc_ok PRD [(7, [7, 8], [5]), (1, [7, 2, 3], []), (7, [5, 6], [3]), (20, [6, 0], [30, 0, 1, 0, 0, -1, 3, 2005001]), (20, [6, 0], [30, 0, -1, 0, 0, 1, 3, 2005001]), (20, [0], [60, 0, 3, 291, 110, 111, 112]), (20, [0], [60, 1, 1, 122, 5, 2]), (20, [0], [50, 1, 1, 5, 2, 0, 2, 0, 1, 3, 0, 2, 2, 0, 5]), (20, [5, 0], [50, 1, 1, 1005, 1002, 0, 2, 1, 0, 3, 1, 2, 4, 3, 2, 1, 5, 0, 1]), (20, [0], [60, 1, 3, 359, 5, 2, 95, 82]), (20, [0], [60, 1, 3, 416, 5, 2, 102, 82]), (20, [2, 0], [50, 1, 1, 1005, 1002, 1, 2, 1, 0, 3, 1, 2, 2, 1, 5]), (20, [0, 5, 3], [60, 1, 3, 361, 5, 2, 95, 82]), (20, [3, 5], [50, 0, 0, 2, 6, 0, 2, 0, 0, 1, 0, 0, 2, 1, 0, 6, 2, 0, 22, 1, 1]), (20, [4, 5], [50, 0, 0, 2, 6, 0, 2, 0, 0, 1, 0, 0, 2, 1, 0, 6, 2, 0, 207, 1, 1])] ta ws vs := hf
  obtain ⟨f0, hf⟩ := fc_un (show (7 : Nat) < 100 from by decide) hf
  have f0 : v_iv (n_v vs 7) ≤ v_iv (n_v vs 8) := f0
  obtain ⟨f1, hf⟩ := fc_un (show (1 : Nat) < 100 from by decide) hf
  have f1 : v_iv (n_v vs 7) = v_iv (n_v vs 2) + v_iv (n_v vs 3) := f1
  obtain ⟨f2, hf⟩ := fc_un (show (7 : Nat) < 100 from by decide) hf
  have f2 : v_iv (n_v vs 6) ≤ v_iv (n_v vs 5) := f2
  obtain ⟨f3, hf⟩ := fc_un (show (20 : Nat) < 100 from by decide) hf
  have f3 : 1 * v_iv (n_v vs 6) + ((-1) * w_el ws (w_ar ws (n_v vs 0) 2) (w_fi ws (n_v vs 0) 5 + 1).toNat + 0) ≤ 0 := f3
  obtain ⟨f4, hf⟩ := fc_un (show (20 : Nat) < 100 from by decide) hf
  have f4 : (-1) * v_iv (n_v vs 6) + (1 * w_el ws (w_ar ws (n_v vs 0) 2) (w_fi ws (n_v vs 0) 5 + 1).toNat + 0) ≤ 0 := f4
  obtain ⟨f5, hf⟩ := fc_un (show (20 : Nat) < 100 from by decide) hf
  have f5 : PTB (w_ei ws (w_ar ws (n_v vs 0) 110)) (w_ei ws (w_ar ws (n_v vs 0) 111)) (w_ei ws (w_ar ws (n_v vs 0) 112)) := f5
  obtain ⟨f6, hf⟩ := fc_un (show (20 : Nat) < 100 from by decide) hf
  have f6 : SGR (w_fi ws (n_v vs 0) 5) (w_ei ws (w_ar ws (n_v vs 0) 2)) := f6
  obtain ⟨f7, hf⟩ := fc_un (show (20 : Nat) < 100 from by decide) hf
  have f7 : 1 ≤ w_ei ws (w_ar ws (n_v vs 0) 2) (w_fi ws (n_v vs 0) 5) := f7
  obtain ⟨f8, hf⟩ := fc_un (show (20 : Nat) < 100 from by decide) hf
  have f8 : v_iv (n_v vs 5) ≤ w_ei ws (w_ar ws (n_v vs 0) 2) ((w_fi ws (n_v vs 0) 5 + 1)) := f8
  obtain ⟨f9, hf⟩ := fc_un (show (20 : Nat) < 100 from by decide) hf
  have f9 : LYP (w_fi ws (n_v vs 0) 5) (w_ei ws (w_ar ws (n_v vs 0) 2)) (w_ei ws (w_ar ws (n_v vs 0) 95)) (w_ei ws (w_ar ws (n_v vs 0) 82)) := f9
  obtain ⟨f10, hf⟩ := fc_un (show (20 : Nat) < 100 from by decide) hf
  have f10 : ILX (w_fi ws (n_v vs 0) 5) (w_ei ws (w_ar ws (n_v vs 0) 2)) (w_ei ws (w_ar ws (n_v vs 0) 102)) (w_ei ws (w_ar ws (n_v vs 0) 82)) := f10
  obtain ⟨f11, hf⟩ := fc_un (show (20 : Nat) < 100 from by decide) hf
  have f11 : v_iv (n_v vs 2) = w_ei ws (w_ar ws (n_v vs 0) 2) (w_fi ws (n_v vs 0) 5) := f11
  obtain ⟨f12, hf⟩ := fc_un (show (20 : Nat) < 100 from by decide) hf
  have f12 : JNT (w_fi ws (n_v vs 0) 5) (w_ei ws (w_ar ws (n_v vs 0) 2)) (w_ei ws (w_ar ws (n_v vs 0) 95)) (w_ei ws (w_ar ws (n_v vs 0) 82)) (v_iv (n_v vs 5)) (v_iv (n_v vs 3)) := f12
  obtain ⟨f13, hf⟩ := fc_un (show (20 : Nat) < 100 from by decide) hf
  have f13 : (0 ≤ v_iv (n_v vs 3)) ∧ (v_iv (n_v vs 3) ≤ (22 * v_iv (n_v vs 5))) := f13
  obtain ⟨f14, hf⟩ := fc_un (show (20 : Nat) < 100 from by decide) hf
  have f14 : (0 ≤ v_iv (n_v vs 4)) ∧ (v_iv (n_v vs 4) ≤ (207 * v_iv (n_v vs 5))) := f14
  have cr_0_2 : ta (w_ar ws (n_v vs 0) 2) = some 152 := tv_rg (th_fd hD hth r0 (g := GG_150) rfl (k := 2) (t := (2, 0, 0, [152])) rfl rfl)
  have cr_0_82 : ta (w_ar ws (n_v vs 0) 82) = some 204 := tv_rg (th_fd hD hth r0 (g := GG_150) rfl (k := 82) (t := (2, 0, 0, [204])) rfl rfl)
  have cr_0_95 : ta (w_ar ws (n_v vs 0) 95) = some 216 := tv_rg (th_fd hD hth r0 (g := GG_150) rfl (k := 95) (t := (2, 0, 0, [216])) rfl rfl)
  have cr_0_102 : ta (w_ar ws (n_v vs 0) 102) = some 220 := tv_rg (th_fd hD hth r0 (g := GG_150) rfl (k := 102) (t := (2, 0, 0, [220])) rfl rfl)
  have cr_0_110 : ta (w_ar ws (n_v vs 0) 110) = some 227 := tv_rg (th_fd hD hth r0 (g := GG_150) rfl (k := 110) (t := (2, 0, 0, [227])) rfl rfl)
  have cr_0_111 : ta (w_ar ws (n_v vs 0) 111) = some 228 := tv_rg (th_fd hD hth r0 (g := GG_150) rfl (k := 111) (t := (2, 0, 0, [228])) rfl rfl)
  have cr_0_112 : ta (w_ar ws (n_v vs 0) 112) = some 229 := tv_rg (th_fd hD hth r0 (g := GG_150) rfl (k := 112) (t := (2, 0, 0, [229])) rfl rfl)
  have hK_0_82 : ∀ j : Int, 0 ≤ j → j < 76 → 0 ≤ w_ei ws (w_ar ws (n_v vs 0) 82) j ∧ w_ei ws (w_ar ws (n_v vs 0) 82) j ≤ 221100000 := fun j h0 h1 => th_el hD hth cr_0_82 (kd := 0) (n := 76) (m := 76) (lo := 0) (hi := 221100000) (rs := []) (L := []) rfl (by decide) (j := j.toNat) (by omega)
  have hK_0_95 : ∀ j : Int, 0 ≤ j → j < 48 → 0 ≤ w_ei ws (w_ar ws (n_v vs 0) 95) j ∧ w_ei ws (w_ar ws (n_v vs 0) 95) j ≤ 1 := fun j h0 h1 => th_el hD hth cr_0_95 (kd := 2) (n := 48) (m := 48) (lo := 0) (hi := 1) (rs := []) (L := []) rfl (by decide) (j := j.toNat) (by omega)
  have hK_0_102 : ∀ j : Int, 0 ≤ j → j < 76 → 0 ≤ w_ei ws (w_ar ws (n_v vs 0) 102) j ∧ w_ei ws (w_ar ws (n_v vs 0) 102) j ≤ 75 := fun j h0 h1 => th_el hD hth cr_0_102 (kd := 0) (n := 76) (m := 76) (lo := 0) (hi := 75) (rs := []) (L := []) rfl (by decide) (j := j.toNat) (by omega)
  have hK_0_110 : ∀ j : Int, 0 ≤ j → j < 8 → 0 ≤ w_ei ws (w_ar ws (n_v vs 0) 110) j ∧ w_ei ws (w_ar ws (n_v vs 0) 110) j ≤ 5500 := fun j h0 h1 => th_el hD hth cr_0_110 (kd := 0) (n := 8) (m := 8) (lo := 0) (hi := 5500) (rs := []) (L := []) rfl (by decide) (j := j.toNat) (by omega)
  have hK_0_111 : ∀ j : Int, 0 ≤ j → j < 8 → 0 ≤ w_ei ws (w_ar ws (n_v vs 0) 111) j ∧ w_ei ws (w_ar ws (n_v vs 0) 111) j ≤ 720 := fun j h0 h1 => th_el hD hth cr_0_111 (kd := 0) (n := 8) (m := 8) (lo := 0) (hi := 720) (rs := []) (L := []) rfl (by decide) (j := j.toNat) (by omega)
  have hK_0_112 : ∀ j : Int, 0 ≤ j → j < 6000 → 0 ≤ w_ei ws (w_ar ws (n_v vs 0) 112) j ∧ w_ei ws (w_ar ws (n_v vs 0) 112) j ≤ 5 := fun j h0 h1 => th_el hD hth cr_0_112 (kd := 1) (n := 6000) (m := 6000) (lo := 0) (hi := 5) (rs := []) (L := []) rfl (by decide) (j := j.toNat) (by omega)
  have nf0 : fc_1 PRD (20, [0], [60, 1, 3, 362, 5, 2, 95, 102]) ws (vs) := by
    refine ⟨fun n hn => ?_, ?_⟩
    · have hn : n ∈ [0] := hn
      rw [hl]
      simp only [List.mem_cons, List.not_mem_nil, or_false] at hn
      show n < 9; omega
    · show LYJ (w_fi ws (n_v vs 0) 5) (w_ei ws (w_ar ws (n_v vs 0) 2)) (w_ei ws (w_ar ws (n_v vs 0) 95)) (w_ei ws (w_ar ws (n_v vs 0) 102))
      exact vc_Mo_layers_9_0 (v_iv (n_v vs 2)) (v_iv (n_v vs 3)) (v_iv (n_v vs 4)) (v_iv (n_v vs 5)) (v_iv (n_v vs 6)) (v_iv (n_v vs 7)) (v_iv (n_v vs 8)) (w_ei ws (w_ar ws (n_v vs 0) 2)) (w_fi ws (n_v vs 0) 5) (w_ei ws (w_ar ws (n_v vs 0) 110)) (w_ei ws (w_ar ws (n_v vs 0) 111)) (w_ei ws (w_ar ws (n_v vs 0) 112)) (w_ei ws (w_ar ws (n_v vs 0) 95)) (w_ei ws (w_ar ws (n_v vs 0) 82)) (w_ei ws (w_ar ws (n_v vs 0) 102)) k2 k3 k4 k5 k6 k7 k8 d0 d1 d2 f0 f1 f2 f3 f4 f5 f6 f7 f8 f9 f10 f11 f12 f13 f14 hK_0_82 hK_0_95 hK_0_102 hK_0_110 hK_0_111 hK_0_112
  refine ⟨(fun _ h => (by cases h)), [], trivial, ?_, (fun _ h => (by cases h))⟩
  rw [List.append_nil]
  exact List.forall_mem_cons.mpr ⟨⟨show (20 : Nat) < 100 from by decide, nf0⟩, (fun _ h => (by cases h))⟩
set_option maxHeartbeats 4000000 in
theorem vc_Mo_layers_10_0 (x2 : Int) (x3 : Int) (x4 : Int) (x5 : Int) (x6 : Int) (x7 : Int) (x8 : Int) (x9 : Int) (layerSize_0 : Int → Int) (layerMany_0 : Int) (all_0 : Int → Int) (r_0 : Int) (permBegin_0 : Int → Int) (permMany_0 : Int → Int) (perm_0 : Int → Int) (turned_0 : Int → Int) (spot_0 : Int → Int) (itemLayer_0 : Int → Int) (firstJoint_0 : Int → Int) (lineA_0 : Int → Int) (lineB_0 : Int → Int) (items_0 : Int) (lines_0 : Int) (layerItem_0 : Int → Int) (k2 : 0 ≤ x2 ∧ x2 ≤ 24) (k3 : 0 ≤ x3 ∧ x3 ≤ 72) (k4 : 0 ≤ x4 ∧ x4 ≤ 9936) (k5 : 0 ≤ x5 ∧ x5 ≤ 48) (k6 : 0 ≤ x6 ∧ x6 ≤ 48) (k7 : 0 ≤ x7 ∧ x7 ≤ 72) (k8 : 72 ≤ x8 ∧ x8 ≤ 72) (k9 : 1 ≤ x9 ∧ x9 ≤ 1) (d0 : x3 + 0 ≤ x7 ∧ x7 ≤ x3 + 24) (d1 : x2 + 0 ≤ x7 ∧ x7 ≤ x2 + 1056) (d2 : x6 + 0 ≤ x5 ∧ x5 ≤ x6 + 4294967296) (f0 : x9 ≠ 0) (f1 : ISS (layerMany_0) (layerSize_0) (x9)) (f2 : 1 * x6 + ((-1) * all_0 (r_0 + 1) + 0) ≤ 0) (f3 : (-1) * x6 + (1 * all_0 (r_0 + 1) + 0) ≤ 0) (f4 : PTB (permBegin_0) (permMany_0) (perm_0)) (f5 : SGR (r_0) (all_0)) (f6 : 1 ≤ all_0 (r_0)) (f7 : x5 ≤ all_0 ((r_0 + 1))) (f8 : LYP (r_0) (all_0) (turned_0) (spot_0)) (f9 : x2 = all_0 (r_0)) (f10 : JNT (r_0) (all_0) (turned_0) (spot_0) (x5) (x3)) (f11 : (0 ≤ x3) ∧ (x3 ≤ (22 * x5))) (f12 : (0 ≤ x4) ∧ (x4 ≤ (207 * x5))) (f13 : LSA (r_0) (items_0) (layerMany_0) (lines_0) (all_0) (turned_0) (itemLayer_0) (firstJoint_0) (lineA_0) (lineB_0)) (f14 : LSB (items_0) (layerMany_0) (itemLayer_0) (layerSize_0) (layerItem_0)) (f16 : x7 ≤ x8) (f17 : x7 = x2 + x3) (f18 : x6 ≤ x5) (hK_0_82 : ∀ j : Int, 0 ≤ j → j < 76 → 0 ≤ spot_0 j ∧ spot_0 j ≤ 221100000) (hK_0_95 : ∀ j : Int, 0 ≤ j → j < 48 → 0 ≤ turned_0 j ∧ turned_0 j ≤ 1) (hK_0_102 : ∀ j : Int, 0 ≤ j → j < 76 → 0 ≤ itemLayer_0 j ∧ itemLayer_0 j ≤ 75) (hK_0_104 : ∀ j : Int, 0 ≤ j → j < 48 → 0 ≤ firstJoint_0 j ∧ firstJoint_0 j ≤ 76) (hK_0_105 : ∀ j : Int, 0 ≤ j → j < 76 → 0 ≤ layerSize_0 j ∧ layerSize_0 j ≤ 76) (hK_0_106 : ∀ j : Int, 0 ≤ j → j < 5776 → 0 ≤ layerItem_0 j ∧ layerItem_0 j ≤ 75) (hK_0_108 : ∀ j : Int, 0 ≤ j → j < 130 → 0 ≤ lineA_0 j ∧ lineA_0 j ≤ 75) (hK_0_109 : ∀ j : Int, 0 ≤ j → j < 130 → 0 ≤ lineB_0 j ∧ lineB_0 j ≤ 75) (hK_0_110 : ∀ j : Int, 0 ≤ j → j < 8 → 0 ≤ permBegin_0 j ∧ permBegin_0 j ≤ 5500) (hK_0_111 : ∀ j : Int, 0 ≤ j → j < 8 → 0 ≤ permMany_0 j ∧ permMany_0 j ≤ 720) (hK_0_112 : ∀ j : Int, 0 ≤ j → j < 6000 → 0 ≤ perm_0 j ∧ perm_0 j ≤ 5) (kz_0_100 : 0 ≤ items_0 ∧ items_0 ≤ 76) (kz_0_101 : 0 ≤ layerMany_0 ∧ layerMany_0 ≤ 76) (kz_0_107 : 0 ≤ lines_0 ∧ lines_0 ≤ 130) : ISY (layerMany_0) (layerSize_0) := by
  exact ‹ISS _ _ _› (by omega)
set_option maxHeartbeats 4000000 in
theorem vc_Mo_layers_10_1 (x2 : Int) (x3 : Int) (x4 : Int) (x5 : Int) (x6 : Int) (x7 : Int) (x8 : Int) (x9 : Int) (layerSize_0 : Int → Int) (layerMany_0 : Int) (all_0 : Int → Int) (r_0 : Int) (permBegin_0 : Int → Int) (permMany_0 : Int → Int) (perm_0 : Int → Int) (turned_0 : Int → Int) (spot_0 : Int → Int) (itemLayer_0 : Int → Int) (firstJoint_0 : Int → Int) (lineA_0 : Int → Int) (lineB_0 : Int → Int) (items_0 : Int) (lines_0 : Int) (layerItem_0 : Int → Int) (k2 : 0 ≤ x2 ∧ x2 ≤ 24) (k3 : 0 ≤ x3 ∧ x3 ≤ 72) (k4 : 0 ≤ x4 ∧ x4 ≤ 9936) (k5 : 0 ≤ x5 ∧ x5 ≤ 48) (k6 : 0 ≤ x6 ∧ x6 ≤ 48) (k7 : 0 ≤ x7 ∧ x7 ≤ 72) (k8 : 72 ≤ x8 ∧ x8 ≤ 72) (k9 : 1 ≤ x9 ∧ x9 ≤ 1) (d0 : x3 + 0 ≤ x7 ∧ x7 ≤ x3 + 24) (d1 : x2 + 0 ≤ x7 ∧ x7 ≤ x2 + 1056) (d2 : x6 + 0 ≤ x5 ∧ x5 ≤ x6 + 4294967296) (f0 : x9 ≠ 0) (f1 : ISS (layerMany_0) (layerSize_0) (x9)) (f2 : 1 * x6 + ((-1) * all_0 (r_0 + 1) + 0) ≤ 0) (f3 : (-1) * x6 + (1 * all_0 (r_0 + 1) + 0) ≤ 0) (f4 : PTB (permBegin_0) (permMany_0) (perm_0)) (f5 : SGR (r_0) (all_0)) (f6 : 1 ≤ all_0 (r_0)) (f7 : x5 ≤ all_0 ((r_0 + 1))) (f8 : LYP (r_0) (all_0) (turned_0) (spot_0)) (f9 : x2 = all_0 (r_0)) (f10 : JNT (r_0) (all_0) (turned_0) (spot_0) (x5) (x3)) (f11 : (0 ≤ x3) ∧ (x3 ≤ (22 * x5))) (f12 : (0 ≤ x4) ∧ (x4 ≤ (207 * x5))) (f13 : LSA (r_0) (items_0) (layerMany_0) (lines_0) (all_0) (turned_0) (itemLayer_0) (firstJoint_0) (lineA_0) (lineB_0)) (f14 : LSB (items_0) (layerMany_0) (itemLayer_0) (layerSize_0) (layerItem_0)) (f16 : x7 ≤ x8) (f17 : x7 = x2 + x3) (f18 : x6 ≤ x5) (hK_0_82 : ∀ j : Int, 0 ≤ j → j < 76 → 0 ≤ spot_0 j ∧ spot_0 j ≤ 221100000) (hK_0_95 : ∀ j : Int, 0 ≤ j → j < 48 → 0 ≤ turned_0 j ∧ turned_0 j ≤ 1) (hK_0_102 : ∀ j : Int, 0 ≤ j → j < 76 → 0 ≤ itemLayer_0 j ∧ itemLayer_0 j ≤ 75) (hK_0_104 : ∀ j : Int, 0 ≤ j → j < 48 → 0 ≤ firstJoint_0 j ∧ firstJoint_0 j ≤ 76) (hK_0_105 : ∀ j : Int, 0 ≤ j → j < 76 → 0 ≤ layerSize_0 j ∧ layerSize_0 j ≤ 76) (hK_0_106 : ∀ j : Int, 0 ≤ j → j < 5776 → 0 ≤ layerItem_0 j ∧ layerItem_0 j ≤ 75) (hK_0_108 : ∀ j : Int, 0 ≤ j → j < 130 → 0 ≤ lineA_0 j ∧ lineA_0 j ≤ 75) (hK_0_109 : ∀ j : Int, 0 ≤ j → j < 130 → 0 ≤ lineB_0 j ∧ lineB_0 j ≤ 75) (hK_0_110 : ∀ j : Int, 0 ≤ j → j < 8 → 0 ≤ permBegin_0 j ∧ permBegin_0 j ≤ 5500) (hK_0_111 : ∀ j : Int, 0 ≤ j → j < 8 → 0 ≤ permMany_0 j ∧ permMany_0 j ≤ 720) (hK_0_112 : ∀ j : Int, 0 ≤ j → j < 6000 → 0 ≤ perm_0 j ∧ perm_0 j ≤ 5) (kz_0_100 : 0 ≤ items_0 ∧ items_0 ≤ 76) (kz_0_101 : 0 ≤ layerMany_0 ∧ layerMany_0 ≤ 76) (kz_0_107 : 0 ≤ lines_0 ∧ lines_0 ≤ 130) : 1 ≤ layerMany_0 := by
  try simp only [Int.add_zero] at *
  first
    | omega
    | (have h := ‹SGR _ _›.1; omega)
    | (have h := ‹LSA _ _ _ _ _ _ _ _ _ _›.2.1; have h2 := ‹LSA _ _ _ _ _ _ _ _ _ _›.2.2.1 0 (by omega) (by omega); omega)
def o_Mo_layers_10 : or_T := (204, 10, [(0, (2, 0, 0, [150])), (2, (0, 0, 24, [])), (3, (0, 0, 72, [])), (4, (0, 0, 9936, [])), (5, (0, 0, 48, [])), (6, (0, 0, 48, [])), (7, (0, 0, 72, [])), (8, (0, 72, 72, [])), (9, (0, 1, 1, []))], [(8, [9], [1]), (20, [0, 9], [60, 1, 1, 383, 101, 105]), (20, [6, 0], [30, 0, 1, 0, 0, -1, 3, 2005001]), (20, [6, 0], [30, 0, -1, 0, 0, 1, 3, 2005001]), (20, [0], [60, 0, 3, 291, 110, 111, 112]), (20, [0], [60, 1, 1, 122, 5, 2]), (20, [0], [50, 1, 1, 5, 2, 0, 2, 0, 1, 3, 0, 2, 2, 0, 5]), (20, [5, 0], [50, 1, 1, 1005, 1002, 0, 2, 1, 0, 3, 1, 2, 4, 3, 2, 1, 5, 0, 1]), (20, [0], [60, 1, 3, 359, 5, 2, 95, 82]), (20, [2, 0], [50, 1, 1, 1005, 1002, 1, 2, 1, 0, 3, 1, 2, 2, 1, 5]), (20, [0, 5, 3], [60, 1, 3, 361, 5, 2, 95, 82]), (20, [3, 5], [50, 0, 0, 2, 6, 0, 2, 0, 0, 1, 0, 0, 2, 1, 0, 6, 2, 0, 22, 1, 1]), (20, [4, 5], [50, 0, 0, 2, 6, 0, 2, 0, 0, 1, 0, 0, 2, 1, 0, 6, 2, 0, 207, 1, 1]), (20, [0], [60, 4, 6, 369, 5, 100, 101, 107, 2, 95, 102, 104, 108, 109]), (20, [0], [60, 2, 3, 372, 100, 101, 102, 105, 106]), (102, [8], [213994576670508203370169432253218318471994833853915794068759906353152, 13100, 13101, 13107]), (7, [7, 8], [5]), (1, [7, 2, 3], []), (7, [5, 6], [3])], [], [], [(20, [0], [60, 1, 1, 385, 101, 105]), (20, [0], [50, 1, 0, 101, 0, 2, 0, 1, 2, 0, 101])], [], [(7, 3, 0, 24), (7, 2, 0, 1056), (5, 6, 0, 4294967296)])
theorem oo_Mo_layers_10 {kA : Nat → ClassId} : or_ok PRD kA GG o_Mo_layers_10 := by
  intro A ta ws vs hD hth hl hk hds hf
  have hl : vs.length = 10 := hl
  have hk : ∀ q ∈ ([(0, (2, 0, 0, [150])), (2, (0, 0, 24, [])), (3, (0, 0, 72, [])), (4, (0, 0, 9936, [])), (5, (0, 0, 48, [])), (6, (0, 0, 48, [])), (7, (0, 0, 72, [])), (8, (0, 72, 72, [])), (9, (0, 1, 1, []))] : List (Nat × tv_T)), tv_ok ta q.2 (n_v vs q.1) := hk
  obtain ⟨t0, hk⟩ := List.forall_mem_cons.mp hk
  have t0 : tv_ok ta (2, 0, 0, [150]) (n_v vs 0) := t0
  have r0 : ta (v_ad (n_v vs 0)) = some 150 := tv_rg t0
  obtain ⟨t2, hk⟩ := List.forall_mem_cons.mp hk
  have t2 : tv_ok ta (0, 0, 24, []) (n_v vs 2) := t2
  have k2 : 0 ≤ v_iv (n_v vs 2) ∧ v_iv (n_v vs 2) ≤ 24 := tv_rng t2
  obtain ⟨t3, hk⟩ := List.forall_mem_cons.mp hk
  have t3 : tv_ok ta (0, 0, 72, []) (n_v vs 3) := t3
  have k3 : 0 ≤ v_iv (n_v vs 3) ∧ v_iv (n_v vs 3) ≤ 72 := tv_rng t3
  obtain ⟨t4, hk⟩ := List.forall_mem_cons.mp hk
  have t4 : tv_ok ta (0, 0, 9936, []) (n_v vs 4) := t4
  have k4 : 0 ≤ v_iv (n_v vs 4) ∧ v_iv (n_v vs 4) ≤ 9936 := tv_rng t4
  obtain ⟨t5, hk⟩ := List.forall_mem_cons.mp hk
  have t5 : tv_ok ta (0, 0, 48, []) (n_v vs 5) := t5
  have k5 : 0 ≤ v_iv (n_v vs 5) ∧ v_iv (n_v vs 5) ≤ 48 := tv_rng t5
  obtain ⟨t6, hk⟩ := List.forall_mem_cons.mp hk
  have t6 : tv_ok ta (0, 0, 48, []) (n_v vs 6) := t6
  have k6 : 0 ≤ v_iv (n_v vs 6) ∧ v_iv (n_v vs 6) ≤ 48 := tv_rng t6
  obtain ⟨t7, hk⟩ := List.forall_mem_cons.mp hk
  have t7 : tv_ok ta (0, 0, 72, []) (n_v vs 7) := t7
  have k7 : 0 ≤ v_iv (n_v vs 7) ∧ v_iv (n_v vs 7) ≤ 72 := tv_rng t7
  obtain ⟨t8, hk⟩ := List.forall_mem_cons.mp hk
  have t8 : tv_ok ta (0, 72, 72, []) (n_v vs 8) := t8
  have k8 : 72 ≤ v_iv (n_v vs 8) ∧ v_iv (n_v vs 8) ≤ 72 := tv_rng t8
  obtain ⟨t9, hk⟩ := List.forall_mem_cons.mp hk
  have t9 : tv_ok ta (0, 1, 1, []) (n_v vs 9) := t9
  have k9 : 1 ≤ v_iv (n_v vs 9) ∧ v_iv (n_v vs 9) ≤ 1 := tv_rng t9
  have hds : ∀ q ∈ ([(7, 3, 0, 24), (7, 2, 0, 1056), (5, 6, 0, 4294967296)] : List of_T), n_iv vs q.2.1 + q.2.2.1 ≤ n_iv vs q.1 ∧ n_iv vs q.1 ≤ n_iv vs q.2.1 + q.2.2.2 := hds
  obtain ⟨d0, hds⟩ := List.forall_mem_cons.mp hds
  have d0 : v_iv (n_v vs 3) + 0 ≤ v_iv (n_v vs 7) ∧ v_iv (n_v vs 7) ≤ v_iv (n_v vs 3) + 24 := d0
  obtain ⟨d1, hds⟩ := List.forall_mem_cons.mp hds
  have d1 : v_iv (n_v vs 2) + 0 ≤ v_iv (n_v vs 7) ∧ v_iv (n_v vs 7) ≤ v_iv (n_v vs 2) + 1056 := d1
  obtain ⟨d2, hds⟩ := List.forall_mem_cons.mp hds
  have d2 : v_iv (n_v vs 6) + 0 ≤ v_iv (n_v vs 5) ∧ v_iv (n_v vs 5) ≤ v_iv (n_v vs 6) + 4294967296 := d2
  have hf : fc_ok PRD [(8, [9], [1]), (20, [0, 9], [60, 1, 1, 383, 101, 105]), (20, [6, 0], [30, 0, 1, 0, 0, -1, 3, 2005001]), (20, [6, 0], [30, 0, -1, 0, 0, 1, 3, 2005001]), (20, [0], [60, 0, 3, 291, 110, 111, 112]), (20, [0], [60, 1, 1, 122, 5, 2]), (20, [0], [50, 1, 1, 5, 2, 0, 2, 0, 1, 3, 0, 2, 2, 0, 5]), (20, [5, 0], [50, 1, 1, 1005, 1002, 0, 2, 1, 0, 3, 1, 2, 4, 3, 2, 1, 5, 0, 1]), (20, [0], [60, 1, 3, 359, 5, 2, 95, 82]), (20, [2, 0], [50, 1, 1, 1005, 1002, 1, 2, 1, 0, 3, 1, 2, 2, 1, 5]), (20, [0, 5, 3], [60, 1, 3, 361, 5, 2, 95, 82]), (20, [3, 5], [50, 0, 0, 2, 6, 0, 2, 0, 0, 1, 0, 0, 2, 1, 0, 6, 2, 0, 22, 1, 1]), (20, [4, 5], [50, 0, 0, 2, 6, 0, 2, 0, 0, 1, 0, 0, 2, 1, 0, 6, 2, 0, 207, 1, 1]), (20, [0], [60, 4, 6, 369, 5, 100, 101, 107, 2, 95, 102, 104, 108, 109]), (20, [0], [60, 2, 3, 372, 100, 101, 102, 105, 106]), (102, [8], [213994576670508203370169432253218318471994833853915794068759906353152, 13100, 13101, 13107]), (7, [7, 8], [5]), (1, [7, 2, 3], []), (7, [5, 6], [3])] ta ws vs := hf
  obtain ⟨f0, hf⟩ := fc_un (show (8 : Nat) < 100 from by decide) hf
  have f0 : v_iv (n_v vs 9) ≠ 0 := f0
  obtain ⟨f1, hf⟩ := fc_un (show (20 : Nat) < 100 from by decide) hf
  have f1 : ISS (w_fi ws (n_v vs 0) 101) (w_ei ws (w_ar ws (n_v vs 0) 105)) (v_iv (n_v vs 9)) := f1
  obtain ⟨f2, hf⟩ := fc_un (show (20 : Nat) < 100 from by decide) hf
  have f2 : 1 * v_iv (n_v vs 6) + ((-1) * w_el ws (w_ar ws (n_v vs 0) 2) (w_fi ws (n_v vs 0) 5 + 1).toNat + 0) ≤ 0 := f2
  obtain ⟨f3, hf⟩ := fc_un (show (20 : Nat) < 100 from by decide) hf
  have f3 : (-1) * v_iv (n_v vs 6) + (1 * w_el ws (w_ar ws (n_v vs 0) 2) (w_fi ws (n_v vs 0) 5 + 1).toNat + 0) ≤ 0 := f3
  obtain ⟨f4, hf⟩ := fc_un (show (20 : Nat) < 100 from by decide) hf
  have f4 : PTB (w_ei ws (w_ar ws (n_v vs 0) 110)) (w_ei ws (w_ar ws (n_v vs 0) 111)) (w_ei ws (w_ar ws (n_v vs 0) 112)) := f4
  obtain ⟨f5, hf⟩ := fc_un (show (20 : Nat) < 100 from by decide) hf
  have f5 : SGR (w_fi ws (n_v vs 0) 5) (w_ei ws (w_ar ws (n_v vs 0) 2)) := f5
  obtain ⟨f6, hf⟩ := fc_un (show (20 : Nat) < 100 from by decide) hf
  have f6 : 1 ≤ w_ei ws (w_ar ws (n_v vs 0) 2) (w_fi ws (n_v vs 0) 5) := f6
  obtain ⟨f7, hf⟩ := fc_un (show (20 : Nat) < 100 from by decide) hf
  have f7 : v_iv (n_v vs 5) ≤ w_ei ws (w_ar ws (n_v vs 0) 2) ((w_fi ws (n_v vs 0) 5 + 1)) := f7
  obtain ⟨f8, hf⟩ := fc_un (show (20 : Nat) < 100 from by decide) hf
  have f8 : LYP (w_fi ws (n_v vs 0) 5) (w_ei ws (w_ar ws (n_v vs 0) 2)) (w_ei ws (w_ar ws (n_v vs 0) 95)) (w_ei ws (w_ar ws (n_v vs 0) 82)) := f8
  obtain ⟨f9, hf⟩ := fc_un (show (20 : Nat) < 100 from by decide) hf
  have f9 : v_iv (n_v vs 2) = w_ei ws (w_ar ws (n_v vs 0) 2) (w_fi ws (n_v vs 0) 5) := f9
  obtain ⟨f10, hf⟩ := fc_un (show (20 : Nat) < 100 from by decide) hf
  have f10 : JNT (w_fi ws (n_v vs 0) 5) (w_ei ws (w_ar ws (n_v vs 0) 2)) (w_ei ws (w_ar ws (n_v vs 0) 95)) (w_ei ws (w_ar ws (n_v vs 0) 82)) (v_iv (n_v vs 5)) (v_iv (n_v vs 3)) := f10
  obtain ⟨f11, hf⟩ := fc_un (show (20 : Nat) < 100 from by decide) hf
  have f11 : (0 ≤ v_iv (n_v vs 3)) ∧ (v_iv (n_v vs 3) ≤ (22 * v_iv (n_v vs 5))) := f11
  obtain ⟨f12, hf⟩ := fc_un (show (20 : Nat) < 100 from by decide) hf
  have f12 : (0 ≤ v_iv (n_v vs 4)) ∧ (v_iv (n_v vs 4) ≤ (207 * v_iv (n_v vs 5))) := f12
  obtain ⟨f13, hf⟩ := fc_un (show (20 : Nat) < 100 from by decide) hf
  have f13 : LSA (w_fi ws (n_v vs 0) 5) (w_fi ws (n_v vs 0) 100) (w_fi ws (n_v vs 0) 101) (w_fi ws (n_v vs 0) 107) (w_ei ws (w_ar ws (n_v vs 0) 2)) (w_ei ws (w_ar ws (n_v vs 0) 95)) (w_ei ws (w_ar ws (n_v vs 0) 102)) (w_ei ws (w_ar ws (n_v vs 0) 104)) (w_ei ws (w_ar ws (n_v vs 0) 108)) (w_ei ws (w_ar ws (n_v vs 0) 109)) := f13
  obtain ⟨f14, hf⟩ := fc_un (show (20 : Nat) < 100 from by decide) hf
  have f14 : LSB (w_fi ws (n_v vs 0) 100) (w_fi ws (n_v vs 0) 101) (w_ei ws (w_ar ws (n_v vs 0) 102)) (w_ei ws (w_ar ws (n_v vs 0) 105)) (w_ei ws (w_ar ws (n_v vs 0) 106)) := f14
  obtain ⟨ta1, w1, le1, ⟨_, s1⟩, hf⟩ := fc_us (show ¬ (102 : Nat) < 100 from by decide) hf
  obtain ⟨f16, hf⟩ := fc_un (show (7 : Nat) < 100 from by decide) hf
  have f16 : v_iv (n_v vs 7) ≤ v_iv (n_v vs 8) := f16
  obtain ⟨f17, hf⟩ := fc_un (show (1 : Nat) < 100 from by decide) hf
  have f17 : v_iv (n_v vs 7) = v_iv (n_v vs 2) + v_iv (n_v vs 3) := f17
  obtain ⟨f18, hf⟩ := fc_un (show (7 : Nat) < 100 from by decide) hf
  have f18 : v_iv (n_v vs 6) ≤ v_iv (n_v vs 5) := f18
  have cr_0_2 : ta (w_ar ws (n_v vs 0) 2) = some 152 := tv_rg (th_fd hD hth r0 (g := GG_150) rfl (k := 2) (t := (2, 0, 0, [152])) rfl rfl)
  have cr_0_82 : ta (w_ar ws (n_v vs 0) 82) = some 204 := tv_rg (th_fd hD hth r0 (g := GG_150) rfl (k := 82) (t := (2, 0, 0, [204])) rfl rfl)
  have cr_0_95 : ta (w_ar ws (n_v vs 0) 95) = some 216 := tv_rg (th_fd hD hth r0 (g := GG_150) rfl (k := 95) (t := (2, 0, 0, [216])) rfl rfl)
  have cr_0_102 : ta (w_ar ws (n_v vs 0) 102) = some 220 := tv_rg (th_fd hD hth r0 (g := GG_150) rfl (k := 102) (t := (2, 0, 0, [220])) rfl rfl)
  have cr_0_104 : ta (w_ar ws (n_v vs 0) 104) = some 222 := tv_rg (th_fd hD hth r0 (g := GG_150) rfl (k := 104) (t := (2, 0, 0, [222])) rfl rfl)
  have cr_0_105 : ta (w_ar ws (n_v vs 0) 105) = some 223 := tv_rg (th_fd hD hth r0 (g := GG_150) rfl (k := 105) (t := (2, 0, 0, [223])) rfl rfl)
  have cr_0_106 : ta (w_ar ws (n_v vs 0) 106) = some 224 := tv_rg (th_fd hD hth r0 (g := GG_150) rfl (k := 106) (t := (2, 0, 0, [224])) rfl rfl)
  have cr_0_108 : ta (w_ar ws (n_v vs 0) 108) = some 225 := tv_rg (th_fd hD hth r0 (g := GG_150) rfl (k := 108) (t := (2, 0, 0, [225])) rfl rfl)
  have cr_0_109 : ta (w_ar ws (n_v vs 0) 109) = some 226 := tv_rg (th_fd hD hth r0 (g := GG_150) rfl (k := 109) (t := (2, 0, 0, [226])) rfl rfl)
  have cr_0_110 : ta (w_ar ws (n_v vs 0) 110) = some 227 := tv_rg (th_fd hD hth r0 (g := GG_150) rfl (k := 110) (t := (2, 0, 0, [227])) rfl rfl)
  have cr_0_111 : ta (w_ar ws (n_v vs 0) 111) = some 228 := tv_rg (th_fd hD hth r0 (g := GG_150) rfl (k := 111) (t := (2, 0, 0, [228])) rfl rfl)
  have cr_0_112 : ta (w_ar ws (n_v vs 0) 112) = some 229 := tv_rg (th_fd hD hth r0 (g := GG_150) rfl (k := 112) (t := (2, 0, 0, [229])) rfl rfl)
  have hK_0_82 : ∀ j : Int, 0 ≤ j → j < 76 → 0 ≤ w_ei ws (w_ar ws (n_v vs 0) 82) j ∧ w_ei ws (w_ar ws (n_v vs 0) 82) j ≤ 221100000 := fun j h0 h1 => th_el hD hth cr_0_82 (kd := 0) (n := 76) (m := 76) (lo := 0) (hi := 221100000) (rs := []) (L := []) rfl (by decide) (j := j.toNat) (by omega)
  have hK_0_95 : ∀ j : Int, 0 ≤ j → j < 48 → 0 ≤ w_ei ws (w_ar ws (n_v vs 0) 95) j ∧ w_ei ws (w_ar ws (n_v vs 0) 95) j ≤ 1 := fun j h0 h1 => th_el hD hth cr_0_95 (kd := 2) (n := 48) (m := 48) (lo := 0) (hi := 1) (rs := []) (L := []) rfl (by decide) (j := j.toNat) (by omega)
  have hK_0_102 : ∀ j : Int, 0 ≤ j → j < 76 → 0 ≤ w_ei ws (w_ar ws (n_v vs 0) 102) j ∧ w_ei ws (w_ar ws (n_v vs 0) 102) j ≤ 75 := fun j h0 h1 => th_el hD hth cr_0_102 (kd := 0) (n := 76) (m := 76) (lo := 0) (hi := 75) (rs := []) (L := []) rfl (by decide) (j := j.toNat) (by omega)
  have hK_0_104 : ∀ j : Int, 0 ≤ j → j < 48 → 0 ≤ w_ei ws (w_ar ws (n_v vs 0) 104) j ∧ w_ei ws (w_ar ws (n_v vs 0) 104) j ≤ 76 := fun j h0 h1 => th_el hD hth cr_0_104 (kd := 0) (n := 48) (m := 48) (lo := 0) (hi := 76) (rs := []) (L := []) rfl (by decide) (j := j.toNat) (by omega)
  have hK_0_105 : ∀ j : Int, 0 ≤ j → j < 76 → 0 ≤ w_ei ws (w_ar ws (n_v vs 0) 105) j ∧ w_ei ws (w_ar ws (n_v vs 0) 105) j ≤ 76 := fun j h0 h1 => th_el hD hth cr_0_105 (kd := 0) (n := 76) (m := 76) (lo := 0) (hi := 76) (rs := []) (L := []) rfl (by decide) (j := j.toNat) (by omega)
  have hK_0_106 : ∀ j : Int, 0 ≤ j → j < 5776 → 0 ≤ w_ei ws (w_ar ws (n_v vs 0) 106) j ∧ w_ei ws (w_ar ws (n_v vs 0) 106) j ≤ 75 := fun j h0 h1 => th_el hD hth cr_0_106 (kd := 0) (n := 5776) (m := 5776) (lo := 0) (hi := 75) (rs := []) (L := []) rfl (by decide) (j := j.toNat) (by omega)
  have hK_0_108 : ∀ j : Int, 0 ≤ j → j < 130 → 0 ≤ w_ei ws (w_ar ws (n_v vs 0) 108) j ∧ w_ei ws (w_ar ws (n_v vs 0) 108) j ≤ 75 := fun j h0 h1 => th_el hD hth cr_0_108 (kd := 0) (n := 130) (m := 130) (lo := 0) (hi := 75) (rs := []) (L := []) rfl (by decide) (j := j.toNat) (by omega)
  have hK_0_109 : ∀ j : Int, 0 ≤ j → j < 130 → 0 ≤ w_ei ws (w_ar ws (n_v vs 0) 109) j ∧ w_ei ws (w_ar ws (n_v vs 0) 109) j ≤ 75 := fun j h0 h1 => th_el hD hth cr_0_109 (kd := 0) (n := 130) (m := 130) (lo := 0) (hi := 75) (rs := []) (L := []) rfl (by decide) (j := j.toNat) (by omega)
  have hK_0_110 : ∀ j : Int, 0 ≤ j → j < 8 → 0 ≤ w_ei ws (w_ar ws (n_v vs 0) 110) j ∧ w_ei ws (w_ar ws (n_v vs 0) 110) j ≤ 5500 := fun j h0 h1 => th_el hD hth cr_0_110 (kd := 0) (n := 8) (m := 8) (lo := 0) (hi := 5500) (rs := []) (L := []) rfl (by decide) (j := j.toNat) (by omega)
  have hK_0_111 : ∀ j : Int, 0 ≤ j → j < 8 → 0 ≤ w_ei ws (w_ar ws (n_v vs 0) 111) j ∧ w_ei ws (w_ar ws (n_v vs 0) 111) j ≤ 720 := fun j h0 h1 => th_el hD hth cr_0_111 (kd := 0) (n := 8) (m := 8) (lo := 0) (hi := 720) (rs := []) (L := []) rfl (by decide) (j := j.toNat) (by omega)
  have hK_0_112 : ∀ j : Int, 0 ≤ j → j < 6000 → 0 ≤ w_ei ws (w_ar ws (n_v vs 0) 112) j ∧ w_ei ws (w_ar ws (n_v vs 0) 112) j ≤ 5 := fun j h0 h1 => th_el hD hth cr_0_112 (kd := 1) (n := 6000) (m := 6000) (lo := 0) (hi := 5) (rs := []) (L := []) rfl (by decide) (j := j.toNat) (by omega)
  have kz_0_100 : 0 ≤ w_fi ws (n_v vs 0) 100 ∧ w_fi ws (n_v vs 0) 100 ≤ 76 := tv_rng (th_fd hD hth r0 (g := GG_150) rfl (k := 100) (t := (0, 0, 76, [])) rfl rfl)
  have kz_0_101 : 0 ≤ w_fi ws (n_v vs 0) 101 ∧ w_fi ws (n_v vs 0) 101 ≤ 76 := tv_rng (th_fd hD hth r0 (g := GG_150) rfl (k := 101) (t := (0, 0, 76, [])) rfl rfl)
  have kz_0_107 : 0 ≤ w_fi ws (n_v vs 0) 107 ∧ w_fi ws (n_v vs 0) 107 ≤ 130 := tv_rng (th_fd hD hth r0 (g := GG_150) rfl (k := 107) (t := (0, 0, 130, [])) rfl rfl)
  have nf0 : fc_1 PRD (20, [0], [60, 1, 1, 385, 101, 105]) ws (vs) := by
    refine ⟨fun n hn => ?_, ?_⟩
    · have hn : n ∈ [0] := hn
      rw [hl]
      simp only [List.mem_cons, List.not_mem_nil, or_false] at hn
      show n < 10; omega
    · show ISY (w_fi ws (n_v vs 0) 101) (w_ei ws (w_ar ws (n_v vs 0) 105))
      exact vc_Mo_layers_10_0 (v_iv (n_v vs 2)) (v_iv (n_v vs 3)) (v_iv (n_v vs 4)) (v_iv (n_v vs 5)) (v_iv (n_v vs 6)) (v_iv (n_v vs 7)) (v_iv (n_v vs 8)) (v_iv (n_v vs 9)) (w_ei ws (w_ar ws (n_v vs 0) 105)) (w_fi ws (n_v vs 0) 101) (w_ei ws (w_ar ws (n_v vs 0) 2)) (w_fi ws (n_v vs 0) 5) (w_ei ws (w_ar ws (n_v vs 0) 110)) (w_ei ws (w_ar ws (n_v vs 0) 111)) (w_ei ws (w_ar ws (n_v vs 0) 112)) (w_ei ws (w_ar ws (n_v vs 0) 95)) (w_ei ws (w_ar ws (n_v vs 0) 82)) (w_ei ws (w_ar ws (n_v vs 0) 102)) (w_ei ws (w_ar ws (n_v vs 0) 104)) (w_ei ws (w_ar ws (n_v vs 0) 108)) (w_ei ws (w_ar ws (n_v vs 0) 109)) (w_fi ws (n_v vs 0) 100) (w_fi ws (n_v vs 0) 107) (w_ei ws (w_ar ws (n_v vs 0) 106)) k2 k3 k4 k5 k6 k7 k8 k9 d0 d1 d2 f0 f1 f2 f3 f4 f5 f6 f7 f8 f9 f10 f11 f12 f13 f14 f16 f17 f18 hK_0_82 hK_0_95 hK_0_102 hK_0_104 hK_0_105 hK_0_106 hK_0_108 hK_0_109 hK_0_110 hK_0_111 hK_0_112 kz_0_100 kz_0_101 kz_0_107
  have nf1 : fc_1 PRD (20, [0], [50, 1, 0, 101, 0, 2, 0, 1, 2, 0, 101]) ws (vs) := by
    refine ⟨fun n hn => ?_, ?_⟩
    · have hn : n ∈ [0] := hn
      rw [hl]
      simp only [List.mem_cons, List.not_mem_nil, or_false] at hn
      show n < 10; omega
    · show 1 ≤ w_fi ws (n_v vs 0) 101
      exact vc_Mo_layers_10_1 (v_iv (n_v vs 2)) (v_iv (n_v vs 3)) (v_iv (n_v vs 4)) (v_iv (n_v vs 5)) (v_iv (n_v vs 6)) (v_iv (n_v vs 7)) (v_iv (n_v vs 8)) (v_iv (n_v vs 9)) (w_ei ws (w_ar ws (n_v vs 0) 105)) (w_fi ws (n_v vs 0) 101) (w_ei ws (w_ar ws (n_v vs 0) 2)) (w_fi ws (n_v vs 0) 5) (w_ei ws (w_ar ws (n_v vs 0) 110)) (w_ei ws (w_ar ws (n_v vs 0) 111)) (w_ei ws (w_ar ws (n_v vs 0) 112)) (w_ei ws (w_ar ws (n_v vs 0) 95)) (w_ei ws (w_ar ws (n_v vs 0) 82)) (w_ei ws (w_ar ws (n_v vs 0) 102)) (w_ei ws (w_ar ws (n_v vs 0) 104)) (w_ei ws (w_ar ws (n_v vs 0) 108)) (w_ei ws (w_ar ws (n_v vs 0) 109)) (w_fi ws (n_v vs 0) 100) (w_fi ws (n_v vs 0) 107) (w_ei ws (w_ar ws (n_v vs 0) 106)) k2 k3 k4 k5 k6 k7 k8 k9 d0 d1 d2 f0 f1 f2 f3 f4 f5 f6 f7 f8 f9 f10 f11 f12 f13 f14 f16 f17 f18 hK_0_82 hK_0_95 hK_0_102 hK_0_104 hK_0_105 hK_0_106 hK_0_108 hK_0_109 hK_0_110 hK_0_111 hK_0_112 kz_0_100 kz_0_101 kz_0_107
  refine ⟨(fun _ h => (by cases h)), [], trivial, ?_, (fun _ h => (by cases h))⟩
  rw [List.append_nil]
  exact List.forall_mem_cons.mpr ⟨⟨show (20 : Nat) < 100 from by decide, nf0⟩, List.forall_mem_cons.mpr ⟨⟨show (20 : Nat) < 100 from by decide, nf1⟩, (fun _ h => (by cases h))⟩⟩
set_option maxHeartbeats 4000000 in
theorem vc_Mo_layers_11_r0 (x2 : Int) (x3 : Int) (x4 : Int) (x5 : Int) (x6 : Int) (x8 : Int) (x9 : Int) (spot_0 : Int → Int) (all_0 : Int → Int) (turned_0 : Int → Int) (r_0 : Int) (permBegin_0 : Int → Int) (permMany_0 : Int → Int) (perm_0 : Int → Int) (itemLayer_0 : Int → Int) (k2 : 0 ≤ x2 ∧ x2 ≤ 24) (k3 : 0 ≤ x3 ∧ x3 ≤ 1056) (k4 : 0 ≤ x4 ∧ x4 ≤ 9936) (k5 : 0 ≤ x5 ∧ x5 ≤ 47) (k6 : 1 ≤ x6 ∧ x6 ≤ 48) (k8 : 0 ≤ x8 ∧ x8 ≤ 23) (k9 : 0 ≤ x9 ∧ x9 ≤ 221100000) (d0 : x6 + (-4294967296) ≤ x5 ∧ x5 ≤ x6 + (-1)) (h0 : x9 = spot_0 (x8)) (f1 : TOO (r_0) (all_0) (turned_0) (x5) (x8)) (f3 : x5 < x6) (f4 : 1 * x6 + ((-1) * all_0 (r_0 + 1) + 0) ≤ 0) (f5 : (-1) * x6 + (1 * all_0 (r_0 + 1) + 0) ≤ 0) (f6 : PTB (permBegin_0) (permMany_0) (perm_0)) (f7 : SGR (r_0) (all_0)) (f8 : 1 ≤ all_0 (r_0)) (f9 : x5 ≤ all_0 ((r_0 + 1))) (f10 : LYP (r_0) (all_0) (turned_0) (spot_0)) (f11 : ILX (r_0) (all_0) (itemLayer_0) (spot_0)) (f12 : x2 = all_0 (r_0)) (f13 : JNT (r_0) (all_0) (turned_0) (spot_0) (x5) (x3)) (f14 : (0 ≤ x3) ∧ (x3 ≤ (22 * x5))) (f15 : (0 ≤ x4) ∧ (x4 ≤ (207 * x5))) (hK_0_82 : ∀ j : Int, 0 ≤ j → j < 76 → 0 ≤ spot_0 j ∧ spot_0 j ≤ 221100000) (hK_0_95 : ∀ j : Int, 0 ≤ j → j < 48 → 0 ≤ turned_0 j ∧ turned_0 j ≤ 1) (hK_0_102 : ∀ j : Int, 0 ≤ j → j < 76 → 0 ≤ itemLayer_0 j ∧ itemLayer_0 j ≤ 75) (hK_0_110 : ∀ j : Int, 0 ≤ j → j < 8 → 0 ≤ permBegin_0 j ∧ permBegin_0 j ≤ 5500) (hK_0_111 : ∀ j : Int, 0 ≤ j → j < 8 → 0 ≤ permMany_0 j ∧ permMany_0 j ≤ 720) (hK_0_112 : ∀ j : Int, 0 ≤ j → j < 6000 → 0 ≤ perm_0 j ∧ perm_0 j ≤ 5) : 0 ≤ x9 ∧ x9 ≤ 23 := by
  have f := ft_in (x := x8) ‹LYP _ _ _ _›.1 (e := x5) (by omega) (by omega) (Or.inr (by assumption))
  have h := ‹LYP _ _ _ _›.2.1 x8 f.1 f.2
  omega
def o_Mo_layers_11 : or_T := (139, 10, [(0, (2, 0, 0, [150])), (2, (0, 0, 24, [])), (3, (0, 0, 1056, [])), (4, (0, 0, 9936, [])), (5, (0, 0, 47, [])), (6, (0, 1, 48, [])), (7, (2, 0, 0, [204])), (8, (0, 0, 23, [])), (9, (0, 0, 221100000, []))], [(10, [9, 7, 8], []), (20, [0, 5, 8], [60, 1, 2, 357, 5, 2, 95]), (9, [7, 0], [82]), (7, [5, 6], [2]), (20, [6, 0], [30, 0, 1, 0, 0, -1, 3, 2005001]), (20, [6, 0], [30, 0, -1, 0, 0, 1, 3, 2005001]), (20, [0], [60, 0, 3, 291, 110, 111, 112]), (20, [0], [60, 1, 1, 122, 5, 2]), (20, [0], [50, 1, 1, 5, 2, 0, 2, 0, 1, 3, 0, 2, 2, 0, 5]), (20, [5, 0], [50, 1, 1, 1005, 1002, 0, 2, 1, 0, 3, 1, 2, 4, 3, 2, 1, 5, 0, 1]), (20, [0], [60, 1, 3, 359, 5, 2, 95, 82]), (20, [0], [60, 1, 3, 416, 5, 2, 102, 82]), (20, [2, 0], [50, 1, 1, 1005, 1002, 1, 2, 1, 0, 3, 1, 2, 2, 1, 5]), (20, [0, 5, 3], [60, 1, 3, 361, 5, 2, 95, 82]), (20, [3, 5], [50, 0, 0, 2, 6, 0, 2, 0, 0, 1, 0, 0, 2, 1, 0, 6, 2, 0, 22, 1, 1]), (20, [4, 5], [50, 0, 0, 2, 6, 0, 2, 0, 0, 1, 0, 0, 2, 1, 0, 6, 2, 0, 207, 1, 1])], [(9, (0, 0, 23, []))], [], [], [], [(5, 6, -4294967296, -1)])
theorem oo_Mo_layers_11 {kA : Nat → ClassId} : or_ok PRD kA GG o_Mo_layers_11 := by
  intro A ta ws vs hD hth hl hk hds hf
  have hl : vs.length = 10 := hl
  have hk : ∀ q ∈ ([(0, (2, 0, 0, [150])), (2, (0, 0, 24, [])), (3, (0, 0, 1056, [])), (4, (0, 0, 9936, [])), (5, (0, 0, 47, [])), (6, (0, 1, 48, [])), (7, (2, 0, 0, [204])), (8, (0, 0, 23, [])), (9, (0, 0, 221100000, []))] : List (Nat × tv_T)), tv_ok ta q.2 (n_v vs q.1) := hk
  obtain ⟨t0, hk⟩ := List.forall_mem_cons.mp hk
  have t0 : tv_ok ta (2, 0, 0, [150]) (n_v vs 0) := t0
  have r0 : ta (v_ad (n_v vs 0)) = some 150 := tv_rg t0
  obtain ⟨t2, hk⟩ := List.forall_mem_cons.mp hk
  have t2 : tv_ok ta (0, 0, 24, []) (n_v vs 2) := t2
  have k2 : 0 ≤ v_iv (n_v vs 2) ∧ v_iv (n_v vs 2) ≤ 24 := tv_rng t2
  obtain ⟨t3, hk⟩ := List.forall_mem_cons.mp hk
  have t3 : tv_ok ta (0, 0, 1056, []) (n_v vs 3) := t3
  have k3 : 0 ≤ v_iv (n_v vs 3) ∧ v_iv (n_v vs 3) ≤ 1056 := tv_rng t3
  obtain ⟨t4, hk⟩ := List.forall_mem_cons.mp hk
  have t4 : tv_ok ta (0, 0, 9936, []) (n_v vs 4) := t4
  have k4 : 0 ≤ v_iv (n_v vs 4) ∧ v_iv (n_v vs 4) ≤ 9936 := tv_rng t4
  obtain ⟨t5, hk⟩ := List.forall_mem_cons.mp hk
  have t5 : tv_ok ta (0, 0, 47, []) (n_v vs 5) := t5
  have k5 : 0 ≤ v_iv (n_v vs 5) ∧ v_iv (n_v vs 5) ≤ 47 := tv_rng t5
  obtain ⟨t6, hk⟩ := List.forall_mem_cons.mp hk
  have t6 : tv_ok ta (0, 1, 48, []) (n_v vs 6) := t6
  have k6 : 1 ≤ v_iv (n_v vs 6) ∧ v_iv (n_v vs 6) ≤ 48 := tv_rng t6
  obtain ⟨t7, hk⟩ := List.forall_mem_cons.mp hk
  have t7 : tv_ok ta (2, 0, 0, [204]) (n_v vs 7) := t7
  have r7 : ta (v_ad (n_v vs 7)) = some 204 := tv_rg t7
  obtain ⟨t8, hk⟩ := List.forall_mem_cons.mp hk
  have t8 : tv_ok ta (0, 0, 23, []) (n_v vs 8) := t8
  have k8 : 0 ≤ v_iv (n_v vs 8) ∧ v_iv (n_v vs 8) ≤ 23 := tv_rng t8
  obtain ⟨t9, hk⟩ := List.forall_mem_cons.mp hk
  have t9 : tv_ok ta (0, 0, 221100000, []) (n_v vs 9) := t9
  have k9 : 0 ≤ v_iv (n_v vs 9) ∧ v_iv (n_v vs 9) ≤ 221100000 := tv_rng t9
  have hds : ∀ q ∈ ([(5, 6, -4294967296, -1)] : List of_T), n_iv vs q.2.1 + q.2.2.1 ≤ n_iv vs q.1 ∧ n_iv vs q.1 ≤ n_iv vs q.2.1 + q.2.2.2 := hds
  obtain ⟨d0, hds⟩ := List.forall_mem_cons.mp hds
  have d0 : v_iv (n_v vs 6) + (-4294967296) ≤ v_iv (n_v vs 5) ∧ v_iv (n_v vs 5) ≤ v_iv (n_v vs 6) + (-1) := d0
  have hf : fc_ok PRD [(10, [9, 7, 8], []), (20, [0, 5, 8], [60, 1, 2, 357, 5, 2, 95]), (9, [7, 0], [82]), (7, [5, 6], [2]), (20, [6, 0], [30, 0, 1, 0, 0, -1, 3, 2005001]), (20, [6, 0], [30, 0, -1, 0, 0, 1, 3, 2005001]), (20, [0], [60, 0, 3, 291, 110, 111, 112]), (20, [0], [60, 1, 1, 122, 5, 2]), (20, [0], [50, 1, 1, 5, 2, 0, 2, 0, 1, 3, 0, 2, 2, 0, 5]), (20, [5, 0], [50, 1, 1, 1005, 1002, 0, 2, 1, 0, 3, 1, 2, 4, 3, 2, 1, 5, 0, 1]), (20, [0], [60, 1, 3, 359, 5, 2, 95, 82]), (20, [0], [60, 1, 3, 416, 5, 2, 102, 82]), (20, [2, 0], [50, 1, 1, 1005, 1002, 1, 2, 1, 0, 3, 1, 2, 2, 1, 5]), (20, [0, 5, 3], [60, 1, 3, 361, 5, 2, 95, 82]), (20, [3, 5], [50, 0, 0, 2, 6, 0, 2, 0, 0, 1, 0, 0, 2, 1, 0, 6, 2, 0, 22, 1, 1]), (20, [4, 5], [50, 0, 0, 2, 6, 0, 2, 0, 0, 1, 0, 0, 2, 1, 0, 6, 2, 0, 207, 1, 1])] ta ws vs := hf
  obtain ⟨f0, hf⟩ := fc_un (show (10 : Nat) < 100 from by decide) hf
  have f0 : v_iv (n_v vs 9) = w_el ws (v_ad (n_v vs 7)) (v_iv (n_v vs 8)).toNat := f0
  obtain ⟨f1, hf⟩ := fc_un (show (20 : Nat) < 100 from by decide) hf
  have f1 : TOO (w_fi ws (n_v vs 0) 5) (w_ei ws (w_ar ws (n_v vs 0) 2)) (w_ei ws (w_ar ws (n_v vs 0) 95)) (v_iv (n_v vs 5)) (v_iv (n_v vs 8)) := f1
  obtain ⟨f2, hf⟩ := fc_un (show (9 : Nat) < 100 from by decide) hf
  have f2 : n_v vs 7 = w_fd ws (v_ad (n_v vs 0)) 82 := f2
  obtain ⟨f3, hf⟩ := fc_un (show (7 : Nat) < 100 from by decide) hf
  have f3 : v_iv (n_v vs 5) < v_iv (n_v vs 6) := f3
  obtain ⟨f4, hf⟩ := fc_un (show (20 : Nat) < 100 from by decide) hf
  have f4 : 1 * v_iv (n_v vs 6) + ((-1) * w_el ws (w_ar ws (n_v vs 0) 2) (w_fi ws (n_v vs 0) 5 + 1).toNat + 0) ≤ 0 := f4
  obtain ⟨f5, hf⟩ := fc_un (show (20 : Nat) < 100 from by decide) hf
  have f5 : (-1) * v_iv (n_v vs 6) + (1 * w_el ws (w_ar ws (n_v vs 0) 2) (w_fi ws (n_v vs 0) 5 + 1).toNat + 0) ≤ 0 := f5
  obtain ⟨f6, hf⟩ := fc_un (show (20 : Nat) < 100 from by decide) hf
  have f6 : PTB (w_ei ws (w_ar ws (n_v vs 0) 110)) (w_ei ws (w_ar ws (n_v vs 0) 111)) (w_ei ws (w_ar ws (n_v vs 0) 112)) := f6
  obtain ⟨f7, hf⟩ := fc_un (show (20 : Nat) < 100 from by decide) hf
  have f7 : SGR (w_fi ws (n_v vs 0) 5) (w_ei ws (w_ar ws (n_v vs 0) 2)) := f7
  obtain ⟨f8, hf⟩ := fc_un (show (20 : Nat) < 100 from by decide) hf
  have f8 : 1 ≤ w_ei ws (w_ar ws (n_v vs 0) 2) (w_fi ws (n_v vs 0) 5) := f8
  obtain ⟨f9, hf⟩ := fc_un (show (20 : Nat) < 100 from by decide) hf
  have f9 : v_iv (n_v vs 5) ≤ w_ei ws (w_ar ws (n_v vs 0) 2) ((w_fi ws (n_v vs 0) 5 + 1)) := f9
  obtain ⟨f10, hf⟩ := fc_un (show (20 : Nat) < 100 from by decide) hf
  have f10 : LYP (w_fi ws (n_v vs 0) 5) (w_ei ws (w_ar ws (n_v vs 0) 2)) (w_ei ws (w_ar ws (n_v vs 0) 95)) (w_ei ws (w_ar ws (n_v vs 0) 82)) := f10
  obtain ⟨f11, hf⟩ := fc_un (show (20 : Nat) < 100 from by decide) hf
  have f11 : ILX (w_fi ws (n_v vs 0) 5) (w_ei ws (w_ar ws (n_v vs 0) 2)) (w_ei ws (w_ar ws (n_v vs 0) 102)) (w_ei ws (w_ar ws (n_v vs 0) 82)) := f11
  obtain ⟨f12, hf⟩ := fc_un (show (20 : Nat) < 100 from by decide) hf
  have f12 : v_iv (n_v vs 2) = w_ei ws (w_ar ws (n_v vs 0) 2) (w_fi ws (n_v vs 0) 5) := f12
  obtain ⟨f13, hf⟩ := fc_un (show (20 : Nat) < 100 from by decide) hf
  have f13 : JNT (w_fi ws (n_v vs 0) 5) (w_ei ws (w_ar ws (n_v vs 0) 2)) (w_ei ws (w_ar ws (n_v vs 0) 95)) (w_ei ws (w_ar ws (n_v vs 0) 82)) (v_iv (n_v vs 5)) (v_iv (n_v vs 3)) := f13
  obtain ⟨f14, hf⟩ := fc_un (show (20 : Nat) < 100 from by decide) hf
  have f14 : (0 ≤ v_iv (n_v vs 3)) ∧ (v_iv (n_v vs 3) ≤ (22 * v_iv (n_v vs 5))) := f14
  obtain ⟨f15, hf⟩ := fc_un (show (20 : Nat) < 100 from by decide) hf
  have f15 : (0 ≤ v_iv (n_v vs 4)) ∧ (v_iv (n_v vs 4) ≤ (207 * v_iv (n_v vs 5))) := f15
  have cr_0_2 : ta (w_ar ws (n_v vs 0) 2) = some 152 := tv_rg (th_fd hD hth r0 (g := GG_150) rfl (k := 2) (t := (2, 0, 0, [152])) rfl rfl)
  have cr_0_82 : ta (w_ar ws (n_v vs 0) 82) = some 204 := tv_rg (th_fd hD hth r0 (g := GG_150) rfl (k := 82) (t := (2, 0, 0, [204])) rfl rfl)
  have cr_0_95 : ta (w_ar ws (n_v vs 0) 95) = some 216 := tv_rg (th_fd hD hth r0 (g := GG_150) rfl (k := 95) (t := (2, 0, 0, [216])) rfl rfl)
  have cr_0_102 : ta (w_ar ws (n_v vs 0) 102) = some 220 := tv_rg (th_fd hD hth r0 (g := GG_150) rfl (k := 102) (t := (2, 0, 0, [220])) rfl rfl)
  have cr_0_110 : ta (w_ar ws (n_v vs 0) 110) = some 227 := tv_rg (th_fd hD hth r0 (g := GG_150) rfl (k := 110) (t := (2, 0, 0, [227])) rfl rfl)
  have cr_0_111 : ta (w_ar ws (n_v vs 0) 111) = some 228 := tv_rg (th_fd hD hth r0 (g := GG_150) rfl (k := 111) (t := (2, 0, 0, [228])) rfl rfl)
  have cr_0_112 : ta (w_ar ws (n_v vs 0) 112) = some 229 := tv_rg (th_fd hD hth r0 (g := GG_150) rfl (k := 112) (t := (2, 0, 0, [229])) rfl rfl)
  have ad_7 : v_ad (n_v vs 7) = w_ar ws (n_v vs 0) 82 := congrArg v_ad f2
  rw [ad_7] at f0
  have h0 : v_iv (n_v vs 9) = w_ei ws (w_ar ws (n_v vs 0) 82) (v_iv (n_v vs 8)) := f0
  have hK_0_82 : ∀ j : Int, 0 ≤ j → j < 76 → 0 ≤ w_ei ws (w_ar ws (n_v vs 0) 82) j ∧ w_ei ws (w_ar ws (n_v vs 0) 82) j ≤ 221100000 := fun j h0 h1 => th_el hD hth cr_0_82 (kd := 0) (n := 76) (m := 76) (lo := 0) (hi := 221100000) (rs := []) (L := []) rfl (by decide) (j := j.toNat) (by omega)
  have hK_0_95 : ∀ j : Int, 0 ≤ j → j < 48 → 0 ≤ w_ei ws (w_ar ws (n_v vs 0) 95) j ∧ w_ei ws (w_ar ws (n_v vs 0) 95) j ≤ 1 := fun j h0 h1 => th_el hD hth cr_0_95 (kd := 2) (n := 48) (m := 48) (lo := 0) (hi := 1) (rs := []) (L := []) rfl (by decide) (j := j.toNat) (by omega)
  have hK_0_102 : ∀ j : Int, 0 ≤ j → j < 76 → 0 ≤ w_ei ws (w_ar ws (n_v vs 0) 102) j ∧ w_ei ws (w_ar ws (n_v vs 0) 102) j ≤ 75 := fun j h0 h1 => th_el hD hth cr_0_102 (kd := 0) (n := 76) (m := 76) (lo := 0) (hi := 75) (rs := []) (L := []) rfl (by decide) (j := j.toNat) (by omega)
  have hK_0_110 : ∀ j : Int, 0 ≤ j → j < 8 → 0 ≤ w_ei ws (w_ar ws (n_v vs 0) 110) j ∧ w_ei ws (w_ar ws (n_v vs 0) 110) j ≤ 5500 := fun j h0 h1 => th_el hD hth cr_0_110 (kd := 0) (n := 8) (m := 8) (lo := 0) (hi := 5500) (rs := []) (L := []) rfl (by decide) (j := j.toNat) (by omega)
  have hK_0_111 : ∀ j : Int, 0 ≤ j → j < 8 → 0 ≤ w_ei ws (w_ar ws (n_v vs 0) 111) j ∧ w_ei ws (w_ar ws (n_v vs 0) 111) j ≤ 720 := fun j h0 h1 => th_el hD hth cr_0_111 (kd := 0) (n := 8) (m := 8) (lo := 0) (hi := 720) (rs := []) (L := []) rfl (by decide) (j := j.toNat) (by omega)
  have hK_0_112 : ∀ j : Int, 0 ≤ j → j < 6000 → 0 ≤ w_ei ws (w_ar ws (n_v vs 0) 112) j ∧ w_ei ws (w_ar ws (n_v vs 0) 112) j ≤ 5 := fun j h0 h1 => th_el hD hth cr_0_112 (kd := 1) (n := 6000) (m := 6000) (lo := 0) (hi := 5) (rs := []) (L := []) rfl (by decide) (j := j.toNat) (by omega)
  have hrf0 : 0 ≤ v_iv (n_v vs 9) ∧ v_iv (n_v vs 9) ≤ 23 := vc_Mo_layers_11_r0 (v_iv (n_v vs 2)) (v_iv (n_v vs 3)) (v_iv (n_v vs 4)) (v_iv (n_v vs 5)) (v_iv (n_v vs 6)) (v_iv (n_v vs 8)) (v_iv (n_v vs 9)) (w_ei ws (w_ar ws (n_v vs 0) 82)) (w_ei ws (w_ar ws (n_v vs 0) 2)) (w_ei ws (w_ar ws (n_v vs 0) 95)) (w_fi ws (n_v vs 0) 5) (w_ei ws (w_ar ws (n_v vs 0) 110)) (w_ei ws (w_ar ws (n_v vs 0) 111)) (w_ei ws (w_ar ws (n_v vs 0) 112)) (w_ei ws (w_ar ws (n_v vs 0) 102)) k2 k3 k4 k5 k6 k8 k9 d0 h0 f1 f3 f4 f5 f6 f7 f8 f9 f10 f11 f12 f13 f14 f15 hK_0_82 hK_0_95 hK_0_102 hK_0_110 hK_0_111 hK_0_112
  have rf9 : tv_ok ta (0, 0, 23, []) (n_v vs 9) := tv_in t9 (by first | omega | grind) (by first | omega | grind)
  refine ⟨List.forall_mem_cons.mpr ⟨rf9, (fun _ h => (by cases h))⟩, [], trivial, ?_, (fun _ h => (by cases h))⟩
  rw [List.append_nil]
  exact (fun _ h => (by cases h))
set_option maxHeartbeats 4000000 in
theorem vc_Mo_layers_12_r0 (x2 : Int) (x3 : Int) (x4 : Int) (x5 : Int) (x6 : Int) (x8 : Int) (x9 : Int) (x10 : Int) (x11 : Int) (spot_0 : Int → Int) (all_0 : Int → Int) (turned_0 : Int → Int) (r_0 : Int) (permBegin_0 : Int → Int) (permMany_0 : Int → Int) (perm_0 : Int → Int) (itemLayer_0 : Int → Int) (k2 : 0 ≤ x2 ∧ x2 ≤ 24) (k3 : 0 ≤ x3 ∧ x3 ≤ 1056) (k4 : 0 ≤ x4 ∧ x4 ≤ 9936) (k5 : 0 ≤ x5 ∧ x5 ≤ 47) (k6 : 1 ≤ x6 ∧ x6 ≤ 48) (k8 : 0 ≤ x8 ∧ x8 ≤ 23) (k9 : 0 ≤ x9 ∧ x9 ≤ 23) (k10 : 0 ≤ x10 ∧ x10 ≤ 23) (k11 : 0 ≤ x11 ∧ x11 ≤ 221100000) (d0 : x6 + (-4294967296) ≤ x5 ∧ x5 ≤ x6 + (-1)) (h0 : x11 = spot_0 (x10)) (f1 : FRO (r_0) (all_0) (turned_0) (x5) (x10)) (h3 : x9 = spot_0 (x8)) (f4 : TOO (r_0) (all_0) (turned_0) (x5) (x8)) (f5 : x5 < x6) (f6 : 1 * x6 + ((-1) * all_0 (r_0 + 1) + 0) ≤ 0) (f7 : (-1) * x6 + (1 * all_0 (r_0 + 1) + 0) ≤ 0) (f8 : PTB (permBegin_0) (permMany_0) (perm_0)) (f9 : SGR (r_0) (all_0)) (f10 : 1 ≤ all_0 (r_0)) (f11 : x5 ≤ all_0 ((r_0 + 1))) (f12 : LYP (r_0) (all_0) (turned_0) (spot_0)) (f13 : ILX (r_0) (all_0) (itemLayer_0) (spot_0)) (f14 : x2 = all_0 (r_0)) (f15 : JNT (r_0) (all_0) (turned_0) (spot_0) (x5) (x3)) (f16 : (0 ≤ x3) ∧ (x3 ≤ (22 * x5))) (f17 : (0 ≤ x4) ∧ (x4 ≤ (207 * x5))) (hK_0_82 : ∀ j : Int, 0 ≤ j → j < 76 → 0 ≤ spot_0 j ∧ spot_0 j ≤ 221100000) (hK_0_95 : ∀ j : Int, 0 ≤ j → j < 48 → 0 ≤ turned_0 j ∧ turned_0 j ≤ 1) (hK_0_102 : ∀ j : Int, 0 ≤ j → j < 76 → 0 ≤ itemLayer_0 j ∧ itemLayer_0 j ≤ 75) (hK_0_110 : ∀ j : Int, 0 ≤ j → j < 8 → 0 ≤ permBegin_0 j ∧ permBegin_0 j ≤ 5500) (hK_0_111 : ∀ j : Int, 0 ≤ j → j < 8 → 0 ≤ permMany_0 j ∧ permMany_0 j ≤ 720) (hK_0_112 : ∀ j : Int, 0 ≤ j → j < 6000 → 0 ≤ perm_0 j ∧ perm_0 j ≤ 5) : 0 ≤ x11 ∧ x11 ≤ 23 := by
  have f := ft_in (x := x10) ‹LYP _ _ _ _›.1 (e := x5) (by omega) (by omega) (Or.inl (by assumption))
  have h := ‹LYP _ _ _ _›.2.1 x10 f.1 f.2
  omega
def o_Mo_layers_12 : or_T := (150, 12, [(0, (2, 0, 0, [150])), (2, (0, 0, 24, [])), (3, (0, 0, 1056, [])), (4, (0, 0, 9936, [])), (5, (0, 0, 47, [])), (6, (0, 1, 48, [])), (7, (2, 0, 0, [204])), (8, (0, 0, 23, [])), (9, (0, 0, 23, [])), (10, (0, 0, 23, [])), (11, (0, 0, 221100000, []))], [(10, [11, 7, 10], []), (20, [0, 5, 10], [60, 1, 2, 356, 5, 2, 95]), (9, [7, 0], [82]), (10, [9, 7, 8], []), (20, [0, 5, 8], [60, 1, 2, 357, 5, 2, 95]), (7, [5, 6], [2]), (20, [6, 0], [30, 0, 1, 0, 0, -1, 3, 2005001]), (20, [6, 0], [30, 0, -1, 0, 0, 1, 3, 2005001]), (20, [0], [60, 0, 3, 291, 110, 111, 112]), (20, [0], [60, 1, 1, 122, 5, 2]), (20, [0], [50, 1, 1, 5, 2, 0, 2, 0, 1, 3, 0, 2, 2, 0, 5]), (20, [5, 0], [50, 1, 1, 1005, 1002, 0, 2, 1, 0, 3, 1, 2, 4, 3, 2, 1, 5, 0, 1]), (20, [0], [60, 1, 3, 359, 5, 2, 95, 82]), (20, [0], [60, 1, 3, 416, 5, 2, 102, 82]), (20, [2, 0], [50, 1, 1, 1005, 1002, 1, 2, 1, 0, 3, 1, 2, 2, 1, 5]), (20, [0, 5, 3], [60, 1, 3, 361, 5, 2, 95, 82]), (20, [3, 5], [50, 0, 0, 2, 6, 0, 2, 0, 0, 1, 0, 0, 2, 1, 0, 6, 2, 0, 22, 1, 1]), (20, [4, 5], [50, 0, 0, 2, 6, 0, 2, 0, 0, 1, 0, 0, 2, 1, 0, 6, 2, 0, 207, 1, 1])], [(11, (0, 0, 23, []))], [], [], [], [(5, 6, -4294967296, -1)])
theorem oo_Mo_layers_12 {kA : Nat → ClassId} : or_ok PRD kA GG o_Mo_layers_12 := by
  intro A ta ws vs hD hth hl hk hds hf
  have hl : vs.length = 12 := hl
  have hk : ∀ q ∈ ([(0, (2, 0, 0, [150])), (2, (0, 0, 24, [])), (3, (0, 0, 1056, [])), (4, (0, 0, 9936, [])), (5, (0, 0, 47, [])), (6, (0, 1, 48, [])), (7, (2, 0, 0, [204])), (8, (0, 0, 23, [])), (9, (0, 0, 23, [])), (10, (0, 0, 23, [])), (11, (0, 0, 221100000, []))] : List (Nat × tv_T)), tv_ok ta q.2 (n_v vs q.1) := hk
  obtain ⟨t0, hk⟩ := List.forall_mem_cons.mp hk
  have t0 : tv_ok ta (2, 0, 0, [150]) (n_v vs 0) := t0
  have r0 : ta (v_ad (n_v vs 0)) = some 150 := tv_rg t0
  obtain ⟨t2, hk⟩ := List.forall_mem_cons.mp hk
  have t2 : tv_ok ta (0, 0, 24, []) (n_v vs 2) := t2
  have k2 : 0 ≤ v_iv (n_v vs 2) ∧ v_iv (n_v vs 2) ≤ 24 := tv_rng t2
  obtain ⟨t3, hk⟩ := List.forall_mem_cons.mp hk
  have t3 : tv_ok ta (0, 0, 1056, []) (n_v vs 3) := t3
  have k3 : 0 ≤ v_iv (n_v vs 3) ∧ v_iv (n_v vs 3) ≤ 1056 := tv_rng t3
  obtain ⟨t4, hk⟩ := List.forall_mem_cons.mp hk
  have t4 : tv_ok ta (0, 0, 9936, []) (n_v vs 4) := t4
  have k4 : 0 ≤ v_iv (n_v vs 4) ∧ v_iv (n_v vs 4) ≤ 9936 := tv_rng t4
  obtain ⟨t5, hk⟩ := List.forall_mem_cons.mp hk
  have t5 : tv_ok ta (0, 0, 47, []) (n_v vs 5) := t5
  have k5 : 0 ≤ v_iv (n_v vs 5) ∧ v_iv (n_v vs 5) ≤ 47 := tv_rng t5
  obtain ⟨t6, hk⟩ := List.forall_mem_cons.mp hk
  have t6 : tv_ok ta (0, 1, 48, []) (n_v vs 6) := t6
  have k6 : 1 ≤ v_iv (n_v vs 6) ∧ v_iv (n_v vs 6) ≤ 48 := tv_rng t6
  obtain ⟨t7, hk⟩ := List.forall_mem_cons.mp hk
  have t7 : tv_ok ta (2, 0, 0, [204]) (n_v vs 7) := t7
  have r7 : ta (v_ad (n_v vs 7)) = some 204 := tv_rg t7
  obtain ⟨t8, hk⟩ := List.forall_mem_cons.mp hk
  have t8 : tv_ok ta (0, 0, 23, []) (n_v vs 8) := t8
  have k8 : 0 ≤ v_iv (n_v vs 8) ∧ v_iv (n_v vs 8) ≤ 23 := tv_rng t8
  obtain ⟨t9, hk⟩ := List.forall_mem_cons.mp hk
  have t9 : tv_ok ta (0, 0, 23, []) (n_v vs 9) := t9
  have k9 : 0 ≤ v_iv (n_v vs 9) ∧ v_iv (n_v vs 9) ≤ 23 := tv_rng t9
  obtain ⟨t10, hk⟩ := List.forall_mem_cons.mp hk
  have t10 : tv_ok ta (0, 0, 23, []) (n_v vs 10) := t10
  have k10 : 0 ≤ v_iv (n_v vs 10) ∧ v_iv (n_v vs 10) ≤ 23 := tv_rng t10
  obtain ⟨t11, hk⟩ := List.forall_mem_cons.mp hk
  have t11 : tv_ok ta (0, 0, 221100000, []) (n_v vs 11) := t11
  have k11 : 0 ≤ v_iv (n_v vs 11) ∧ v_iv (n_v vs 11) ≤ 221100000 := tv_rng t11
  have hds : ∀ q ∈ ([(5, 6, -4294967296, -1)] : List of_T), n_iv vs q.2.1 + q.2.2.1 ≤ n_iv vs q.1 ∧ n_iv vs q.1 ≤ n_iv vs q.2.1 + q.2.2.2 := hds
  obtain ⟨d0, hds⟩ := List.forall_mem_cons.mp hds
  have d0 : v_iv (n_v vs 6) + (-4294967296) ≤ v_iv (n_v vs 5) ∧ v_iv (n_v vs 5) ≤ v_iv (n_v vs 6) + (-1) := d0
  have hf : fc_ok PRD [(10, [11, 7, 10], []), (20, [0, 5, 10], [60, 1, 2, 356, 5, 2, 95]), (9, [7, 0], [82]), (10, [9, 7, 8], []), (20, [0, 5, 8], [60, 1, 2, 357, 5, 2, 95]), (7, [5, 6], [2]), (20, [6, 0], [30, 0, 1, 0, 0, -1, 3, 2005001]), (20, [6, 0], [30, 0, -1, 0, 0, 1, 3, 2005001]), (20, [0], [60, 0, 3, 291, 110, 111, 112]), (20, [0], [60, 1, 1, 122, 5, 2]), (20, [0], [50, 1, 1, 5, 2, 0, 2, 0, 1, 3, 0, 2, 2, 0, 5]), (20, [5, 0], [50, 1, 1, 1005, 1002, 0, 2, 1, 0, 3, 1, 2, 4, 3, 2, 1, 5, 0, 1]), (20, [0], [60, 1, 3, 359, 5, 2, 95, 82]), (20, [0], [60, 1, 3, 416, 5, 2, 102, 82]), (20, [2, 0], [50, 1, 1, 1005, 1002, 1, 2, 1, 0, 3, 1, 2, 2, 1, 5]), (20, [0, 5, 3], [60, 1, 3, 361, 5, 2, 95, 82]), (20, [3, 5], [50, 0, 0, 2, 6, 0, 2, 0, 0, 1, 0, 0, 2, 1, 0, 6, 2, 0, 22, 1, 1]), (20, [4, 5], [50, 0, 0, 2, 6, 0, 2, 0, 0, 1, 0, 0, 2, 1, 0, 6, 2, 0, 207, 1, 1])] ta ws vs := hf
  obtain ⟨f0, hf⟩ := fc_un (show (10 : Nat) < 100 from by decide) hf
  have f0 : v_iv (n_v vs 11) = w_el ws (v_ad (n_v vs 7)) (v_iv (n_v vs 10)).toNat := f0
  obtain ⟨f1, hf⟩ := fc_un (show (20 : Nat) < 100 from by decide) hf
  have f1 : FRO (w_fi ws (n_v vs 0) 5) (w_ei ws (w_ar ws (n_v vs 0) 2)) (w_ei ws (w_ar ws (n_v vs 0) 95)) (v_iv (n_v vs 5)) (v_iv (n_v vs 10)) := f1
  obtain ⟨f2, hf⟩ := fc_un (show (9 : Nat) < 100 from by decide) hf
  have f2 : n_v vs 7 = w_fd ws (v_ad (n_v vs 0)) 82 := f2
  obtain ⟨f3, hf⟩ := fc_un (show (10 : Nat) < 100 from by decide) hf
  have f3 : v_iv (n_v vs 9) = w_el ws (v_ad (n_v vs 7)) (v_iv (n_v vs 8)).toNat := f3
  obtain ⟨f4, hf⟩ := fc_un (show (20 : Nat) < 100 from by decide) hf
  have f4 : TOO (w_fi ws (n_v vs 0) 5) (w_ei ws (w_ar ws (n_v vs 0) 2)) (w_ei ws (w_ar ws (n_v vs 0) 95)) (v_iv (n_v vs 5)) (v_iv (n_v vs 8)) := f4
  obtain ⟨f5, hf⟩ := fc_un (show (7 : Nat) < 100 from by decide) hf
  have f5 : v_iv (n_v vs 5) < v_iv (n_v vs 6) := f5
  obtain ⟨f6, hf⟩ := fc_un (show (20 : Nat) < 100 from by decide) hf
  have f6 : 1 * v_iv (n_v vs 6) + ((-1) * w_el ws (w_ar ws (n_v vs 0) 2) (w_fi ws (n_v vs 0) 5 + 1).toNat + 0) ≤ 0 := f6
  obtain ⟨f7, hf⟩ := fc_un (show (20 : Nat) < 100 from by decide) hf
  have f7 : (-1) * v_iv (n_v vs 6) + (1 * w_el ws (w_ar ws (n_v vs 0) 2) (w_fi ws (n_v vs 0) 5 + 1).toNat + 0) ≤ 0 := f7
  obtain ⟨f8, hf⟩ := fc_un (show (20 : Nat) < 100 from by decide) hf
  have f8 : PTB (w_ei ws (w_ar ws (n_v vs 0) 110)) (w_ei ws (w_ar ws (n_v vs 0) 111)) (w_ei ws (w_ar ws (n_v vs 0) 112)) := f8
  obtain ⟨f9, hf⟩ := fc_un (show (20 : Nat) < 100 from by decide) hf
  have f9 : SGR (w_fi ws (n_v vs 0) 5) (w_ei ws (w_ar ws (n_v vs 0) 2)) := f9
  obtain ⟨f10, hf⟩ := fc_un (show (20 : Nat) < 100 from by decide) hf
  have f10 : 1 ≤ w_ei ws (w_ar ws (n_v vs 0) 2) (w_fi ws (n_v vs 0) 5) := f10
  obtain ⟨f11, hf⟩ := fc_un (show (20 : Nat) < 100 from by decide) hf
  have f11 : v_iv (n_v vs 5) ≤ w_ei ws (w_ar ws (n_v vs 0) 2) ((w_fi ws (n_v vs 0) 5 + 1)) := f11
  obtain ⟨f12, hf⟩ := fc_un (show (20 : Nat) < 100 from by decide) hf
  have f12 : LYP (w_fi ws (n_v vs 0) 5) (w_ei ws (w_ar ws (n_v vs 0) 2)) (w_ei ws (w_ar ws (n_v vs 0) 95)) (w_ei ws (w_ar ws (n_v vs 0) 82)) := f12
  obtain ⟨f13, hf⟩ := fc_un (show (20 : Nat) < 100 from by decide) hf
  have f13 : ILX (w_fi ws (n_v vs 0) 5) (w_ei ws (w_ar ws (n_v vs 0) 2)) (w_ei ws (w_ar ws (n_v vs 0) 102)) (w_ei ws (w_ar ws (n_v vs 0) 82)) := f13
  obtain ⟨f14, hf⟩ := fc_un (show (20 : Nat) < 100 from by decide) hf
  have f14 : v_iv (n_v vs 2) = w_ei ws (w_ar ws (n_v vs 0) 2) (w_fi ws (n_v vs 0) 5) := f14
  obtain ⟨f15, hf⟩ := fc_un (show (20 : Nat) < 100 from by decide) hf
  have f15 : JNT (w_fi ws (n_v vs 0) 5) (w_ei ws (w_ar ws (n_v vs 0) 2)) (w_ei ws (w_ar ws (n_v vs 0) 95)) (w_ei ws (w_ar ws (n_v vs 0) 82)) (v_iv (n_v vs 5)) (v_iv (n_v vs 3)) := f15
  obtain ⟨f16, hf⟩ := fc_un (show (20 : Nat) < 100 from by decide) hf
  have f16 : (0 ≤ v_iv (n_v vs 3)) ∧ (v_iv (n_v vs 3) ≤ (22 * v_iv (n_v vs 5))) := f16
  obtain ⟨f17, hf⟩ := fc_un (show (20 : Nat) < 100 from by decide) hf
  have f17 : (0 ≤ v_iv (n_v vs 4)) ∧ (v_iv (n_v vs 4) ≤ (207 * v_iv (n_v vs 5))) := f17
  have cr_0_2 : ta (w_ar ws (n_v vs 0) 2) = some 152 := tv_rg (th_fd hD hth r0 (g := GG_150) rfl (k := 2) (t := (2, 0, 0, [152])) rfl rfl)
  have cr_0_82 : ta (w_ar ws (n_v vs 0) 82) = some 204 := tv_rg (th_fd hD hth r0 (g := GG_150) rfl (k := 82) (t := (2, 0, 0, [204])) rfl rfl)
  have cr_0_95 : ta (w_ar ws (n_v vs 0) 95) = some 216 := tv_rg (th_fd hD hth r0 (g := GG_150) rfl (k := 95) (t := (2, 0, 0, [216])) rfl rfl)
  have cr_0_102 : ta (w_ar ws (n_v vs 0) 102) = some 220 := tv_rg (th_fd hD hth r0 (g := GG_150) rfl (k := 102) (t := (2, 0, 0, [220])) rfl rfl)
  have cr_0_110 : ta (w_ar ws (n_v vs 0) 110) = some 227 := tv_rg (th_fd hD hth r0 (g := GG_150) rfl (k := 110) (t := (2, 0, 0, [227])) rfl rfl)
  have cr_0_111 : ta (w_ar ws (n_v vs 0) 111) = some 228 := tv_rg (th_fd hD hth r0 (g := GG_150) rfl (k := 111) (t := (2, 0, 0, [228])) rfl rfl)
  have cr_0_112 : ta (w_ar ws (n_v vs 0) 112) = some 229 := tv_rg (th_fd hD hth r0 (g := GG_150) rfl (k := 112) (t := (2, 0, 0, [229])) rfl rfl)
  have ad_7 : v_ad (n_v vs 7) = w_ar ws (n_v vs 0) 82 := congrArg v_ad f2
  rw [ad_7] at f0
  have h0 : v_iv (n_v vs 11) = w_ei ws (w_ar ws (n_v vs 0) 82) (v_iv (n_v vs 10)) := f0
  rw [ad_7] at f3
  have h3 : v_iv (n_v vs 9) = w_ei ws (w_ar ws (n_v vs 0) 82) (v_iv (n_v vs 8)) := f3
  have hK_0_82 : ∀ j : Int, 0 ≤ j → j < 76 → 0 ≤ w_ei ws (w_ar ws (n_v vs 0) 82) j ∧ w_ei ws (w_ar ws (n_v vs 0) 82) j ≤ 221100000 := fun j h0 h1 => th_el hD hth cr_0_82 (kd := 0) (n := 76) (m := 76) (lo := 0) (hi := 221100000) (rs := []) (L := []) rfl (by decide) (j := j.toNat) (by omega)
  have hK_0_95 : ∀ j : Int, 0 ≤ j → j < 48 → 0 ≤ w_ei ws (w_ar ws (n_v vs 0) 95) j ∧ w_ei ws (w_ar ws (n_v vs 0) 95) j ≤ 1 := fun j h0 h1 => th_el hD hth cr_0_95 (kd := 2) (n := 48) (m := 48) (lo := 0) (hi := 1) (rs := []) (L := []) rfl (by decide) (j := j.toNat) (by omega)
  have hK_0_102 : ∀ j : Int, 0 ≤ j → j < 76 → 0 ≤ w_ei ws (w_ar ws (n_v vs 0) 102) j ∧ w_ei ws (w_ar ws (n_v vs 0) 102) j ≤ 75 := fun j h0 h1 => th_el hD hth cr_0_102 (kd := 0) (n := 76) (m := 76) (lo := 0) (hi := 75) (rs := []) (L := []) rfl (by decide) (j := j.toNat) (by omega)
  have hK_0_110 : ∀ j : Int, 0 ≤ j → j < 8 → 0 ≤ w_ei ws (w_ar ws (n_v vs 0) 110) j ∧ w_ei ws (w_ar ws (n_v vs 0) 110) j ≤ 5500 := fun j h0 h1 => th_el hD hth cr_0_110 (kd := 0) (n := 8) (m := 8) (lo := 0) (hi := 5500) (rs := []) (L := []) rfl (by decide) (j := j.toNat) (by omega)
  have hK_0_111 : ∀ j : Int, 0 ≤ j → j < 8 → 0 ≤ w_ei ws (w_ar ws (n_v vs 0) 111) j ∧ w_ei ws (w_ar ws (n_v vs 0) 111) j ≤ 720 := fun j h0 h1 => th_el hD hth cr_0_111 (kd := 0) (n := 8) (m := 8) (lo := 0) (hi := 720) (rs := []) (L := []) rfl (by decide) (j := j.toNat) (by omega)
  have hK_0_112 : ∀ j : Int, 0 ≤ j → j < 6000 → 0 ≤ w_ei ws (w_ar ws (n_v vs 0) 112) j ∧ w_ei ws (w_ar ws (n_v vs 0) 112) j ≤ 5 := fun j h0 h1 => th_el hD hth cr_0_112 (kd := 1) (n := 6000) (m := 6000) (lo := 0) (hi := 5) (rs := []) (L := []) rfl (by decide) (j := j.toNat) (by omega)
  have hrf0 : 0 ≤ v_iv (n_v vs 11) ∧ v_iv (n_v vs 11) ≤ 23 := vc_Mo_layers_12_r0 (v_iv (n_v vs 2)) (v_iv (n_v vs 3)) (v_iv (n_v vs 4)) (v_iv (n_v vs 5)) (v_iv (n_v vs 6)) (v_iv (n_v vs 8)) (v_iv (n_v vs 9)) (v_iv (n_v vs 10)) (v_iv (n_v vs 11)) (w_ei ws (w_ar ws (n_v vs 0) 82)) (w_ei ws (w_ar ws (n_v vs 0) 2)) (w_ei ws (w_ar ws (n_v vs 0) 95)) (w_fi ws (n_v vs 0) 5) (w_ei ws (w_ar ws (n_v vs 0) 110)) (w_ei ws (w_ar ws (n_v vs 0) 111)) (w_ei ws (w_ar ws (n_v vs 0) 112)) (w_ei ws (w_ar ws (n_v vs 0) 102)) k2 k3 k4 k5 k6 k8 k9 k10 k11 d0 h0 f1 h3 f4 f5 f6 f7 f8 f9 f10 f11 f12 f13 f14 f15 f16 f17 hK_0_82 hK_0_95 hK_0_102 hK_0_110 hK_0_111 hK_0_112
  have rf11 : tv_ok ta (0, 0, 23, []) (n_v vs 11) := tv_in t11 (by first | omega | grind) (by first | omega | grind)
  refine ⟨List.forall_mem_cons.mpr ⟨rf11, (fun _ h => (by cases h))⟩, [], trivial, ?_, (fun _ h => (by cases h))⟩
  rw [List.append_nil]
  exact (fun _ h => (by cases h))
set_option maxHeartbeats 4000000 in
theorem vc_Mo_layers_13_r0 (x2 : Int) (x3 : Int) (x4 : Int) (x5 : Int) (x6 : Int) (x8 : Int) (x9 : Int) (x10 : Int) (x11 : Int) (x12 : Int) (x13 : Int) (x14 : Int) (x15 : Int) (spot_0 : Int → Int) (all_0 : Int → Int) (turned_0 : Int → Int) (r_0 : Int) (permBegin_0 : Int → Int) (permMany_0 : Int → Int) (perm_0 : Int → Int) (itemLayer_0 : Int → Int) (k2 : 0 ≤ x2 ∧ x2 ≤ 24) (k3 : 0 ≤ x3 ∧ x3 ≤ 1056) (k4 : 0 ≤ x4 ∧ x4 ≤ 9936) (k5 : 0 ≤ x5 ∧ x5 ≤ 47) (k6 : 1 ≤ x6 ∧ x6 ≤ 48) (k8 : 0 ≤ x8 ∧ x8 ≤ 23) (k9 : 0 ≤ x9 ∧ x9 ≤ 23) (k10 : 0 ≤ x10 ∧ x10 ≤ 23) (k11 : 0 ≤ x11 ∧ x11 ≤ 23) (k12 : (-23) ≤ x12 ∧ x12 ≤ 23) (k13 : 1 ≤ x13 ∧ x13 ≤ 1) (k14 : (-24) ≤ x14 ∧ x14 ≤ 22) (k15 : (-24) ≤ x15 ∧ x15 ≤ 1078) (d0 : x14 + 0 ≤ x15 ∧ x15 ≤ x14 + 1056) (d1 : x12 + (-1) ≤ x15 ∧ x15 ≤ x12 + 1055) (d2 : x9 + (-24) ≤ x15 ∧ x15 ≤ x9 + 1055) (d3 : x3 + (-24) ≤ x15 ∧ x15 ≤ x3 + 22) (d4 : x12 + (-1) ≤ x14 ∧ x14 ≤ x12 + (-1)) (d5 : x9 + (-24) ≤ x14 ∧ x14 ≤ x9 + (-1)) (d6 : x9 + (-23) ≤ x12 ∧ x12 ≤ x9 + 0) (d7 : x6 + (-4294967296) ≤ x5 ∧ x5 ≤ x6 + (-1)) (f0 : x15 = x3 + x14) (f1 : x14 = x12 - x13) (f2 : x12 = x9 - x11) (h3 : x11 = spot_0 (x10)) (f4 : FRO (r_0) (all_0) (turned_0) (x5) (x10)) (h6 : x9 = spot_0 (x8)) (f7 : TOO (r_0) (all_0) (turned_0) (x5) (x8)) (f8 : x5 < x6) (f9 : 1 * x6 + ((-1) * all_0 (r_0 + 1) + 0) ≤ 0) (f10 : (-1) * x6 + (1 * all_0 (r_0 + 1) + 0) ≤ 0) (f11 : PTB (permBegin_0) (permMany_0) (perm_0)) (f12 : SGR (r_0) (all_0)) (f13 : 1 ≤ all_0 (r_0)) (f14 : x5 ≤ all_0 ((r_0 + 1))) (f15 : LYP (r_0) (all_0) (turned_0) (spot_0)) (f16 : ILX (r_0) (all_0) (itemLayer_0) (spot_0)) (f17 : x2 = all_0 (r_0)) (f18 : JNT (r_0) (all_0) (turned_0) (spot_0) (x5) (x3)) (f19 : (0 ≤ x3) ∧ (x3 ≤ (22 * x5))) (f20 : (0 ≤ x4) ∧ (x4 ≤ (207 * x5))) (hK_0_82 : ∀ j : Int, 0 ≤ j → j < 76 → 0 ≤ spot_0 j ∧ spot_0 j ≤ 221100000) (hK_0_95 : ∀ j : Int, 0 ≤ j → j < 48 → 0 ≤ turned_0 j ∧ turned_0 j ≤ 1) (hK_0_102 : ∀ j : Int, 0 ≤ j → j < 76 → 0 ≤ itemLayer_0 j ∧ itemLayer_0 j ≤ 75) (hK_0_110 : ∀ j : Int, 0 ≤ j → j < 8 → 0 ≤ permBegin_0 j ∧ permBegin_0 j ≤ 5500) (hK_0_111 : ∀ j : Int, 0 ≤ j → j < 8 → 0 ≤ permMany_0 j ∧ permMany_0 j ≤ 720) (hK_0_112 : ∀ j : Int, 0 ≤ j → j < 6000 → 0 ≤ perm_0 j ∧ perm_0 j ≤ 5) : 0 ≤ x15 ∧ x15 ≤ 1056 := by
  first
    | omega
    | (have h := lyp_d (e := x5) (a := x10) (b := x8) (ya := x11) (yb := x9) ‹LYP _ _ _ _› (by omega) (by omega) (by assumption) (by assumption) (by assumption) (by assumption); omega)
def o_Mo_layers_13 : or_T := (159, 16, [(0, (2, 0, 0, [150])), (2, (0, 0, 24, [])), (3, (0, 0, 1056, [])), (4, (0, 0, 9936, [])), (5, (0, 0, 47, [])), (6, (0, 1, 48, [])), (7, (2, 0, 0, [204])), (8, (0, 0, 23, [])), (9, (0, 0, 23, [])), (10, (0, 0, 23, [])), (11, (0, 0, 23, [])), (12, (0, -23, 23, [])), (13, (0, 1, 1, [])), (14, (0, -24, 22, [])), (15, (0, -24, 1078, []))], [(1, [15, 3, 14], []), (2, [14, 12, 13], []), (2, [12, 9, 11], []), (10, [11, 7, 10], []), (20, [0, 5, 10], [60, 1, 2, 356, 5, 2, 95]), (9, [7, 0], [82]), (10, [9, 7, 8], []), (20, [0, 5, 8], [60, 1, 2, 357, 5, 2, 95]), (7, [5, 6], [2]), (20, [6, 0], [30, 0, 1, 0, 0, -1, 3, 2005001]), (20, [6, 0], [30, 0, -1, 0, 0, 1, 3, 2005001]), (20, [0], [60, 0, 3, 291, 110, 111, 112]), (20, [0], [60, 1, 1, 122, 5, 2]), (20, [0], [50, 1, 1, 5, 2, 0, 2, 0, 1, 3, 0, 2, 2, 0, 5]), (20, [5, 0], [50, 1, 1, 1005, 1002, 0, 2, 1, 0, 3, 1, 2, 4, 3, 2, 1, 5, 0, 1]), (20, [0], [60, 1, 3, 359, 5, 2, 95, 82]), (20, [0], [60, 1, 3, 416, 5, 2, 102, 82]), (20, [2, 0], [50, 1, 1, 1005, 1002, 1, 2, 1, 0, 3, 1, 2, 2, 1, 5]), (20, [0, 5, 3], [60, 1, 3, 361, 5, 2, 95, 82]), (20, [3, 5], [50, 0, 0, 2, 6, 0, 2, 0, 0, 1, 0, 0, 2, 1, 0, 6, 2, 0, 22, 1, 1]), (20, [4, 5], [50, 0, 0, 2, 6, 0, 2, 0, 0, 1, 0, 0, 2, 1, 0, 6, 2, 0, 207, 1, 1])], [(15, (0, 0, 1056, []))], [], [], [], [(15, 14, 0, 1056), (15, 12, -1, 1055), (15, 9, -24, 1055), (15, 3, -24, 22), (14, 12, -1, -1), (14, 9, -24, -1), (12, 9, -23, 0), (5, 6, -4294967296, -1)])
theorem oo_Mo_layers_13 {kA : Nat → ClassId} : or_ok PRD kA GG o_Mo_layers_13 := by
  intro A ta ws vs hD hth hl hk hds hf
  have hl : vs.length = 16 := hl
  have hk : ∀ q ∈ ([(0, (2, 0, 0, [150])), (2, (0, 0, 24, [])), (3, (0, 0, 1056, [])), (4, (0, 0, 9936, [])), (5, (0, 0, 47, [])), (6, (0, 1, 48, [])), (7, (2, 0, 0, [204])), (8, (0, 0, 23, [])), (9, (0, 0, 23, [])), (10, (0, 0, 23, [])), (11, (0, 0, 23, [])), (12, (0, -23, 23, [])), (13, (0, 1, 1, [])), (14, (0, -24, 22, [])), (15, (0, -24, 1078, []))] : List (Nat × tv_T)), tv_ok ta q.2 (n_v vs q.1) := hk
  obtain ⟨t0, hk⟩ := List.forall_mem_cons.mp hk
  have t0 : tv_ok ta (2, 0, 0, [150]) (n_v vs 0) := t0
  have r0 : ta (v_ad (n_v vs 0)) = some 150 := tv_rg t0
  obtain ⟨t2, hk⟩ := List.forall_mem_cons.mp hk
  have t2 : tv_ok ta (0, 0, 24, []) (n_v vs 2) := t2
  have k2 : 0 ≤ v_iv (n_v vs 2) ∧ v_iv (n_v vs 2) ≤ 24 := tv_rng t2
  obtain ⟨t3, hk⟩ := List.forall_mem_cons.mp hk
  have t3 : tv_ok ta (0, 0, 1056, []) (n_v vs 3) := t3
  have k3 : 0 ≤ v_iv (n_v vs 3) ∧ v_iv (n_v vs 3) ≤ 1056 := tv_rng t3
  obtain ⟨t4, hk⟩ := List.forall_mem_cons.mp hk
  have t4 : tv_ok ta (0, 0, 9936, []) (n_v vs 4) := t4
  have k4 : 0 ≤ v_iv (n_v vs 4) ∧ v_iv (n_v vs 4) ≤ 9936 := tv_rng t4
  obtain ⟨t5, hk⟩ := List.forall_mem_cons.mp hk
  have t5 : tv_ok ta (0, 0, 47, []) (n_v vs 5) := t5
  have k5 : 0 ≤ v_iv (n_v vs 5) ∧ v_iv (n_v vs 5) ≤ 47 := tv_rng t5
  obtain ⟨t6, hk⟩ := List.forall_mem_cons.mp hk
  have t6 : tv_ok ta (0, 1, 48, []) (n_v vs 6) := t6
  have k6 : 1 ≤ v_iv (n_v vs 6) ∧ v_iv (n_v vs 6) ≤ 48 := tv_rng t6
  obtain ⟨t7, hk⟩ := List.forall_mem_cons.mp hk
  have t7 : tv_ok ta (2, 0, 0, [204]) (n_v vs 7) := t7
  have r7 : ta (v_ad (n_v vs 7)) = some 204 := tv_rg t7
  obtain ⟨t8, hk⟩ := List.forall_mem_cons.mp hk
  have t8 : tv_ok ta (0, 0, 23, []) (n_v vs 8) := t8
  have k8 : 0 ≤ v_iv (n_v vs 8) ∧ v_iv (n_v vs 8) ≤ 23 := tv_rng t8
  obtain ⟨t9, hk⟩ := List.forall_mem_cons.mp hk
  have t9 : tv_ok ta (0, 0, 23, []) (n_v vs 9) := t9
  have k9 : 0 ≤ v_iv (n_v vs 9) ∧ v_iv (n_v vs 9) ≤ 23 := tv_rng t9
  obtain ⟨t10, hk⟩ := List.forall_mem_cons.mp hk
  have t10 : tv_ok ta (0, 0, 23, []) (n_v vs 10) := t10
  have k10 : 0 ≤ v_iv (n_v vs 10) ∧ v_iv (n_v vs 10) ≤ 23 := tv_rng t10
  obtain ⟨t11, hk⟩ := List.forall_mem_cons.mp hk
  have t11 : tv_ok ta (0, 0, 23, []) (n_v vs 11) := t11
  have k11 : 0 ≤ v_iv (n_v vs 11) ∧ v_iv (n_v vs 11) ≤ 23 := tv_rng t11
  obtain ⟨t12, hk⟩ := List.forall_mem_cons.mp hk
  have t12 : tv_ok ta (0, -23, 23, []) (n_v vs 12) := t12
  have k12 : (-23) ≤ v_iv (n_v vs 12) ∧ v_iv (n_v vs 12) ≤ 23 := tv_rng t12
  obtain ⟨t13, hk⟩ := List.forall_mem_cons.mp hk
  have t13 : tv_ok ta (0, 1, 1, []) (n_v vs 13) := t13
  have k13 : 1 ≤ v_iv (n_v vs 13) ∧ v_iv (n_v vs 13) ≤ 1 := tv_rng t13
  obtain ⟨t14, hk⟩ := List.forall_mem_cons.mp hk
  have t14 : tv_ok ta (0, -24, 22, []) (n_v vs 14) := t14
  have k14 : (-24) ≤ v_iv (n_v vs 14) ∧ v_iv (n_v vs 14) ≤ 22 := tv_rng t14
  obtain ⟨t15, hk⟩ := List.forall_mem_cons.mp hk
  have t15 : tv_ok ta (0, -24, 1078, []) (n_v vs 15) := t15
  have k15 : (-24) ≤ v_iv (n_v vs 15) ∧ v_iv (n_v vs 15) ≤ 1078 := tv_rng t15
  have hds : ∀ q ∈ ([(15, 14, 0, 1056), (15, 12, -1, 1055), (15, 9, -24, 1055), (15, 3, -24, 22), (14, 12, -1, -1), (14, 9, -24, -1), (12, 9, -23, 0), (5, 6, -4294967296, -1)] : List of_T), n_iv vs q.2.1 + q.2.2.1 ≤ n_iv vs q.1 ∧ n_iv vs q.1 ≤ n_iv vs q.2.1 + q.2.2.2 := hds
  obtain ⟨d0, hds⟩ := List.forall_mem_cons.mp hds
  have d0 : v_iv (n_v vs 14) + 0 ≤ v_iv (n_v vs 15) ∧ v_iv (n_v vs 15) ≤ v_iv (n_v vs 14) + 1056 := d0
  obtain ⟨d1, hds⟩ := List.forall_mem_cons.mp hds
  have d1 : v_iv (n_v vs 12) + (-1) ≤ v_iv (n_v vs 15) ∧ v_iv (n_v vs 15) ≤ v_iv (n_v vs 12) + 1055 := d1
  obtain ⟨d2, hds⟩ := List.forall_mem_cons.mp hds
  have d2 : v_iv (n_v vs 9) + (-24) ≤ v_iv (n_v vs 15) ∧ v_iv (n_v vs 15) ≤ v_iv (n_v vs 9) + 1055 := d2
  obtain ⟨d3, hds⟩ := List.forall_mem_cons.mp hds
  have d3 : v_iv (n_v vs 3) + (-24) ≤ v_iv (n_v vs 15) ∧ v_iv (n_v vs 15) ≤ v_iv (n_v vs 3) + 22 := d3
  obtain ⟨d4, hds⟩ := List.forall_mem_cons.mp hds
  have d4 : v_iv (n_v vs 12) + (-1) ≤ v_iv (n_v vs 14) ∧ v_iv (n_v vs 14) ≤ v_iv (n_v vs 12) + (-1) := d4
  obtain ⟨d5, hds⟩ := List.forall_mem_cons.mp hds
  have d5 : v_iv (n_v vs 9) + (-24) ≤ v_iv (n_v vs 14) ∧ v_iv (n_v vs 14) ≤ v_iv (n_v vs 9) + (-1) := d5
  obtain ⟨d6, hds⟩ := List.forall_mem_cons.mp hds
  have d6 : v_iv (n_v vs 9) + (-23) ≤ v_iv (n_v vs 12) ∧ v_iv (n_v vs 12) ≤ v_iv (n_v vs 9) + 0 := d6
  obtain ⟨d7, hds⟩ := List.forall_mem_cons.mp hds
  have d7 : v_iv (n_v vs 6) + (-4294967296) ≤ v_iv (n_v vs 5) ∧ v_iv (n_v vs 5) ≤ v_iv (n_v vs 6) + (-1) := d7
  have hf : fc_ok PRD [(1, [15, 3, 14], []), (2, [14, 12, 13], []), (2, [12, 9, 11], []), (10, [11, 7, 10], []), (20, [0, 5, 10], [60, 1, 2, 356, 5, 2, 95]), (9, [7, 0], [82]), (10, [9, 7, 8], []), (20, [0, 5, 8], [60, 1, 2, 357, 5, 2, 95]), (7, [5, 6], [2]), (20, [6, 0], [30, 0, 1, 0, 0, -1, 3, 2005001]), (20, [6, 0], [30, 0, -1, 0, 0, 1, 3, 2005001]), (20, [0], [60, 0, 3, 291, 110, 111, 112]), (20, [0], [60, 1, 1, 122, 5, 2]), (20, [0], [50, 1, 1, 5, 2, 0, 2, 0, 1, 3, 0, 2, 2, 0, 5]), (20, [5, 0], [50, 1, 1, 1005, 1002, 0, 2, 1, 0, 3, 1, 2, 4, 3, 2, 1, 5, 0, 1]), (20, [0], [60, 1, 3, 359, 5, 2, 95, 82]), (20, [0], [60, 1, 3, 416, 5, 2, 102, 82]), (20, [2, 0], [50, 1, 1, 1005, 1002, 1, 2, 1, 0, 3, 1, 2, 2, 1, 5]), (20, [0, 5, 3], [60, 1, 3, 361, 5, 2, 95, 82]), (20, [3, 5], [50, 0, 0, 2, 6, 0, 2, 0, 0, 1, 0, 0, 2, 1, 0, 6, 2, 0, 22, 1, 1]), (20, [4, 5], [50, 0, 0, 2, 6, 0, 2, 0, 0, 1, 0, 0, 2, 1, 0, 6, 2, 0, 207, 1, 1])] ta ws vs := hf
  obtain ⟨f0, hf⟩ := fc_un (show (1 : Nat) < 100 from by decide) hf
  have f0 : v_iv (n_v vs 15) = v_iv (n_v vs 3) + v_iv (n_v vs 14) := f0
  obtain ⟨f1, hf⟩ := fc_un (show (2 : Nat) < 100 from by decide) hf
  have f1 : v_iv (n_v vs 14) = v_iv (n_v vs 12) - v_iv (n_v vs 13) := f1
  obtain ⟨f2, hf⟩ := fc_un (show (2 : Nat) < 100 from by decide) hf
  have f2 : v_iv (n_v vs 12) = v_iv (n_v vs 9) - v_iv (n_v vs 11) := f2
  obtain ⟨f3, hf⟩ := fc_un (show (10 : Nat) < 100 from by decide) hf
  have f3 : v_iv (n_v vs 11) = w_el ws (v_ad (n_v vs 7)) (v_iv (n_v vs 10)).toNat := f3
  obtain ⟨f4, hf⟩ := fc_un (show (20 : Nat) < 100 from by decide) hf
  have f4 : FRO (w_fi ws (n_v vs 0) 5) (w_ei ws (w_ar ws (n_v vs 0) 2)) (w_ei ws (w_ar ws (n_v vs 0) 95)) (v_iv (n_v vs 5)) (v_iv (n_v vs 10)) := f4
  obtain ⟨f5, hf⟩ := fc_un (show (9 : Nat) < 100 from by decide) hf
  have f5 : n_v vs 7 = w_fd ws (v_ad (n_v vs 0)) 82 := f5
  obtain ⟨f6, hf⟩ := fc_un (show (10 : Nat) < 100 from by decide) hf
  have f6 : v_iv (n_v vs 9) = w_el ws (v_ad (n_v vs 7)) (v_iv (n_v vs 8)).toNat := f6
  obtain ⟨f7, hf⟩ := fc_un (show (20 : Nat) < 100 from by decide) hf
  have f7 : TOO (w_fi ws (n_v vs 0) 5) (w_ei ws (w_ar ws (n_v vs 0) 2)) (w_ei ws (w_ar ws (n_v vs 0) 95)) (v_iv (n_v vs 5)) (v_iv (n_v vs 8)) := f7
  obtain ⟨f8, hf⟩ := fc_un (show (7 : Nat) < 100 from by decide) hf
  have f8 : v_iv (n_v vs 5) < v_iv (n_v vs 6) := f8
  obtain ⟨f9, hf⟩ := fc_un (show (20 : Nat) < 100 from by decide) hf
  have f9 : 1 * v_iv (n_v vs 6) + ((-1) * w_el ws (w_ar ws (n_v vs 0) 2) (w_fi ws (n_v vs 0) 5 + 1).toNat + 0) ≤ 0 := f9
  obtain ⟨f10, hf⟩ := fc_un (show (20 : Nat) < 100 from by decide) hf
  have f10 : (-1) * v_iv (n_v vs 6) + (1 * w_el ws (w_ar ws (n_v vs 0) 2) (w_fi ws (n_v vs 0) 5 + 1).toNat + 0) ≤ 0 := f10
  obtain ⟨f11, hf⟩ := fc_un (show (20 : Nat) < 100 from by decide) hf
  have f11 : PTB (w_ei ws (w_ar ws (n_v vs 0) 110)) (w_ei ws (w_ar ws (n_v vs 0) 111)) (w_ei ws (w_ar ws (n_v vs 0) 112)) := f11
  obtain ⟨f12, hf⟩ := fc_un (show (20 : Nat) < 100 from by decide) hf
  have f12 : SGR (w_fi ws (n_v vs 0) 5) (w_ei ws (w_ar ws (n_v vs 0) 2)) := f12
  obtain ⟨f13, hf⟩ := fc_un (show (20 : Nat) < 100 from by decide) hf
  have f13 : 1 ≤ w_ei ws (w_ar ws (n_v vs 0) 2) (w_fi ws (n_v vs 0) 5) := f13
  obtain ⟨f14, hf⟩ := fc_un (show (20 : Nat) < 100 from by decide) hf
  have f14 : v_iv (n_v vs 5) ≤ w_ei ws (w_ar ws (n_v vs 0) 2) ((w_fi ws (n_v vs 0) 5 + 1)) := f14
  obtain ⟨f15, hf⟩ := fc_un (show (20 : Nat) < 100 from by decide) hf
  have f15 : LYP (w_fi ws (n_v vs 0) 5) (w_ei ws (w_ar ws (n_v vs 0) 2)) (w_ei ws (w_ar ws (n_v vs 0) 95)) (w_ei ws (w_ar ws (n_v vs 0) 82)) := f15
  obtain ⟨f16, hf⟩ := fc_un (show (20 : Nat) < 100 from by decide) hf
  have f16 : ILX (w_fi ws (n_v vs 0) 5) (w_ei ws (w_ar ws (n_v vs 0) 2)) (w_ei ws (w_ar ws (n_v vs 0) 102)) (w_ei ws (w_ar ws (n_v vs 0) 82)) := f16
  obtain ⟨f17, hf⟩ := fc_un (show (20 : Nat) < 100 from by decide) hf
  have f17 : v_iv (n_v vs 2) = w_ei ws (w_ar ws (n_v vs 0) 2) (w_fi ws (n_v vs 0) 5) := f17
  obtain ⟨f18, hf⟩ := fc_un (show (20 : Nat) < 100 from by decide) hf
  have f18 : JNT (w_fi ws (n_v vs 0) 5) (w_ei ws (w_ar ws (n_v vs 0) 2)) (w_ei ws (w_ar ws (n_v vs 0) 95)) (w_ei ws (w_ar ws (n_v vs 0) 82)) (v_iv (n_v vs 5)) (v_iv (n_v vs 3)) := f18
  obtain ⟨f19, hf⟩ := fc_un (show (20 : Nat) < 100 from by decide) hf
  have f19 : (0 ≤ v_iv (n_v vs 3)) ∧ (v_iv (n_v vs 3) ≤ (22 * v_iv (n_v vs 5))) := f19
  obtain ⟨f20, hf⟩ := fc_un (show (20 : Nat) < 100 from by decide) hf
  have f20 : (0 ≤ v_iv (n_v vs 4)) ∧ (v_iv (n_v vs 4) ≤ (207 * v_iv (n_v vs 5))) := f20
  have cr_0_2 : ta (w_ar ws (n_v vs 0) 2) = some 152 := tv_rg (th_fd hD hth r0 (g := GG_150) rfl (k := 2) (t := (2, 0, 0, [152])) rfl rfl)
  have cr_0_82 : ta (w_ar ws (n_v vs 0) 82) = some 204 := tv_rg (th_fd hD hth r0 (g := GG_150) rfl (k := 82) (t := (2, 0, 0, [204])) rfl rfl)
  have cr_0_95 : ta (w_ar ws (n_v vs 0) 95) = some 216 := tv_rg (th_fd hD hth r0 (g := GG_150) rfl (k := 95) (t := (2, 0, 0, [216])) rfl rfl)
  have cr_0_102 : ta (w_ar ws (n_v vs 0) 102) = some 220 := tv_rg (th_fd hD hth r0 (g := GG_150) rfl (k := 102) (t := (2, 0, 0, [220])) rfl rfl)
  have cr_0_110 : ta (w_ar ws (n_v vs 0) 110) = some 227 := tv_rg (th_fd hD hth r0 (g := GG_150) rfl (k := 110) (t := (2, 0, 0, [227])) rfl rfl)
  have cr_0_111 : ta (w_ar ws (n_v vs 0) 111) = some 228 := tv_rg (th_fd hD hth r0 (g := GG_150) rfl (k := 111) (t := (2, 0, 0, [228])) rfl rfl)
  have cr_0_112 : ta (w_ar ws (n_v vs 0) 112) = some 229 := tv_rg (th_fd hD hth r0 (g := GG_150) rfl (k := 112) (t := (2, 0, 0, [229])) rfl rfl)
  have ad_7 : v_ad (n_v vs 7) = w_ar ws (n_v vs 0) 82 := congrArg v_ad f5
  rw [ad_7] at f3
  have h3 : v_iv (n_v vs 11) = w_ei ws (w_ar ws (n_v vs 0) 82) (v_iv (n_v vs 10)) := f3
  rw [ad_7] at f6
  have h6 : v_iv (n_v vs 9) = w_ei ws (w_ar ws (n_v vs 0) 82) (v_iv (n_v vs 8)) := f6
  have hK_0_82 : ∀ j : Int, 0 ≤ j → j < 76 → 0 ≤ w_ei ws (w_ar ws (n_v vs 0) 82) j ∧ w_ei ws (w_ar ws (n_v vs 0) 82) j ≤ 221100000 := fun j h0 h1 => th_el hD hth cr_0_82 (kd := 0) (n := 76) (m := 76) (lo := 0) (hi := 221100000) (rs := []) (L := []) rfl (by decide) (j := j.toNat) (by omega)
  have hK_0_95 : ∀ j : Int, 0 ≤ j → j < 48 → 0 ≤ w_ei ws (w_ar ws (n_v vs 0) 95) j ∧ w_ei ws (w_ar ws (n_v vs 0) 95) j ≤ 1 := fun j h0 h1 => th_el hD hth cr_0_95 (kd := 2) (n := 48) (m := 48) (lo := 0) (hi := 1) (rs := []) (L := []) rfl (by decide) (j := j.toNat) (by omega)
  have hK_0_102 : ∀ j : Int, 0 ≤ j → j < 76 → 0 ≤ w_ei ws (w_ar ws (n_v vs 0) 102) j ∧ w_ei ws (w_ar ws (n_v vs 0) 102) j ≤ 75 := fun j h0 h1 => th_el hD hth cr_0_102 (kd := 0) (n := 76) (m := 76) (lo := 0) (hi := 75) (rs := []) (L := []) rfl (by decide) (j := j.toNat) (by omega)
  have hK_0_110 : ∀ j : Int, 0 ≤ j → j < 8 → 0 ≤ w_ei ws (w_ar ws (n_v vs 0) 110) j ∧ w_ei ws (w_ar ws (n_v vs 0) 110) j ≤ 5500 := fun j h0 h1 => th_el hD hth cr_0_110 (kd := 0) (n := 8) (m := 8) (lo := 0) (hi := 5500) (rs := []) (L := []) rfl (by decide) (j := j.toNat) (by omega)
  have hK_0_111 : ∀ j : Int, 0 ≤ j → j < 8 → 0 ≤ w_ei ws (w_ar ws (n_v vs 0) 111) j ∧ w_ei ws (w_ar ws (n_v vs 0) 111) j ≤ 720 := fun j h0 h1 => th_el hD hth cr_0_111 (kd := 0) (n := 8) (m := 8) (lo := 0) (hi := 720) (rs := []) (L := []) rfl (by decide) (j := j.toNat) (by omega)
  have hK_0_112 : ∀ j : Int, 0 ≤ j → j < 6000 → 0 ≤ w_ei ws (w_ar ws (n_v vs 0) 112) j ∧ w_ei ws (w_ar ws (n_v vs 0) 112) j ≤ 5 := fun j h0 h1 => th_el hD hth cr_0_112 (kd := 1) (n := 6000) (m := 6000) (lo := 0) (hi := 5) (rs := []) (L := []) rfl (by decide) (j := j.toNat) (by omega)
  have hrf0 : 0 ≤ v_iv (n_v vs 15) ∧ v_iv (n_v vs 15) ≤ 1056 := vc_Mo_layers_13_r0 (v_iv (n_v vs 2)) (v_iv (n_v vs 3)) (v_iv (n_v vs 4)) (v_iv (n_v vs 5)) (v_iv (n_v vs 6)) (v_iv (n_v vs 8)) (v_iv (n_v vs 9)) (v_iv (n_v vs 10)) (v_iv (n_v vs 11)) (v_iv (n_v vs 12)) (v_iv (n_v vs 13)) (v_iv (n_v vs 14)) (v_iv (n_v vs 15)) (w_ei ws (w_ar ws (n_v vs 0) 82)) (w_ei ws (w_ar ws (n_v vs 0) 2)) (w_ei ws (w_ar ws (n_v vs 0) 95)) (w_fi ws (n_v vs 0) 5) (w_ei ws (w_ar ws (n_v vs 0) 110)) (w_ei ws (w_ar ws (n_v vs 0) 111)) (w_ei ws (w_ar ws (n_v vs 0) 112)) (w_ei ws (w_ar ws (n_v vs 0) 102)) k2 k3 k4 k5 k6 k8 k9 k10 k11 k12 k13 k14 k15 d0 d1 d2 d3 d4 d5 d6 d7 f0 f1 f2 h3 f4 h6 f7 f8 f9 f10 f11 f12 f13 f14 f15 f16 f17 f18 f19 f20 hK_0_82 hK_0_95 hK_0_102 hK_0_110 hK_0_111 hK_0_112
  have rf15 : tv_ok ta (0, 0, 1056, []) (n_v vs 15) := tv_in t15 (by first | omega | grind) (by first | omega | grind)
  refine ⟨List.forall_mem_cons.mpr ⟨rf15, (fun _ h => (by cases h))⟩, [], trivial, ?_, (fun _ h => (by cases h))⟩
  rw [List.append_nil]
  exact (fun _ h => (by cases h))
set_option maxHeartbeats 4000000 in
theorem vc_Mo_layers_14_r0 (x2 : Int) (x3 : Int) (x4 : Int) (x5 : Int) (x6 : Int) (x8 : Int) (x9 : Int) (x10 : Int) (x11 : Int) (x12 : Int) (x13 : Int) (x14 : Int) (x15 : Int) (x16 : Int) (x17 : Int) (x18 : Int) (spot_0 : Int → Int) (all_0 : Int → Int) (turned_0 : Int → Int) (r_0 : Int) (permBegin_0 : Int → Int) (permMany_0 : Int → Int) (perm_0 : Int → Int) (itemLayer_0 : Int → Int) (k2 : 0 ≤ x2 ∧ x2 ≤ 24) (k3 : 0 ≤ x3 ∧ x3 ≤ 1056) (k4 : 0 ≤ x4 ∧ x4 ≤ 9936) (k5 : 0 ≤ x5 ∧ x5 ≤ 47) (k6 : 1 ≤ x6 ∧ x6 ≤ 48) (k8 : 0 ≤ x8 ∧ x8 ≤ 23) (k9 : 0 ≤ x9 ∧ x9 ≤ 23) (k10 : 0 ≤ x10 ∧ x10 ≤ 23) (k11 : 0 ≤ x11 ∧ x11 ≤ 23) (k12 : (-23) ≤ x12 ∧ x12 ≤ 23) (k13 : 1 ≤ x13 ∧ x13 ≤ 1) (k14 : (-24) ≤ x14 ∧ x14 ≤ 22) (k15 : 0 ≤ x15 ∧ x15 ≤ 1056) (k16 : 0 ≤ x16 ∧ x16 ≤ 9) (k17 : (-207) ≤ x17 ∧ x17 ≤ 207) (k18 : (-207) ≤ x18 ∧ x18 ≤ 10143) (d0 : x17 + 0 ≤ x18 ∧ x18 ≤ x17 + 9936) (d1 : x4 + (-207) ≤ x18 ∧ x18 ≤ x4 + 207) (d2 : x14 + 0 ≤ x15 ∧ x15 ≤ x14 + 1056) (d3 : x12 + (-1) ≤ x15 ∧ x15 ≤ x12 + 1055) (d4 : x9 + (-24) ≤ x15 ∧ x15 ≤ x9 + 1055) (d5 : x3 + (-24) ≤ x15 ∧ x15 ≤ x3 + 22) (d6 : x12 + (-1) ≤ x14 ∧ x14 ≤ x12 + (-1)) (d7 : x9 + (-24) ≤ x14 ∧ x14 ≤ x9 + (-1)) (d8 : x9 + (-23) ≤ x12 ∧ x12 ≤ x9 + 0) (d9 : x6 + (-4294967296) ≤ x5 ∧ x5 ≤ x6 + (-1)) (f0 : x18 = x4 + x17) (f1 : x17 = x16 * x12) (f2 : x15 = x3 + x14) (f3 : x14 = x12 - x13) (f4 : x12 = x9 - x11) (h5 : x11 = spot_0 (x10)) (f6 : FRO (r_0) (all_0) (turned_0) (x5) (x10)) (h8 : x9 = spot_0 (x8)) (f9 : TOO (r_0) (all_0) (turned_0) (x5) (x8)) (f10 : x5 < x6) (f11 : 1 * x6 + ((-1) * all_0 (r_0 + 1) + 0) ≤ 0) (f12 : (-1) * x6 + (1 * all_0 (r_0 + 1) + 0) ≤ 0) (f13 : PTB (permBegin_0) (permMany_0) (perm_0)) (f14 : SGR (r_0) (all_0)) (f15 : 1 ≤ all_0 (r_0)) (f16 : x5 ≤ all_0 ((r_0 + 1))) (f17 : LYP (r_0) (all_0) (turned_0) (spot_0)) (f18 : ILX (r_0) (all_0) (itemLayer_0) (spot_0)) (f19 : x2 = all_0 (r_0)) (f20 : JNT (r_0) (all_0) (turned_0) (spot_0) (x5) (x3)) (f21 : (0 ≤ x3) ∧ (x3 ≤ (22 * x5))) (f22 : (0 ≤ x4) ∧ (x4 ≤ (207 * x5))) (hK_0_82 : ∀ j : Int, 0 ≤ j → j < 76 → 0 ≤ spot_0 j ∧ spot_0 j ≤ 221100000) (hK_0_95 : ∀ j : Int, 0 ≤ j → j < 48 → 0 ≤ turned_0 j ∧ turned_0 j ≤ 1) (hK_0_102 : ∀ j : Int, 0 ≤ j → j < 76 → 0 ≤ itemLayer_0 j ∧ itemLayer_0 j ≤ 75) (hK_0_110 : ∀ j : Int, 0 ≤ j → j < 8 → 0 ≤ permBegin_0 j ∧ permBegin_0 j ≤ 5500) (hK_0_111 : ∀ j : Int, 0 ≤ j → j < 8 → 0 ≤ permMany_0 j ∧ permMany_0 j ≤ 720) (hK_0_112 : ∀ j : Int, 0 ≤ j → j < 6000 → 0 ≤ perm_0 j ∧ perm_0 j ≤ 5) : 0 ≤ x18 ∧ x18 ≤ 9936 := by
  first
    | omega
    | (have h := lyp_d (e := x5) (a := x10) (b := x8) (ya := x11) (yb := x9) ‹LYP _ _ _ _› (by omega) (by omega) (by assumption) (by assumption) (by assumption) (by assumption)
       have q := Int.mul_le_mul (show x16 ≤ 9 by omega) (show x12 ≤ 23 by omega) (by omega) (by omega)
       have q0 := Int.mul_nonneg (show 0 ≤ x16 by omega) (show 0 ≤ x12 by omega)
       omega)
def o_Mo_layers_14 : or_T := (172, 19, [(0, (2, 0, 0, [150])), (2, (0, 0, 24, [])), (3, (0, 0, 1056, [])), (4, (0, 0, 9936, [])), (5, (0, 0, 47, [])), (6, (0, 1, 48, [])), (7, (2, 0, 0, [204])), (8, (0, 0, 23, [])), (9, (0, 0, 23, [])), (10, (0, 0, 23, [])), (11, (0, 0, 23, [])), (12, (0, -23, 23, [])), (13, (0, 1, 1, [])), (14, (0, -24, 22, [])), (15, (0, 0, 1056, [])), (16, (0, 0, 9, [])), (17, (0, -207, 207, [])), (18, (0, -207, 10143, []))], [(1, [18, 4, 17], []), (3, [17, 16, 12], []), (1, [15, 3, 14], []), (2, [14, 12, 13], []), (2, [12, 9, 11], []), (10, [11, 7, 10], []), (20, [0, 5, 10], [60, 1, 2, 356, 5, 2, 95]), (9, [7, 0], [82]), (10, [9, 7, 8], []), (20, [0, 5, 8], [60, 1, 2, 357, 5, 2, 95]), (7, [5, 6], [2]), (20, [6, 0], [30, 0, 1, 0, 0, -1, 3, 2005001]), (20, [6, 0], [30, 0, -1, 0, 0, 1, 3, 2005001]), (20, [0], [60, 0, 3, 291, 110, 111, 112]), (20, [0], [60, 1, 1, 122, 5, 2]), (20, [0], [50, 1, 1, 5, 2, 0, 2, 0, 1, 3, 0, 2, 2, 0, 5]), (20, [5, 0], [50, 1, 1, 1005, 1002, 0, 2, 1, 0, 3, 1, 2, 4, 3, 2, 1, 5, 0, 1]), (20, [0], [60, 1, 3, 359, 5, 2, 95, 82]), (20, [0], [60, 1, 3, 416, 5, 2, 102, 82]), (20, [2, 0], [50, 1, 1, 1005, 1002, 1, 2, 1, 0, 3, 1, 2, 2, 1, 5]), (20, [0, 5, 3], [60, 1, 3, 361, 5, 2, 95, 82]), (20, [3, 5], [50, 0, 0, 2, 6, 0, 2, 0, 0, 1, 0, 0, 2, 1, 0, 6, 2, 0, 22, 1, 1]), (20, [4, 5], [50, 0, 0, 2, 6, 0, 2, 0, 0, 1, 0, 0, 2, 1, 0, 6, 2, 0, 207, 1, 1])], [(18, (0, 0, 9936, []))], [], [], [], [(18, 17, 0, 9936), (18, 4, -207, 207), (15, 14, 0, 1056), (15, 12, -1, 1055), (15, 9, -24, 1055), (15, 3, -24, 22), (14, 12, -1, -1), (14, 9, -24, -1), (12, 9, -23, 0), (5, 6, -4294967296, -1)])
theorem oo_Mo_layers_14 {kA : Nat → ClassId} : or_ok PRD kA GG o_Mo_layers_14 := by
  intro A ta ws vs hD hth hl hk hds hf
  have hl : vs.length = 19 := hl
  have hk : ∀ q ∈ ([(0, (2, 0, 0, [150])), (2, (0, 0, 24, [])), (3, (0, 0, 1056, [])), (4, (0, 0, 9936, [])), (5, (0, 0, 47, [])), (6, (0, 1, 48, [])), (7, (2, 0, 0, [204])), (8, (0, 0, 23, [])), (9, (0, 0, 23, [])), (10, (0, 0, 23, [])), (11, (0, 0, 23, [])), (12, (0, -23, 23, [])), (13, (0, 1, 1, [])), (14, (0, -24, 22, [])), (15, (0, 0, 1056, [])), (16, (0, 0, 9, [])), (17, (0, -207, 207, [])), (18, (0, -207, 10143, []))] : List (Nat × tv_T)), tv_ok ta q.2 (n_v vs q.1) := hk
  obtain ⟨t0, hk⟩ := List.forall_mem_cons.mp hk
  have t0 : tv_ok ta (2, 0, 0, [150]) (n_v vs 0) := t0
  have r0 : ta (v_ad (n_v vs 0)) = some 150 := tv_rg t0
  obtain ⟨t2, hk⟩ := List.forall_mem_cons.mp hk
  have t2 : tv_ok ta (0, 0, 24, []) (n_v vs 2) := t2
  have k2 : 0 ≤ v_iv (n_v vs 2) ∧ v_iv (n_v vs 2) ≤ 24 := tv_rng t2
  obtain ⟨t3, hk⟩ := List.forall_mem_cons.mp hk
  have t3 : tv_ok ta (0, 0, 1056, []) (n_v vs 3) := t3
  have k3 : 0 ≤ v_iv (n_v vs 3) ∧ v_iv (n_v vs 3) ≤ 1056 := tv_rng t3
  obtain ⟨t4, hk⟩ := List.forall_mem_cons.mp hk
  have t4 : tv_ok ta (0, 0, 9936, []) (n_v vs 4) := t4
  have k4 : 0 ≤ v_iv (n_v vs 4) ∧ v_iv (n_v vs 4) ≤ 9936 := tv_rng t4
  obtain ⟨t5, hk⟩ := List.forall_mem_cons.mp hk
  have t5 : tv_ok ta (0, 0, 47, []) (n_v vs 5) := t5
  have k5 : 0 ≤ v_iv (n_v vs 5) ∧ v_iv (n_v vs 5) ≤ 47 := tv_rng t5
  obtain ⟨t6, hk⟩ := List.forall_mem_cons.mp hk
  have t6 : tv_ok ta (0, 1, 48, []) (n_v vs 6) := t6
  have k6 : 1 ≤ v_iv (n_v vs 6) ∧ v_iv (n_v vs 6) ≤ 48 := tv_rng t6
  obtain ⟨t7, hk⟩ := List.forall_mem_cons.mp hk
  have t7 : tv_ok ta (2, 0, 0, [204]) (n_v vs 7) := t7
  have r7 : ta (v_ad (n_v vs 7)) = some 204 := tv_rg t7
  obtain ⟨t8, hk⟩ := List.forall_mem_cons.mp hk
  have t8 : tv_ok ta (0, 0, 23, []) (n_v vs 8) := t8
  have k8 : 0 ≤ v_iv (n_v vs 8) ∧ v_iv (n_v vs 8) ≤ 23 := tv_rng t8
  obtain ⟨t9, hk⟩ := List.forall_mem_cons.mp hk
  have t9 : tv_ok ta (0, 0, 23, []) (n_v vs 9) := t9
  have k9 : 0 ≤ v_iv (n_v vs 9) ∧ v_iv (n_v vs 9) ≤ 23 := tv_rng t9
  obtain ⟨t10, hk⟩ := List.forall_mem_cons.mp hk
  have t10 : tv_ok ta (0, 0, 23, []) (n_v vs 10) := t10
  have k10 : 0 ≤ v_iv (n_v vs 10) ∧ v_iv (n_v vs 10) ≤ 23 := tv_rng t10
  obtain ⟨t11, hk⟩ := List.forall_mem_cons.mp hk
  have t11 : tv_ok ta (0, 0, 23, []) (n_v vs 11) := t11
  have k11 : 0 ≤ v_iv (n_v vs 11) ∧ v_iv (n_v vs 11) ≤ 23 := tv_rng t11
  obtain ⟨t12, hk⟩ := List.forall_mem_cons.mp hk
  have t12 : tv_ok ta (0, -23, 23, []) (n_v vs 12) := t12
  have k12 : (-23) ≤ v_iv (n_v vs 12) ∧ v_iv (n_v vs 12) ≤ 23 := tv_rng t12
  obtain ⟨t13, hk⟩ := List.forall_mem_cons.mp hk
  have t13 : tv_ok ta (0, 1, 1, []) (n_v vs 13) := t13
  have k13 : 1 ≤ v_iv (n_v vs 13) ∧ v_iv (n_v vs 13) ≤ 1 := tv_rng t13
  obtain ⟨t14, hk⟩ := List.forall_mem_cons.mp hk
  have t14 : tv_ok ta (0, -24, 22, []) (n_v vs 14) := t14
  have k14 : (-24) ≤ v_iv (n_v vs 14) ∧ v_iv (n_v vs 14) ≤ 22 := tv_rng t14
  obtain ⟨t15, hk⟩ := List.forall_mem_cons.mp hk
  have t15 : tv_ok ta (0, 0, 1056, []) (n_v vs 15) := t15
  have k15 : 0 ≤ v_iv (n_v vs 15) ∧ v_iv (n_v vs 15) ≤ 1056 := tv_rng t15
  obtain ⟨t16, hk⟩ := List.forall_mem_cons.mp hk
  have t16 : tv_ok ta (0, 0, 9, []) (n_v vs 16) := t16
  have k16 : 0 ≤ v_iv (n_v vs 16) ∧ v_iv (n_v vs 16) ≤ 9 := tv_rng t16
  obtain ⟨t17, hk⟩ := List.forall_mem_cons.mp hk
  have t17 : tv_ok ta (0, -207, 207, []) (n_v vs 17) := t17
  have k17 : (-207) ≤ v_iv (n_v vs 17) ∧ v_iv (n_v vs 17) ≤ 207 := tv_rng t17
  obtain ⟨t18, hk⟩ := List.forall_mem_cons.mp hk
  have t18 : tv_ok ta (0, -207, 10143, []) (n_v vs 18) := t18
  have k18 : (-207) ≤ v_iv (n_v vs 18) ∧ v_iv (n_v vs 18) ≤ 10143 := tv_rng t18
  have hds : ∀ q ∈ ([(18, 17, 0, 9936), (18, 4, -207, 207), (15, 14, 0, 1056), (15, 12, -1, 1055), (15, 9, -24, 1055), (15, 3, -24, 22), (14, 12, -1, -1), (14, 9, -24, -1), (12, 9, -23, 0), (5, 6, -4294967296, -1)] : List of_T), n_iv vs q.2.1 + q.2.2.1 ≤ n_iv vs q.1 ∧ n_iv vs q.1 ≤ n_iv vs q.2.1 + q.2.2.2 := hds
  obtain ⟨d0, hds⟩ := List.forall_mem_cons.mp hds
  have d0 : v_iv (n_v vs 17) + 0 ≤ v_iv (n_v vs 18) ∧ v_iv (n_v vs 18) ≤ v_iv (n_v vs 17) + 9936 := d0
  obtain ⟨d1, hds⟩ := List.forall_mem_cons.mp hds
  have d1 : v_iv (n_v vs 4) + (-207) ≤ v_iv (n_v vs 18) ∧ v_iv (n_v vs 18) ≤ v_iv (n_v vs 4) + 207 := d1
  obtain ⟨d2, hds⟩ := List.forall_mem_cons.mp hds
  have d2 : v_iv (n_v vs 14) + 0 ≤ v_iv (n_v vs 15) ∧ v_iv (n_v vs 15) ≤ v_iv (n_v vs 14) + 1056 := d2
  obtain ⟨d3, hds⟩ := List.forall_mem_cons.mp hds
  have d3 : v_iv (n_v vs 12) + (-1) ≤ v_iv (n_v vs 15) ∧ v_iv (n_v vs 15) ≤ v_iv (n_v vs 12) + 1055 := d3
  obtain ⟨d4, hds⟩ := List.forall_mem_cons.mp hds
  have d4 : v_iv (n_v vs 9) + (-24) ≤ v_iv (n_v vs 15) ∧ v_iv (n_v vs 15) ≤ v_iv (n_v vs 9) + 1055 := d4
  obtain ⟨d5, hds⟩ := List.forall_mem_cons.mp hds
  have d5 : v_iv (n_v vs 3) + (-24) ≤ v_iv (n_v vs 15) ∧ v_iv (n_v vs 15) ≤ v_iv (n_v vs 3) + 22 := d5
  obtain ⟨d6, hds⟩ := List.forall_mem_cons.mp hds
  have d6 : v_iv (n_v vs 12) + (-1) ≤ v_iv (n_v vs 14) ∧ v_iv (n_v vs 14) ≤ v_iv (n_v vs 12) + (-1) := d6
  obtain ⟨d7, hds⟩ := List.forall_mem_cons.mp hds
  have d7 : v_iv (n_v vs 9) + (-24) ≤ v_iv (n_v vs 14) ∧ v_iv (n_v vs 14) ≤ v_iv (n_v vs 9) + (-1) := d7
  obtain ⟨d8, hds⟩ := List.forall_mem_cons.mp hds
  have d8 : v_iv (n_v vs 9) + (-23) ≤ v_iv (n_v vs 12) ∧ v_iv (n_v vs 12) ≤ v_iv (n_v vs 9) + 0 := d8
  obtain ⟨d9, hds⟩ := List.forall_mem_cons.mp hds
  have d9 : v_iv (n_v vs 6) + (-4294967296) ≤ v_iv (n_v vs 5) ∧ v_iv (n_v vs 5) ≤ v_iv (n_v vs 6) + (-1) := d9
  have hf : fc_ok PRD [(1, [18, 4, 17], []), (3, [17, 16, 12], []), (1, [15, 3, 14], []), (2, [14, 12, 13], []), (2, [12, 9, 11], []), (10, [11, 7, 10], []), (20, [0, 5, 10], [60, 1, 2, 356, 5, 2, 95]), (9, [7, 0], [82]), (10, [9, 7, 8], []), (20, [0, 5, 8], [60, 1, 2, 357, 5, 2, 95]), (7, [5, 6], [2]), (20, [6, 0], [30, 0, 1, 0, 0, -1, 3, 2005001]), (20, [6, 0], [30, 0, -1, 0, 0, 1, 3, 2005001]), (20, [0], [60, 0, 3, 291, 110, 111, 112]), (20, [0], [60, 1, 1, 122, 5, 2]), (20, [0], [50, 1, 1, 5, 2, 0, 2, 0, 1, 3, 0, 2, 2, 0, 5]), (20, [5, 0], [50, 1, 1, 1005, 1002, 0, 2, 1, 0, 3, 1, 2, 4, 3, 2, 1, 5, 0, 1]), (20, [0], [60, 1, 3, 359, 5, 2, 95, 82]), (20, [0], [60, 1, 3, 416, 5, 2, 102, 82]), (20, [2, 0], [50, 1, 1, 1005, 1002, 1, 2, 1, 0, 3, 1, 2, 2, 1, 5]), (20, [0, 5, 3], [60, 1, 3, 361, 5, 2, 95, 82]), (20, [3, 5], [50, 0, 0, 2, 6, 0, 2, 0, 0, 1, 0, 0, 2, 1, 0, 6, 2, 0, 22, 1, 1]), (20, [4, 5], [50, 0, 0, 2, 6, 0, 2, 0, 0, 1, 0, 0, 2, 1, 0, 6, 2, 0, 207, 1, 1])] ta ws vs := hf
  obtain ⟨f0, hf⟩ := fc_un (show (1 : Nat) < 100 from by decide) hf
  have f0 : v_iv (n_v vs 18) = v_iv (n_v vs 4) + v_iv (n_v vs 17) := f0
  obtain ⟨f1, hf⟩ := fc_un (show (3 : Nat) < 100 from by decide) hf
  have f1 : v_iv (n_v vs 17) = v_iv (n_v vs 16) * v_iv (n_v vs 12) := f1
  obtain ⟨f2, hf⟩ := fc_un (show (1 : Nat) < 100 from by decide) hf
  have f2 : v_iv (n_v vs 15) = v_iv (n_v vs 3) + v_iv (n_v vs 14) := f2
  obtain ⟨f3, hf⟩ := fc_un (show (2 : Nat) < 100 from by decide) hf
  have f3 : v_iv (n_v vs 14) = v_iv (n_v vs 12) - v_iv (n_v vs 13) := f3
  obtain ⟨f4, hf⟩ := fc_un (show (2 : Nat) < 100 from by decide) hf
  have f4 : v_iv (n_v vs 12) = v_iv (n_v vs 9) - v_iv (n_v vs 11) := f4
  obtain ⟨f5, hf⟩ := fc_un (show (10 : Nat) < 100 from by decide) hf
  have f5 : v_iv (n_v vs 11) = w_el ws (v_ad (n_v vs 7)) (v_iv (n_v vs 10)).toNat := f5
  obtain ⟨f6, hf⟩ := fc_un (show (20 : Nat) < 100 from by decide) hf
  have f6 : FRO (w_fi ws (n_v vs 0) 5) (w_ei ws (w_ar ws (n_v vs 0) 2)) (w_ei ws (w_ar ws (n_v vs 0) 95)) (v_iv (n_v vs 5)) (v_iv (n_v vs 10)) := f6
  obtain ⟨f7, hf⟩ := fc_un (show (9 : Nat) < 100 from by decide) hf
  have f7 : n_v vs 7 = w_fd ws (v_ad (n_v vs 0)) 82 := f7
  obtain ⟨f8, hf⟩ := fc_un (show (10 : Nat) < 100 from by decide) hf
  have f8 : v_iv (n_v vs 9) = w_el ws (v_ad (n_v vs 7)) (v_iv (n_v vs 8)).toNat := f8
  obtain ⟨f9, hf⟩ := fc_un (show (20 : Nat) < 100 from by decide) hf
  have f9 : TOO (w_fi ws (n_v vs 0) 5) (w_ei ws (w_ar ws (n_v vs 0) 2)) (w_ei ws (w_ar ws (n_v vs 0) 95)) (v_iv (n_v vs 5)) (v_iv (n_v vs 8)) := f9
  obtain ⟨f10, hf⟩ := fc_un (show (7 : Nat) < 100 from by decide) hf
  have f10 : v_iv (n_v vs 5) < v_iv (n_v vs 6) := f10
  obtain ⟨f11, hf⟩ := fc_un (show (20 : Nat) < 100 from by decide) hf
  have f11 : 1 * v_iv (n_v vs 6) + ((-1) * w_el ws (w_ar ws (n_v vs 0) 2) (w_fi ws (n_v vs 0) 5 + 1).toNat + 0) ≤ 0 := f11
  obtain ⟨f12, hf⟩ := fc_un (show (20 : Nat) < 100 from by decide) hf
  have f12 : (-1) * v_iv (n_v vs 6) + (1 * w_el ws (w_ar ws (n_v vs 0) 2) (w_fi ws (n_v vs 0) 5 + 1).toNat + 0) ≤ 0 := f12
  obtain ⟨f13, hf⟩ := fc_un (show (20 : Nat) < 100 from by decide) hf
  have f13 : PTB (w_ei ws (w_ar ws (n_v vs 0) 110)) (w_ei ws (w_ar ws (n_v vs 0) 111)) (w_ei ws (w_ar ws (n_v vs 0) 112)) := f13
  obtain ⟨f14, hf⟩ := fc_un (show (20 : Nat) < 100 from by decide) hf
  have f14 : SGR (w_fi ws (n_v vs 0) 5) (w_ei ws (w_ar ws (n_v vs 0) 2)) := f14
  obtain ⟨f15, hf⟩ := fc_un (show (20 : Nat) < 100 from by decide) hf
  have f15 : 1 ≤ w_ei ws (w_ar ws (n_v vs 0) 2) (w_fi ws (n_v vs 0) 5) := f15
  obtain ⟨f16, hf⟩ := fc_un (show (20 : Nat) < 100 from by decide) hf
  have f16 : v_iv (n_v vs 5) ≤ w_ei ws (w_ar ws (n_v vs 0) 2) ((w_fi ws (n_v vs 0) 5 + 1)) := f16
  obtain ⟨f17, hf⟩ := fc_un (show (20 : Nat) < 100 from by decide) hf
  have f17 : LYP (w_fi ws (n_v vs 0) 5) (w_ei ws (w_ar ws (n_v vs 0) 2)) (w_ei ws (w_ar ws (n_v vs 0) 95)) (w_ei ws (w_ar ws (n_v vs 0) 82)) := f17
  obtain ⟨f18, hf⟩ := fc_un (show (20 : Nat) < 100 from by decide) hf
  have f18 : ILX (w_fi ws (n_v vs 0) 5) (w_ei ws (w_ar ws (n_v vs 0) 2)) (w_ei ws (w_ar ws (n_v vs 0) 102)) (w_ei ws (w_ar ws (n_v vs 0) 82)) := f18
  obtain ⟨f19, hf⟩ := fc_un (show (20 : Nat) < 100 from by decide) hf
  have f19 : v_iv (n_v vs 2) = w_ei ws (w_ar ws (n_v vs 0) 2) (w_fi ws (n_v vs 0) 5) := f19
  obtain ⟨f20, hf⟩ := fc_un (show (20 : Nat) < 100 from by decide) hf
  have f20 : JNT (w_fi ws (n_v vs 0) 5) (w_ei ws (w_ar ws (n_v vs 0) 2)) (w_ei ws (w_ar ws (n_v vs 0) 95)) (w_ei ws (w_ar ws (n_v vs 0) 82)) (v_iv (n_v vs 5)) (v_iv (n_v vs 3)) := f20
  obtain ⟨f21, hf⟩ := fc_un (show (20 : Nat) < 100 from by decide) hf
  have f21 : (0 ≤ v_iv (n_v vs 3)) ∧ (v_iv (n_v vs 3) ≤ (22 * v_iv (n_v vs 5))) := f21
  obtain ⟨f22, hf⟩ := fc_un (show (20 : Nat) < 100 from by decide) hf
  have f22 : (0 ≤ v_iv (n_v vs 4)) ∧ (v_iv (n_v vs 4) ≤ (207 * v_iv (n_v vs 5))) := f22
  have cr_0_2 : ta (w_ar ws (n_v vs 0) 2) = some 152 := tv_rg (th_fd hD hth r0 (g := GG_150) rfl (k := 2) (t := (2, 0, 0, [152])) rfl rfl)
  have cr_0_82 : ta (w_ar ws (n_v vs 0) 82) = some 204 := tv_rg (th_fd hD hth r0 (g := GG_150) rfl (k := 82) (t := (2, 0, 0, [204])) rfl rfl)
  have cr_0_95 : ta (w_ar ws (n_v vs 0) 95) = some 216 := tv_rg (th_fd hD hth r0 (g := GG_150) rfl (k := 95) (t := (2, 0, 0, [216])) rfl rfl)
  have cr_0_102 : ta (w_ar ws (n_v vs 0) 102) = some 220 := tv_rg (th_fd hD hth r0 (g := GG_150) rfl (k := 102) (t := (2, 0, 0, [220])) rfl rfl)
  have cr_0_110 : ta (w_ar ws (n_v vs 0) 110) = some 227 := tv_rg (th_fd hD hth r0 (g := GG_150) rfl (k := 110) (t := (2, 0, 0, [227])) rfl rfl)
  have cr_0_111 : ta (w_ar ws (n_v vs 0) 111) = some 228 := tv_rg (th_fd hD hth r0 (g := GG_150) rfl (k := 111) (t := (2, 0, 0, [228])) rfl rfl)
  have cr_0_112 : ta (w_ar ws (n_v vs 0) 112) = some 229 := tv_rg (th_fd hD hth r0 (g := GG_150) rfl (k := 112) (t := (2, 0, 0, [229])) rfl rfl)
  have ad_7 : v_ad (n_v vs 7) = w_ar ws (n_v vs 0) 82 := congrArg v_ad f7
  rw [ad_7] at f5
  have h5 : v_iv (n_v vs 11) = w_ei ws (w_ar ws (n_v vs 0) 82) (v_iv (n_v vs 10)) := f5
  rw [ad_7] at f8
  have h8 : v_iv (n_v vs 9) = w_ei ws (w_ar ws (n_v vs 0) 82) (v_iv (n_v vs 8)) := f8
  have hK_0_82 : ∀ j : Int, 0 ≤ j → j < 76 → 0 ≤ w_ei ws (w_ar ws (n_v vs 0) 82) j ∧ w_ei ws (w_ar ws (n_v vs 0) 82) j ≤ 221100000 := fun j h0 h1 => th_el hD hth cr_0_82 (kd := 0) (n := 76) (m := 76) (lo := 0) (hi := 221100000) (rs := []) (L := []) rfl (by decide) (j := j.toNat) (by omega)
  have hK_0_95 : ∀ j : Int, 0 ≤ j → j < 48 → 0 ≤ w_ei ws (w_ar ws (n_v vs 0) 95) j ∧ w_ei ws (w_ar ws (n_v vs 0) 95) j ≤ 1 := fun j h0 h1 => th_el hD hth cr_0_95 (kd := 2) (n := 48) (m := 48) (lo := 0) (hi := 1) (rs := []) (L := []) rfl (by decide) (j := j.toNat) (by omega)
  have hK_0_102 : ∀ j : Int, 0 ≤ j → j < 76 → 0 ≤ w_ei ws (w_ar ws (n_v vs 0) 102) j ∧ w_ei ws (w_ar ws (n_v vs 0) 102) j ≤ 75 := fun j h0 h1 => th_el hD hth cr_0_102 (kd := 0) (n := 76) (m := 76) (lo := 0) (hi := 75) (rs := []) (L := []) rfl (by decide) (j := j.toNat) (by omega)
  have hK_0_110 : ∀ j : Int, 0 ≤ j → j < 8 → 0 ≤ w_ei ws (w_ar ws (n_v vs 0) 110) j ∧ w_ei ws (w_ar ws (n_v vs 0) 110) j ≤ 5500 := fun j h0 h1 => th_el hD hth cr_0_110 (kd := 0) (n := 8) (m := 8) (lo := 0) (hi := 5500) (rs := []) (L := []) rfl (by decide) (j := j.toNat) (by omega)
  have hK_0_111 : ∀ j : Int, 0 ≤ j → j < 8 → 0 ≤ w_ei ws (w_ar ws (n_v vs 0) 111) j ∧ w_ei ws (w_ar ws (n_v vs 0) 111) j ≤ 720 := fun j h0 h1 => th_el hD hth cr_0_111 (kd := 0) (n := 8) (m := 8) (lo := 0) (hi := 720) (rs := []) (L := []) rfl (by decide) (j := j.toNat) (by omega)
  have hK_0_112 : ∀ j : Int, 0 ≤ j → j < 6000 → 0 ≤ w_ei ws (w_ar ws (n_v vs 0) 112) j ∧ w_ei ws (w_ar ws (n_v vs 0) 112) j ≤ 5 := fun j h0 h1 => th_el hD hth cr_0_112 (kd := 1) (n := 6000) (m := 6000) (lo := 0) (hi := 5) (rs := []) (L := []) rfl (by decide) (j := j.toNat) (by omega)
  have hrf0 : 0 ≤ v_iv (n_v vs 18) ∧ v_iv (n_v vs 18) ≤ 9936 := vc_Mo_layers_14_r0 (v_iv (n_v vs 2)) (v_iv (n_v vs 3)) (v_iv (n_v vs 4)) (v_iv (n_v vs 5)) (v_iv (n_v vs 6)) (v_iv (n_v vs 8)) (v_iv (n_v vs 9)) (v_iv (n_v vs 10)) (v_iv (n_v vs 11)) (v_iv (n_v vs 12)) (v_iv (n_v vs 13)) (v_iv (n_v vs 14)) (v_iv (n_v vs 15)) (v_iv (n_v vs 16)) (v_iv (n_v vs 17)) (v_iv (n_v vs 18)) (w_ei ws (w_ar ws (n_v vs 0) 82)) (w_ei ws (w_ar ws (n_v vs 0) 2)) (w_ei ws (w_ar ws (n_v vs 0) 95)) (w_fi ws (n_v vs 0) 5) (w_ei ws (w_ar ws (n_v vs 0) 110)) (w_ei ws (w_ar ws (n_v vs 0) 111)) (w_ei ws (w_ar ws (n_v vs 0) 112)) (w_ei ws (w_ar ws (n_v vs 0) 102)) k2 k3 k4 k5 k6 k8 k9 k10 k11 k12 k13 k14 k15 k16 k17 k18 d0 d1 d2 d3 d4 d5 d6 d7 d8 d9 f0 f1 f2 f3 f4 h5 f6 h8 f9 f10 f11 f12 f13 f14 f15 f16 f17 f18 f19 f20 f21 f22 hK_0_82 hK_0_95 hK_0_102 hK_0_110 hK_0_111 hK_0_112
  have rf18 : tv_ok ta (0, 0, 9936, []) (n_v vs 18) := tv_in t18 (by first | omega | grind) (by first | omega | grind)
  refine ⟨List.forall_mem_cons.mpr ⟨rf18, (fun _ h => (by cases h))⟩, [], trivial, ?_, (fun _ h => (by cases h))⟩
  rw [List.append_nil]
  exact (fun _ h => (by cases h))
set_option maxHeartbeats 4000000 in
theorem vc_Mo_layers_15_0 (x2 : Int) (x3 : Int) (x4 : Int) (x5 : Int) (x6 : Int) (x8 : Int) (x9 : Int) (x10 : Int) (x11 : Int) (x12 : Int) (x13 : Int) (x14 : Int) (x15 : Int) (x16 : Int) (x17 : Int) (x18 : Int) (x19 : Int) (spot_0 : Int → Int) (all_0 : Int → Int) (turned_0 : Int → Int) (r_0 : Int) (permBegin_0 : Int → Int) (permMany_0 : Int → Int) (perm_0 : Int → Int) (itemLayer_0 : Int → Int) (k2 : 0 ≤ x2 ∧ x2 ≤ 24) (k3 : 0 ≤ x3 ∧ x3 ≤ 1056) (k4 : 0 ≤ x4 ∧ x4 ≤ 9936) (k5 : 0 ≤ x5 ∧ x5 ≤ 47) (k6 : 1 ≤ x6 ∧ x6 ≤ 48) (k8 : 0 ≤ x8 ∧ x8 ≤ 23) (k9 : 0 ≤ x9 ∧ x9 ≤ 23) (k10 : 0 ≤ x10 ∧ x10 ≤ 23) (k11 : 0 ≤ x11 ∧ x11 ≤ 23) (k12 : (-23) ≤ x12 ∧ x12 ≤ 23) (k13 : 1 ≤ x13 ∧ x13 ≤ 1) (k14 : (-24) ≤ x14 ∧ x14 ≤ 22) (k15 : 0 ≤ x15 ∧ x15 ≤ 1056) (k16 : 0 ≤ x16 ∧ x16 ≤ 9) (k17 : (-207) ≤ x17 ∧ x17 ≤ 207) (k18 : 0 ≤ x18 ∧ x18 ≤ 9936) (k19 : 1 ≤ x19 ∧ x19 ≤ 48) (d0 : x5 + 1 ≤ x19 ∧ x19 ≤ x5 + 1) (d1 : x6 + (-4294967296) ≤ x19 ∧ x19 ≤ x6 + 0) (d2 : x17 + 0 ≤ x18 ∧ x18 ≤ x17 + 9936) (d3 : x4 + (-207) ≤ x18 ∧ x18 ≤ x4 + 207) (d4 : x14 + 0 ≤ x15 ∧ x15 ≤ x14 + 1056) (d5 : x12 + (-1) ≤ x15 ∧ x15 ≤ x12 + 1055) (d6 : x9 + (-24) ≤ x15 ∧ x15 ≤ x9 + 1055) (d7 : x3 + (-24) ≤ x15 ∧ x15 ≤ x3 + 22) (d8 : x12 + (-1) ≤ x14 ∧ x14 ≤ x12 + (-1)) (d9 : x9 + (-24) ≤ x14 ∧ x14 ≤ x9 + (-1)) (d10 : x9 + (-23) ≤ x12 ∧ x12 ≤ x9 + 0) (d11 : x6 + (-4294967296) ≤ x5 ∧ x5 ≤ x6 + (-1)) (f0 : x19 = x5 + 1) (f1 : x18 = x4 + x17) (f2 : x17 = x16 * x12) (f3 : x15 = x3 + x14) (f4 : x14 = x12 - x13) (f5 : x12 = x9 - x11) (h6 : x11 = spot_0 (x10)) (f7 : FRO (r_0) (all_0) (turned_0) (x5) (x10)) (h9 : x9 = spot_0 (x8)) (f10 : TOO (r_0) (all_0) (turned_0) (x5) (x8)) (f11 : x5 < x6) (f12 : 1 * x6 + ((-1) * all_0 (r_0 + 1) + 0) ≤ 0) (f13 : (-1) * x6 + (1 * all_0 (r_0 + 1) + 0) ≤ 0) (f14 : PTB (permBegin_0) (permMany_0) (perm_0)) (f15 : SGR (r_0) (all_0)) (f16 : 1 ≤ all_0 (r_0)) (f17 : x5 ≤ all_0 ((r_0 + 1))) (f18 : LYP (r_0) (all_0) (turned_0) (spot_0)) (f19 : ILX (r_0) (all_0) (itemLayer_0) (spot_0)) (f20 : x2 = all_0 (r_0)) (f21 : JNT (r_0) (all_0) (turned_0) (spot_0) (x5) (x3)) (f22 : (0 ≤ x3) ∧ (x3 ≤ (22 * x5))) (f23 : (0 ≤ x4) ∧ (x4 ≤ (207 * x5))) (hK_0_82 : ∀ j : Int, 0 ≤ j → j < 76 → 0 ≤ spot_0 j ∧ spot_0 j ≤ 221100000) (hK_0_95 : ∀ j : Int, 0 ≤ j → j < 48 → 0 ≤ turned_0 j ∧ turned_0 j ≤ 1) (hK_0_102 : ∀ j : Int, 0 ≤ j → j < 76 → 0 ≤ itemLayer_0 j ∧ itemLayer_0 j ≤ 75) (hK_0_110 : ∀ j : Int, 0 ≤ j → j < 8 → 0 ≤ permBegin_0 j ∧ permBegin_0 j ≤ 5500) (hK_0_111 : ∀ j : Int, 0 ≤ j → j < 8 → 0 ≤ permMany_0 j ∧ permMany_0 j ≤ 720) (hK_0_112 : ∀ j : Int, 0 ≤ j → j < 6000 → 0 ≤ perm_0 j ∧ perm_0 j ≤ 5) : x19 ≤ all_0 ((r_0 + 1)) := by
  try simp only [Int.add_zero] at *
  first
    | omega
    | (have h := ‹SGR _ _›.1; omega)
    | (have h := lyp_d (e := x5) (a := x10) (b := x8) (ya := x11) (yb := x9) ‹LYP _ _ _ _› (by omega) (by omega) (by assumption) (by assumption) (by assumption) (by assumption)
       have q := Int.mul_le_mul (show x16 ≤ 9 by omega) (show x12 ≤ 23 by omega) (by omega) (by omega)
       have q0 := Int.mul_nonneg (show 0 ≤ x16 by omega) (show 0 ≤ x12 by omega)
       omega)
set_option maxHeartbeats 4000000 in
theorem vc_Mo_layers_15_1 (x2 : Int) (x3 : Int) (x4 : Int) (x5 : Int) (x6 : Int) (x8 : Int) (x9 : Int) (x10 : Int) (x11 : Int) (x12 : Int) (x13 : Int) (x14 : Int) (x15 : Int) (x16 : Int) (x17 : Int) (x18 : Int) (x19 : Int) (spot_0 : Int → Int) (all_0 : Int → Int) (turned_0 : Int → Int) (r_0 : Int) (permBegin_0 : Int → Int) (permMany_0 : Int → Int) (perm_0 : Int → Int) (itemLayer_0 : Int → Int) (k2 : 0 ≤ x2 ∧ x2 ≤ 24) (k3 : 0 ≤ x3 ∧ x3 ≤ 1056) (k4 : 0 ≤ x4 ∧ x4 ≤ 9936) (k5 : 0 ≤ x5 ∧ x5 ≤ 47) (k6 : 1 ≤ x6 ∧ x6 ≤ 48) (k8 : 0 ≤ x8 ∧ x8 ≤ 23) (k9 : 0 ≤ x9 ∧ x9 ≤ 23) (k10 : 0 ≤ x10 ∧ x10 ≤ 23) (k11 : 0 ≤ x11 ∧ x11 ≤ 23) (k12 : (-23) ≤ x12 ∧ x12 ≤ 23) (k13 : 1 ≤ x13 ∧ x13 ≤ 1) (k14 : (-24) ≤ x14 ∧ x14 ≤ 22) (k15 : 0 ≤ x15 ∧ x15 ≤ 1056) (k16 : 0 ≤ x16 ∧ x16 ≤ 9) (k17 : (-207) ≤ x17 ∧ x17 ≤ 207) (k18 : 0 ≤ x18 ∧ x18 ≤ 9936) (k19 : 1 ≤ x19 ∧ x19 ≤ 48) (d0 : x5 + 1 ≤ x19 ∧ x19 ≤ x5 + 1) (d1 : x6 + (-4294967296) ≤ x19 ∧ x19 ≤ x6 + 0) (d2 : x17 + 0 ≤ x18 ∧ x18 ≤ x17 + 9936) (d3 : x4 + (-207) ≤ x18 ∧ x18 ≤ x4 + 207) (d4 : x14 + 0 ≤ x15 ∧ x15 ≤ x14 + 1056) (d5 : x12 + (-1) ≤ x15 ∧ x15 ≤ x12 + 1055) (d6 : x9 + (-24) ≤ x15 ∧ x15 ≤ x9 + 1055) (d7 : x3 + (-24) ≤ x15 ∧ x15 ≤ x3 + 22) (d8 : x12 + (-1) ≤ x14 ∧ x14 ≤ x12 + (-1)) (d9 : x9 + (-24) ≤ x14 ∧ x14 ≤ x9 + (-1)) (d10 : x9 + (-23) ≤ x12 ∧ x12 ≤ x9 + 0) (d11 : x6 + (-4294967296) ≤ x5 ∧ x5 ≤ x6 + (-1)) (f0 : x19 = x5 + 1) (f1 : x18 = x4 + x17) (f2 : x17 = x16 * x12) (f3 : x15 = x3 + x14) (f4 : x14 = x12 - x13) (f5 : x12 = x9 - x11) (h6 : x11 = spot_0 (x10)) (f7 : FRO (r_0) (all_0) (turned_0) (x5) (x10)) (h9 : x9 = spot_0 (x8)) (f10 : TOO (r_0) (all_0) (turned_0) (x5) (x8)) (f11 : x5 < x6) (f12 : 1 * x6 + ((-1) * all_0 (r_0 + 1) + 0) ≤ 0) (f13 : (-1) * x6 + (1 * all_0 (r_0 + 1) + 0) ≤ 0) (f14 : PTB (permBegin_0) (permMany_0) (perm_0)) (f15 : SGR (r_0) (all_0)) (f16 : 1 ≤ all_0 (r_0)) (f17 : x5 ≤ all_0 ((r_0 + 1))) (f18 : LYP (r_0) (all_0) (turned_0) (spot_0)) (f19 : ILX (r_0) (all_0) (itemLayer_0) (spot_0)) (f20 : x2 = all_0 (r_0)) (f21 : JNT (r_0) (all_0) (turned_0) (spot_0) (x5) (x3)) (f22 : (0 ≤ x3) ∧ (x3 ≤ (22 * x5))) (f23 : (0 ≤ x4) ∧ (x4 ≤ (207 * x5))) (hK_0_82 : ∀ j : Int, 0 ≤ j → j < 76 → 0 ≤ spot_0 j ∧ spot_0 j ≤ 221100000) (hK_0_95 : ∀ j : Int, 0 ≤ j → j < 48 → 0 ≤ turned_0 j ∧ turned_0 j ≤ 1) (hK_0_102 : ∀ j : Int, 0 ≤ j → j < 76 → 0 ≤ itemLayer_0 j ∧ itemLayer_0 j ≤ 75) (hK_0_110 : ∀ j : Int, 0 ≤ j → j < 8 → 0 ≤ permBegin_0 j ∧ permBegin_0 j ≤ 5500) (hK_0_111 : ∀ j : Int, 0 ≤ j → j < 8 → 0 ≤ permMany_0 j ∧ permMany_0 j ≤ 720) (hK_0_112 : ∀ j : Int, 0 ≤ j → j < 6000 → 0 ≤ perm_0 j ∧ perm_0 j ≤ 5) : JNT (r_0) (all_0) (turned_0) (spot_0) (x19) (x15) := by
  first
    | exact jnt_zero (by omega) (by omega)
    | exact jnt_step (a := x10) (b := x8) (ya := x11) (yb := x9) (d := x12) ‹JNT _ _ _ _ _ _› (by omega) (by assumption) (by assumption) (by assumption) (by assumption) (by assumption) (by assumption) (by omega)
set_option maxHeartbeats 4000000 in
theorem vc_Mo_layers_15_2 (x2 : Int) (x3 : Int) (x4 : Int) (x5 : Int) (x6 : Int) (x8 : Int) (x9 : Int) (x10 : Int) (x11 : Int) (x12 : Int) (x13 : Int) (x14 : Int) (x15 : Int) (x16 : Int) (x17 : Int) (x18 : Int) (x19 : Int) (spot_0 : Int → Int) (all_0 : Int → Int) (turned_0 : Int → Int) (r_0 : Int) (permBegin_0 : Int → Int) (permMany_0 : Int → Int) (perm_0 : Int → Int) (itemLayer_0 : Int → Int) (k2 : 0 ≤ x2 ∧ x2 ≤ 24) (k3 : 0 ≤ x3 ∧ x3 ≤ 1056) (k4 : 0 ≤ x4 ∧ x4 ≤ 9936) (k5 : 0 ≤ x5 ∧ x5 ≤ 47) (k6 : 1 ≤ x6 ∧ x6 ≤ 48) (k8 : 0 ≤ x8 ∧ x8 ≤ 23) (k9 : 0 ≤ x9 ∧ x9 ≤ 23) (k10 : 0 ≤ x10 ∧ x10 ≤ 23) (k11 : 0 ≤ x11 ∧ x11 ≤ 23) (k12 : (-23) ≤ x12 ∧ x12 ≤ 23) (k13 : 1 ≤ x13 ∧ x13 ≤ 1) (k14 : (-24) ≤ x14 ∧ x14 ≤ 22) (k15 : 0 ≤ x15 ∧ x15 ≤ 1056) (k16 : 0 ≤ x16 ∧ x16 ≤ 9) (k17 : (-207) ≤ x17 ∧ x17 ≤ 207) (k18 : 0 ≤ x18 ∧ x18 ≤ 9936) (k19 : 1 ≤ x19 ∧ x19 ≤ 48) (d0 : x5 + 1 ≤ x19 ∧ x19 ≤ x5 + 1) (d1 : x6 + (-4294967296) ≤ x19 ∧ x19 ≤ x6 + 0) (d2 : x17 + 0 ≤ x18 ∧ x18 ≤ x17 + 9936) (d3 : x4 + (-207) ≤ x18 ∧ x18 ≤ x4 + 207) (d4 : x14 + 0 ≤ x15 ∧ x15 ≤ x14 + 1056) (d5 : x12 + (-1) ≤ x15 ∧ x15 ≤ x12 + 1055) (d6 : x9 + (-24) ≤ x15 ∧ x15 ≤ x9 + 1055) (d7 : x3 + (-24) ≤ x15 ∧ x15 ≤ x3 + 22) (d8 : x12 + (-1) ≤ x14 ∧ x14 ≤ x12 + (-1)) (d9 : x9 + (-24) ≤ x14 ∧ x14 ≤ x9 + (-1)) (d10 : x9 + (-23) ≤ x12 ∧ x12 ≤ x9 + 0) (d11 : x6 + (-4294967296) ≤ x5 ∧ x5 ≤ x6 + (-1)) (f0 : x19 = x5 + 1) (f1 : x18 = x4 + x17) (f2 : x17 = x16 * x12) (f3 : x15 = x3 + x14) (f4 : x14 = x12 - x13) (f5 : x12 = x9 - x11) (h6 : x11 = spot_0 (x10)) (f7 : FRO (r_0) (all_0) (turned_0) (x5) (x10)) (h9 : x9 = spot_0 (x8)) (f10 : TOO (r_0) (all_0) (turned_0) (x5) (x8)) (f11 : x5 < x6) (f12 : 1 * x6 + ((-1) * all_0 (r_0 + 1) + 0) ≤ 0) (f13 : (-1) * x6 + (1 * all_0 (r_0 + 1) + 0) ≤ 0) (f14 : PTB (permBegin_0) (permMany_0) (perm_0)) (f15 : SGR (r_0) (all_0)) (f16 : 1 ≤ all_0 (r_0)) (f17 : x5 ≤ all_0 ((r_0 + 1))) (f18 : LYP (r_0) (all_0) (turned_0) (spot_0)) (f19 : ILX (r_0) (all_0) (itemLayer_0) (spot_0)) (f20 : x2 = all_0 (r_0)) (f21 : JNT (r_0) (all_0) (turned_0) (spot_0) (x5) (x3)) (f22 : (0 ≤ x3) ∧ (x3 ≤ (22 * x5))) (f23 : (0 ≤ x4) ∧ (x4 ≤ (207 * x5))) (hK_0_82 : ∀ j : Int, 0 ≤ j → j < 76 → 0 ≤ spot_0 j ∧ spot_0 j ≤ 221100000) (hK_0_95 : ∀ j : Int, 0 ≤ j → j < 48 → 0 ≤ turned_0 j ∧ turned_0 j ≤ 1) (hK_0_102 : ∀ j : Int, 0 ≤ j → j < 76 → 0 ≤ itemLayer_0 j ∧ itemLayer_0 j ≤ 75) (hK_0_110 : ∀ j : Int, 0 ≤ j → j < 8 → 0 ≤ permBegin_0 j ∧ permBegin_0 j ≤ 5500) (hK_0_111 : ∀ j : Int, 0 ≤ j → j < 8 → 0 ≤ permMany_0 j ∧ permMany_0 j ≤ 720) (hK_0_112 : ∀ j : Int, 0 ≤ j → j < 6000 → 0 ≤ perm_0 j ∧ perm_0 j ≤ 5) : (0 ≤ x15) ∧ (x15 ≤ (22 * x19)) := by
  try simp only [Int.add_zero] at *
  first
    | omega
    | (have h := ‹SGR _ _›.1; omega)
    | (have h := lyp_d (e := x5) (a := x10) (b := x8) (ya := x11) (yb := x9) ‹LYP _ _ _ _› (by omega) (by omega) (by assumption) (by assumption) (by assumption) (by assumption)
       have q := Int.mul_le_mul (show x16 ≤ 9 by omega) (show x12 ≤ 23 by omega) (by omega) (by omega)
       have q0 := Int.mul_nonneg (show 0 ≤ x16 by omega) (show 0 ≤ x12 by omega)
       omega)
set_option maxHeartbeats 4000000 in
theorem vc_Mo_layers_15_3 (x2 : Int) (x3 : Int) (x4 : Int) (x5 : Int) (x6 : Int) (x8 : Int) (x9 : Int) (x10 : Int) (x11 : Int) (x12 : Int) (x13 : Int) (x14 : Int) (x15 : Int) (x16 : Int) (x17 : Int) (x18 : Int) (x19 : Int) (spot_0 : Int → Int) (all_0 : Int → Int) (turned_0 : Int → Int) (r_0 : Int) (permBegin_0 : Int → Int) (permMany_0 : Int → Int) (perm_0 : Int → Int) (itemLayer_0 : Int → Int) (k2 : 0 ≤ x2 ∧ x2 ≤ 24) (k3 : 0 ≤ x3 ∧ x3 ≤ 1056) (k4 : 0 ≤ x4 ∧ x4 ≤ 9936) (k5 : 0 ≤ x5 ∧ x5 ≤ 47) (k6 : 1 ≤ x6 ∧ x6 ≤ 48) (k8 : 0 ≤ x8 ∧ x8 ≤ 23) (k9 : 0 ≤ x9 ∧ x9 ≤ 23) (k10 : 0 ≤ x10 ∧ x10 ≤ 23) (k11 : 0 ≤ x11 ∧ x11 ≤ 23) (k12 : (-23) ≤ x12 ∧ x12 ≤ 23) (k13 : 1 ≤ x13 ∧ x13 ≤ 1) (k14 : (-24) ≤ x14 ∧ x14 ≤ 22) (k15 : 0 ≤ x15 ∧ x15 ≤ 1056) (k16 : 0 ≤ x16 ∧ x16 ≤ 9) (k17 : (-207) ≤ x17 ∧ x17 ≤ 207) (k18 : 0 ≤ x18 ∧ x18 ≤ 9936) (k19 : 1 ≤ x19 ∧ x19 ≤ 48) (d0 : x5 + 1 ≤ x19 ∧ x19 ≤ x5 + 1) (d1 : x6 + (-4294967296) ≤ x19 ∧ x19 ≤ x6 + 0) (d2 : x17 + 0 ≤ x18 ∧ x18 ≤ x17 + 9936) (d3 : x4 + (-207) ≤ x18 ∧ x18 ≤ x4 + 207) (d4 : x14 + 0 ≤ x15 ∧ x15 ≤ x14 + 1056) (d5 : x12 + (-1) ≤ x15 ∧ x15 ≤ x12 + 1055) (d6 : x9 + (-24) ≤ x15 ∧ x15 ≤ x9 + 1055) (d7 : x3 + (-24) ≤ x15 ∧ x15 ≤ x3 + 22) (d8 : x12 + (-1) ≤ x14 ∧ x14 ≤ x12 + (-1)) (d9 : x9 + (-24) ≤ x14 ∧ x14 ≤ x9 + (-1)) (d10 : x9 + (-23) ≤ x12 ∧ x12 ≤ x9 + 0) (d11 : x6 + (-4294967296) ≤ x5 ∧ x5 ≤ x6 + (-1)) (f0 : x19 = x5 + 1) (f1 : x18 = x4 + x17) (f2 : x17 = x16 * x12) (f3 : x15 = x3 + x14) (f4 : x14 = x12 - x13) (f5 : x12 = x9 - x11) (h6 : x11 = spot_0 (x10)) (f7 : FRO (r_0) (all_0) (turned_0) (x5) (x10)) (h9 : x9 = spot_0 (x8)) (f10 : TOO (r_0) (all_0) (turned_0) (x5) (x8)) (f11 : x5 < x6) (f12 : 1 * x6 + ((-1) * all_0 (r_0 + 1) + 0) ≤ 0) (f13 : (-1) * x6 + (1 * all_0 (r_0 + 1) + 0) ≤ 0) (f14 : PTB (permBegin_0) (permMany_0) (perm_0)) (f15 : SGR (r_0) (all_0)) (f16 : 1 ≤ all_0 (r_0)) (f17 : x5 ≤ all_0 ((r_0 + 1))) (f18 : LYP (r_0) (all_0) (turned_0) (spot_0)) (f19 : ILX (r_0) (all_0) (itemLayer_0) (spot_0)) (f20 : x2 = all_0 (r_0)) (f21 : JNT (r_0) (all_0) (turned_0) (spot_0) (x5) (x3)) (f22 : (0 ≤ x3) ∧ (x3 ≤ (22 * x5))) (f23 : (0 ≤ x4) ∧ (x4 ≤ (207 * x5))) (hK_0_82 : ∀ j : Int, 0 ≤ j → j < 76 → 0 ≤ spot_0 j ∧ spot_0 j ≤ 221100000) (hK_0_95 : ∀ j : Int, 0 ≤ j → j < 48 → 0 ≤ turned_0 j ∧ turned_0 j ≤ 1) (hK_0_102 : ∀ j : Int, 0 ≤ j → j < 76 → 0 ≤ itemLayer_0 j ∧ itemLayer_0 j ≤ 75) (hK_0_110 : ∀ j : Int, 0 ≤ j → j < 8 → 0 ≤ permBegin_0 j ∧ permBegin_0 j ≤ 5500) (hK_0_111 : ∀ j : Int, 0 ≤ j → j < 8 → 0 ≤ permMany_0 j ∧ permMany_0 j ≤ 720) (hK_0_112 : ∀ j : Int, 0 ≤ j → j < 6000 → 0 ≤ perm_0 j ∧ perm_0 j ≤ 5) : (0 ≤ x18) ∧ (x18 ≤ (207 * x19)) := by
  try simp only [Int.add_zero] at *
  first
    | omega
    | (have h := ‹SGR _ _›.1; omega)
    | (have h := lyp_d (e := x5) (a := x10) (b := x8) (ya := x11) (yb := x9) ‹LYP _ _ _ _› (by omega) (by omega) (by assumption) (by assumption) (by assumption) (by assumption)
       have q := Int.mul_le_mul (show x16 ≤ 9 by omega) (show x12 ≤ 23 by omega) (by omega) (by omega)
       have q0 := Int.mul_nonneg (show 0 ≤ x16 by omega) (show 0 ≤ x12 by omega)
       omega)
def o_Mo_layers_15 : or_T := (119, 20, [(0, (2, 0, 0, [150])), (2, (0, 0, 24, [])), (3, (0, 0, 1056, [])), (4, (0, 0, 9936, [])), (5, (0, 0, 47, [])), (6, (0, 1, 48, [])), (7, (2, 0, 0, [204])), (8, (0, 0, 23, [])), (9, (0, 0, 23, [])), (10, (0, 0, 23, [])), (11, (0, 0, 23, [])), (12, (0, -23, 23, [])), (13, (0, 1, 1, [])), (14, (0, -24, 22, [])), (15, (0, 0, 1056, [])), (16, (0, 0, 9, [])), (17, (0, -207, 207, [])), (18, (0, 0, 9936, [])), (19, (0, 1, 48, []))], [(6, [19, 5], [1]), (1, [18, 4, 17], []), (3, [17, 16, 12], []), (1, [15, 3, 14], []), (2, [14, 12, 13], []), (2, [12, 9, 11], []), (10, [11, 7, 10], []), (20, [0, 5, 10], [60, 1, 2, 356, 5, 2, 95]), (9, [7, 0], [82]), (10, [9, 7, 8], []), (20, [0, 5, 8], [60, 1, 2, 357, 5, 2, 95]), (7, [5, 6], [2]), (20, [6, 0], [30, 0, 1, 0, 0, -1, 3, 2005001]), (20, [6, 0], [30, 0, -1, 0, 0, 1, 3, 2005001]), (20, [0], [60, 0, 3, 291, 110, 111, 112]), (20, [0], [60, 1, 1, 122, 5, 2]), (20, [0], [50, 1, 1, 5, 2, 0, 2, 0, 1, 3, 0, 2, 2, 0, 5]), (20, [5, 0], [50, 1, 1, 1005, 1002, 0, 2, 1, 0, 3, 1, 2, 4, 3, 2, 1, 5, 0, 1]), (20, [0], [60, 1, 3, 359, 5, 2, 95, 82]), (20, [0], [60, 1, 3, 416, 5, 2, 102, 82]), (20, [2, 0], [50, 1, 1, 1005, 1002, 1, 2, 1, 0, 3, 1, 2, 2, 1, 5]), (20, [0, 5, 3], [60, 1, 3, 361, 5, 2, 95, 82]), (20, [3, 5], [50, 0, 0, 2, 6, 0, 2, 0, 0, 1, 0, 0, 2, 1, 0, 6, 2, 0, 22, 1, 1]), (20, [4, 5], [50, 0, 0, 2, 6, 0, 2, 0, 0, 1, 0, 0, 2, 1, 0, 6, 2, 0, 207, 1, 1])], [], [], [(20, [19, 0], [50, 1, 1, 1005, 1002, 0, 2, 1, 0, 3, 1, 2, 4, 3, 2, 1, 5, 0, 1]), (20, [0, 19, 15], [60, 1, 3, 361, 5, 2, 95, 82]), (20, [15, 19], [50, 0, 0, 2, 6, 0, 2, 0, 0, 1, 0, 0, 2, 1, 0, 6, 2, 0, 22, 1, 1]), (20, [18, 19], [50, 0, 0, 2, 6, 0, 2, 0, 0, 1, 0, 0, 2, 1, 0, 6, 2, 0, 207, 1, 1])], [], [(19, 5, 1, 1), (19, 6, -4294967296, 0), (18, 17, 0, 9936), (18, 4, -207, 207), (15, 14, 0, 1056), (15, 12, -1, 1055), (15, 9, -24, 1055), (15, 3, -24, 22), (14, 12, -1, -1), (14, 9, -24, -1), (12, 9, -23, 0), (5, 6, -4294967296, -1)])
theorem oo_Mo_layers_15 {kA : Nat → ClassId} : or_ok PRD kA GG o_Mo_layers_15 := by
  intro A ta ws vs hD hth hl hk hds hf
  have hl : vs.length = 20 := hl
  have hk : ∀ q ∈ ([(0, (2, 0, 0, [150])), (2, (0, 0, 24, [])), (3, (0, 0, 1056, [])), (4, (0, 0, 9936, [])), (5, (0, 0, 47, [])), (6, (0, 1, 48, [])), (7, (2, 0, 0, [204])), (8, (0, 0, 23, [])), (9, (0, 0, 23, [])), (10, (0, 0, 23, [])), (11, (0, 0, 23, [])), (12, (0, -23, 23, [])), (13, (0, 1, 1, [])), (14, (0, -24, 22, [])), (15, (0, 0, 1056, [])), (16, (0, 0, 9, [])), (17, (0, -207, 207, [])), (18, (0, 0, 9936, [])), (19, (0, 1, 48, []))] : List (Nat × tv_T)), tv_ok ta q.2 (n_v vs q.1) := hk
  obtain ⟨t0, hk⟩ := List.forall_mem_cons.mp hk
  have t0 : tv_ok ta (2, 0, 0, [150]) (n_v vs 0) := t0
  have r0 : ta (v_ad (n_v vs 0)) = some 150 := tv_rg t0
  obtain ⟨t2, hk⟩ := List.forall_mem_cons.mp hk
  have t2 : tv_ok ta (0, 0, 24, []) (n_v vs 2) := t2
  have k2 : 0 ≤ v_iv (n_v vs 2) ∧ v_iv (n_v vs 2) ≤ 24 := tv_rng t2
  obtain ⟨t3, hk⟩ := List.forall_mem_cons.mp hk
  have t3 : tv_ok ta (0, 0, 1056, []) (n_v vs 3) := t3
  have k3 : 0 ≤ v_iv (n_v vs 3) ∧ v_iv (n_v vs 3) ≤ 1056 := tv_rng t3
  obtain ⟨t4, hk⟩ := List.forall_mem_cons.mp hk
  have t4 : tv_ok ta (0, 0, 9936, []) (n_v vs 4) := t4
  have k4 : 0 ≤ v_iv (n_v vs 4) ∧ v_iv (n_v vs 4) ≤ 9936 := tv_rng t4
  obtain ⟨t5, hk⟩ := List.forall_mem_cons.mp hk
  have t5 : tv_ok ta (0, 0, 47, []) (n_v vs 5) := t5
  have k5 : 0 ≤ v_iv (n_v vs 5) ∧ v_iv (n_v vs 5) ≤ 47 := tv_rng t5
  obtain ⟨t6, hk⟩ := List.forall_mem_cons.mp hk
  have t6 : tv_ok ta (0, 1, 48, []) (n_v vs 6) := t6
  have k6 : 1 ≤ v_iv (n_v vs 6) ∧ v_iv (n_v vs 6) ≤ 48 := tv_rng t6
  obtain ⟨t7, hk⟩ := List.forall_mem_cons.mp hk
  have t7 : tv_ok ta (2, 0, 0, [204]) (n_v vs 7) := t7
  have r7 : ta (v_ad (n_v vs 7)) = some 204 := tv_rg t7
  obtain ⟨t8, hk⟩ := List.forall_mem_cons.mp hk
  have t8 : tv_ok ta (0, 0, 23, []) (n_v vs 8) := t8
  have k8 : 0 ≤ v_iv (n_v vs 8) ∧ v_iv (n_v vs 8) ≤ 23 := tv_rng t8
  obtain ⟨t9, hk⟩ := List.forall_mem_cons.mp hk
  have t9 : tv_ok ta (0, 0, 23, []) (n_v vs 9) := t9
  have k9 : 0 ≤ v_iv (n_v vs 9) ∧ v_iv (n_v vs 9) ≤ 23 := tv_rng t9
  obtain ⟨t10, hk⟩ := List.forall_mem_cons.mp hk
  have t10 : tv_ok ta (0, 0, 23, []) (n_v vs 10) := t10
  have k10 : 0 ≤ v_iv (n_v vs 10) ∧ v_iv (n_v vs 10) ≤ 23 := tv_rng t10
  obtain ⟨t11, hk⟩ := List.forall_mem_cons.mp hk
  have t11 : tv_ok ta (0, 0, 23, []) (n_v vs 11) := t11
  have k11 : 0 ≤ v_iv (n_v vs 11) ∧ v_iv (n_v vs 11) ≤ 23 := tv_rng t11
  obtain ⟨t12, hk⟩ := List.forall_mem_cons.mp hk
  have t12 : tv_ok ta (0, -23, 23, []) (n_v vs 12) := t12
  have k12 : (-23) ≤ v_iv (n_v vs 12) ∧ v_iv (n_v vs 12) ≤ 23 := tv_rng t12
  obtain ⟨t13, hk⟩ := List.forall_mem_cons.mp hk
  have t13 : tv_ok ta (0, 1, 1, []) (n_v vs 13) := t13
  have k13 : 1 ≤ v_iv (n_v vs 13) ∧ v_iv (n_v vs 13) ≤ 1 := tv_rng t13
  obtain ⟨t14, hk⟩ := List.forall_mem_cons.mp hk
  have t14 : tv_ok ta (0, -24, 22, []) (n_v vs 14) := t14
  have k14 : (-24) ≤ v_iv (n_v vs 14) ∧ v_iv (n_v vs 14) ≤ 22 := tv_rng t14
  obtain ⟨t15, hk⟩ := List.forall_mem_cons.mp hk
  have t15 : tv_ok ta (0, 0, 1056, []) (n_v vs 15) := t15
  have k15 : 0 ≤ v_iv (n_v vs 15) ∧ v_iv (n_v vs 15) ≤ 1056 := tv_rng t15
  obtain ⟨t16, hk⟩ := List.forall_mem_cons.mp hk
  have t16 : tv_ok ta (0, 0, 9, []) (n_v vs 16) := t16
  have k16 : 0 ≤ v_iv (n_v vs 16) ∧ v_iv (n_v vs 16) ≤ 9 := tv_rng t16
  obtain ⟨t17, hk⟩ := List.forall_mem_cons.mp hk
  have t17 : tv_ok ta (0, -207, 207, []) (n_v vs 17) := t17
  have k17 : (-207) ≤ v_iv (n_v vs 17) ∧ v_iv (n_v vs 17) ≤ 207 := tv_rng t17
  obtain ⟨t18, hk⟩ := List.forall_mem_cons.mp hk
  have t18 : tv_ok ta (0, 0, 9936, []) (n_v vs 18) := t18
  have k18 : 0 ≤ v_iv (n_v vs 18) ∧ v_iv (n_v vs 18) ≤ 9936 := tv_rng t18
  obtain ⟨t19, hk⟩ := List.forall_mem_cons.mp hk
  have t19 : tv_ok ta (0, 1, 48, []) (n_v vs 19) := t19
  have k19 : 1 ≤ v_iv (n_v vs 19) ∧ v_iv (n_v vs 19) ≤ 48 := tv_rng t19
  have hds : ∀ q ∈ ([(19, 5, 1, 1), (19, 6, -4294967296, 0), (18, 17, 0, 9936), (18, 4, -207, 207), (15, 14, 0, 1056), (15, 12, -1, 1055), (15, 9, -24, 1055), (15, 3, -24, 22), (14, 12, -1, -1), (14, 9, -24, -1), (12, 9, -23, 0), (5, 6, -4294967296, -1)] : List of_T), n_iv vs q.2.1 + q.2.2.1 ≤ n_iv vs q.1 ∧ n_iv vs q.1 ≤ n_iv vs q.2.1 + q.2.2.2 := hds
  obtain ⟨d0, hds⟩ := List.forall_mem_cons.mp hds
  have d0 : v_iv (n_v vs 5) + 1 ≤ v_iv (n_v vs 19) ∧ v_iv (n_v vs 19) ≤ v_iv (n_v vs 5) + 1 := d0
  obtain ⟨d1, hds⟩ := List.forall_mem_cons.mp hds
  have d1 : v_iv (n_v vs 6) + (-4294967296) ≤ v_iv (n_v vs 19) ∧ v_iv (n_v vs 19) ≤ v_iv (n_v vs 6) + 0 := d1
  obtain ⟨d2, hds⟩ := List.forall_mem_cons.mp hds
  have d2 : v_iv (n_v vs 17) + 0 ≤ v_iv (n_v vs 18) ∧ v_iv (n_v vs 18) ≤ v_iv (n_v vs 17) + 9936 := d2
  obtain ⟨d3, hds⟩ := List.forall_mem_cons.mp hds
  have d3 : v_iv (n_v vs 4) + (-207) ≤ v_iv (n_v vs 18) ∧ v_iv (n_v vs 18) ≤ v_iv (n_v vs 4) + 207 := d3
  obtain ⟨d4, hds⟩ := List.forall_mem_cons.mp hds
  have d4 : v_iv (n_v vs 14) + 0 ≤ v_iv (n_v vs 15) ∧ v_iv (n_v vs 15) ≤ v_iv (n_v vs 14) + 1056 := d4
  obtain ⟨d5, hds⟩ := List.forall_mem_cons.mp hds
  have d5 : v_iv (n_v vs 12) + (-1) ≤ v_iv (n_v vs 15) ∧ v_iv (n_v vs 15) ≤ v_iv (n_v vs 12) + 1055 := d5
  obtain ⟨d6, hds⟩ := List.forall_mem_cons.mp hds
  have d6 : v_iv (n_v vs 9) + (-24) ≤ v_iv (n_v vs 15) ∧ v_iv (n_v vs 15) ≤ v_iv (n_v vs 9) + 1055 := d6
  obtain ⟨d7, hds⟩ := List.forall_mem_cons.mp hds
  have d7 : v_iv (n_v vs 3) + (-24) ≤ v_iv (n_v vs 15) ∧ v_iv (n_v vs 15) ≤ v_iv (n_v vs 3) + 22 := d7
  obtain ⟨d8, hds⟩ := List.forall_mem_cons.mp hds
  have d8 : v_iv (n_v vs 12) + (-1) ≤ v_iv (n_v vs 14) ∧ v_iv (n_v vs 14) ≤ v_iv (n_v vs 12) + (-1) := d8
  obtain ⟨d9, hds⟩ := List.forall_mem_cons.mp hds
  have d9 : v_iv (n_v vs 9) + (-24) ≤ v_iv (n_v vs 14) ∧ v_iv (n_v vs 14) ≤ v_iv (n_v vs 9) + (-1) := d9
  obtain ⟨d10, hds⟩ := List.forall_mem_cons.mp hds
  have d10 : v_iv (n_v vs 9) + (-23) ≤ v_iv (n_v vs 12) ∧ v_iv (n_v vs 12) ≤ v_iv (n_v vs 9) + 0 := d10
  obtain ⟨d11, hds⟩ := List.forall_mem_cons.mp hds
  have d11 : v_iv (n_v vs 6) + (-4294967296) ≤ v_iv (n_v vs 5) ∧ v_iv (n_v vs 5) ≤ v_iv (n_v vs 6) + (-1) := d11
  have hf : fc_ok PRD [(6, [19, 5], [1]), (1, [18, 4, 17], []), (3, [17, 16, 12], []), (1, [15, 3, 14], []), (2, [14, 12, 13], []), (2, [12, 9, 11], []), (10, [11, 7, 10], []), (20, [0, 5, 10], [60, 1, 2, 356, 5, 2, 95]), (9, [7, 0], [82]), (10, [9, 7, 8], []), (20, [0, 5, 8], [60, 1, 2, 357, 5, 2, 95]), (7, [5, 6], [2]), (20, [6, 0], [30, 0, 1, 0, 0, -1, 3, 2005001]), (20, [6, 0], [30, 0, -1, 0, 0, 1, 3, 2005001]), (20, [0], [60, 0, 3, 291, 110, 111, 112]), (20, [0], [60, 1, 1, 122, 5, 2]), (20, [0], [50, 1, 1, 5, 2, 0, 2, 0, 1, 3, 0, 2, 2, 0, 5]), (20, [5, 0], [50, 1, 1, 1005, 1002, 0, 2, 1, 0, 3, 1, 2, 4, 3, 2, 1, 5, 0, 1]), (20, [0], [60, 1, 3, 359, 5, 2, 95, 82]), (20, [0], [60, 1, 3, 416, 5, 2, 102, 82]), (20, [2, 0], [50, 1, 1, 1005, 1002, 1, 2, 1, 0, 3, 1, 2, 2, 1, 5]), (20, [0, 5, 3], [60, 1, 3, 361, 5, 2, 95, 82]), (20, [3, 5], [50, 0, 0, 2, 6, 0, 2, 0, 0, 1, 0, 0, 2, 1, 0, 6, 2, 0, 22, 1, 1]), (20, [4, 5], [50, 0, 0, 2, 6, 0, 2, 0, 0, 1, 0, 0, 2, 1, 0, 6, 2, 0, 207, 1, 1])] ta ws vs := hf
  obtain ⟨f0, hf⟩ := fc_un (show (6 : Nat) < 100 from by decide) hf
  have f0 : v_iv (n_v vs 19) = v_iv (n_v vs 5) + 1 := f0
  obtain ⟨f1, hf⟩ := fc_un (show (1 : Nat) < 100 from by decide) hf
  have f1 : v_iv (n_v vs 18) = v_iv (n_v vs 4) + v_iv (n_v vs 17) := f1
  obtain ⟨f2, hf⟩ := fc_un (show (3 : Nat) < 100 from by decide) hf
  have f2 : v_iv (n_v vs 17) = v_iv (n_v vs 16) * v_iv (n_v vs 12) := f2
  obtain ⟨f3, hf⟩ := fc_un (show (1 : Nat) < 100 from by decide) hf
  have f3 : v_iv (n_v vs 15) = v_iv (n_v vs 3) + v_iv (n_v vs 14) := f3
  obtain ⟨f4, hf⟩ := fc_un (show (2 : Nat) < 100 from by decide) hf
  have f4 : v_iv (n_v vs 14) = v_iv (n_v vs 12) - v_iv (n_v vs 13) := f4
  obtain ⟨f5, hf⟩ := fc_un (show (2 : Nat) < 100 from by decide) hf
  have f5 : v_iv (n_v vs 12) = v_iv (n_v vs 9) - v_iv (n_v vs 11) := f5
  obtain ⟨f6, hf⟩ := fc_un (show (10 : Nat) < 100 from by decide) hf
  have f6 : v_iv (n_v vs 11) = w_el ws (v_ad (n_v vs 7)) (v_iv (n_v vs 10)).toNat := f6
  obtain ⟨f7, hf⟩ := fc_un (show (20 : Nat) < 100 from by decide) hf
  have f7 : FRO (w_fi ws (n_v vs 0) 5) (w_ei ws (w_ar ws (n_v vs 0) 2)) (w_ei ws (w_ar ws (n_v vs 0) 95)) (v_iv (n_v vs 5)) (v_iv (n_v vs 10)) := f7
  obtain ⟨f8, hf⟩ := fc_un (show (9 : Nat) < 100 from by decide) hf
  have f8 : n_v vs 7 = w_fd ws (v_ad (n_v vs 0)) 82 := f8
  obtain ⟨f9, hf⟩ := fc_un (show (10 : Nat) < 100 from by decide) hf
  have f9 : v_iv (n_v vs 9) = w_el ws (v_ad (n_v vs 7)) (v_iv (n_v vs 8)).toNat := f9
  obtain ⟨f10, hf⟩ := fc_un (show (20 : Nat) < 100 from by decide) hf
  have f10 : TOO (w_fi ws (n_v vs 0) 5) (w_ei ws (w_ar ws (n_v vs 0) 2)) (w_ei ws (w_ar ws (n_v vs 0) 95)) (v_iv (n_v vs 5)) (v_iv (n_v vs 8)) := f10
  obtain ⟨f11, hf⟩ := fc_un (show (7 : Nat) < 100 from by decide) hf
  have f11 : v_iv (n_v vs 5) < v_iv (n_v vs 6) := f11
  obtain ⟨f12, hf⟩ := fc_un (show (20 : Nat) < 100 from by decide) hf
  have f12 : 1 * v_iv (n_v vs 6) + ((-1) * w_el ws (w_ar ws (n_v vs 0) 2) (w_fi ws (n_v vs 0) 5 + 1).toNat + 0) ≤ 0 := f12
  obtain ⟨f13, hf⟩ := fc_un (show (20 : Nat) < 100 from by decide) hf
  have f13 : (-1) * v_iv (n_v vs 6) + (1 * w_el ws (w_ar ws (n_v vs 0) 2) (w_fi ws (n_v vs 0) 5 + 1).toNat + 0) ≤ 0 := f13
  obtain ⟨f14, hf⟩ := fc_un (show (20 : Nat) < 100 from by decide) hf
  have f14 : PTB (w_ei ws (w_ar ws (n_v vs 0) 110)) (w_ei ws (w_ar ws (n_v vs 0) 111)) (w_ei ws (w_ar ws (n_v vs 0) 112)) := f14
  obtain ⟨f15, hf⟩ := fc_un (show (20 : Nat) < 100 from by decide) hf
  have f15 : SGR (w_fi ws (n_v vs 0) 5) (w_ei ws (w_ar ws (n_v vs 0) 2)) := f15
  obtain ⟨f16, hf⟩ := fc_un (show (20 : Nat) < 100 from by decide) hf
  have f16 : 1 ≤ w_ei ws (w_ar ws (n_v vs 0) 2) (w_fi ws (n_v vs 0) 5) := f16
  obtain ⟨f17, hf⟩ := fc_un (show (20 : Nat) < 100 from by decide) hf
  have f17 : v_iv (n_v vs 5) ≤ w_ei ws (w_ar ws (n_v vs 0) 2) ((w_fi ws (n_v vs 0) 5 + 1)) := f17
  obtain ⟨f18, hf⟩ := fc_un (show (20 : Nat) < 100 from by decide) hf
  have f18 : LYP (w_fi ws (n_v vs 0) 5) (w_ei ws (w_ar ws (n_v vs 0) 2)) (w_ei ws (w_ar ws (n_v vs 0) 95)) (w_ei ws (w_ar ws (n_v vs 0) 82)) := f18
  obtain ⟨f19, hf⟩ := fc_un (show (20 : Nat) < 100 from by decide) hf
  have f19 : ILX (w_fi ws (n_v vs 0) 5) (w_ei ws (w_ar ws (n_v vs 0) 2)) (w_ei ws (w_ar ws (n_v vs 0) 102)) (w_ei ws (w_ar ws (n_v vs 0) 82)) := f19
  obtain ⟨f20, hf⟩ := fc_un (show (20 : Nat) < 100 from by decide) hf
  have f20 : v_iv (n_v vs 2) = w_ei ws (w_ar ws (n_v vs 0) 2) (w_fi ws (n_v vs 0) 5) := f20
  obtain ⟨f21, hf⟩ := fc_un (show (20 : Nat) < 100 from by decide) hf
  have f21 : JNT (w_fi ws (n_v vs 0) 5) (w_ei ws (w_ar ws (n_v vs 0) 2)) (w_ei ws (w_ar ws (n_v vs 0) 95)) (w_ei ws (w_ar ws (n_v vs 0) 82)) (v_iv (n_v vs 5)) (v_iv (n_v vs 3)) := f21
  obtain ⟨f22, hf⟩ := fc_un (show (20 : Nat) < 100 from by decide) hf
  have f22 : (0 ≤ v_iv (n_v vs 3)) ∧ (v_iv (n_v vs 3) ≤ (22 * v_iv (n_v vs 5))) := f22
  obtain ⟨f23, hf⟩ := fc_un (show (20 : Nat) < 100 from by decide) hf
  have f23 : (0 ≤ v_iv (n_v vs 4)) ∧ (v_iv (n_v vs 4) ≤ (207 * v_iv (n_v vs 5))) := f23
  have cr_0_2 : ta (w_ar ws (n_v vs 0) 2) = some 152 := tv_rg (th_fd hD hth r0 (g := GG_150) rfl (k := 2) (t := (2, 0, 0, [152])) rfl rfl)
  have cr_0_82 : ta (w_ar ws (n_v vs 0) 82) = some 204 := tv_rg (th_fd hD hth r0 (g := GG_150) rfl (k := 82) (t := (2, 0, 0, [204])) rfl rfl)
  have cr_0_95 : ta (w_ar ws (n_v vs 0) 95) = some 216 := tv_rg (th_fd hD hth r0 (g := GG_150) rfl (k := 95) (t := (2, 0, 0, [216])) rfl rfl)
  have cr_0_102 : ta (w_ar ws (n_v vs 0) 102) = some 220 := tv_rg (th_fd hD hth r0 (g := GG_150) rfl (k := 102) (t := (2, 0, 0, [220])) rfl rfl)
  have cr_0_110 : ta (w_ar ws (n_v vs 0) 110) = some 227 := tv_rg (th_fd hD hth r0 (g := GG_150) rfl (k := 110) (t := (2, 0, 0, [227])) rfl rfl)
  have cr_0_111 : ta (w_ar ws (n_v vs 0) 111) = some 228 := tv_rg (th_fd hD hth r0 (g := GG_150) rfl (k := 111) (t := (2, 0, 0, [228])) rfl rfl)
  have cr_0_112 : ta (w_ar ws (n_v vs 0) 112) = some 229 := tv_rg (th_fd hD hth r0 (g := GG_150) rfl (k := 112) (t := (2, 0, 0, [229])) rfl rfl)
  have ad_7 : v_ad (n_v vs 7) = w_ar ws (n_v vs 0) 82 := congrArg v_ad f8
  rw [ad_7] at f6
  have h6 : v_iv (n_v vs 11) = w_ei ws (w_ar ws (n_v vs 0) 82) (v_iv (n_v vs 10)) := f6
  rw [ad_7] at f9
  have h9 : v_iv (n_v vs 9) = w_ei ws (w_ar ws (n_v vs 0) 82) (v_iv (n_v vs 8)) := f9
  have hK_0_82 : ∀ j : Int, 0 ≤ j → j < 76 → 0 ≤ w_ei ws (w_ar ws (n_v vs 0) 82) j ∧ w_ei ws (w_ar ws (n_v vs 0) 82) j ≤ 221100000 := fun j h0 h1 => th_el hD hth cr_0_82 (kd := 0) (n := 76) (m := 76) (lo := 0) (hi := 221100000) (rs := []) (L := []) rfl (by decide) (j := j.toNat) (by omega)
  have hK_0_95 : ∀ j : Int, 0 ≤ j → j < 48 → 0 ≤ w_ei ws (w_ar ws (n_v vs 0) 95) j ∧ w_ei ws (w_ar ws (n_v vs 0) 95) j ≤ 1 := fun j h0 h1 => th_el hD hth cr_0_95 (kd := 2) (n := 48) (m := 48) (lo := 0) (hi := 1) (rs := []) (L := []) rfl (by decide) (j := j.toNat) (by omega)
  have hK_0_102 : ∀ j : Int, 0 ≤ j → j < 76 → 0 ≤ w_ei ws (w_ar ws (n_v vs 0) 102) j ∧ w_ei ws (w_ar ws (n_v vs 0) 102) j ≤ 75 := fun j h0 h1 => th_el hD hth cr_0_102 (kd := 0) (n := 76) (m := 76) (lo := 0) (hi := 75) (rs := []) (L := []) rfl (by decide) (j := j.toNat) (by omega)
  have hK_0_110 : ∀ j : Int, 0 ≤ j → j < 8 → 0 ≤ w_ei ws (w_ar ws (n_v vs 0) 110) j ∧ w_ei ws (w_ar ws (n_v vs 0) 110) j ≤ 5500 := fun j h0 h1 => th_el hD hth cr_0_110 (kd := 0) (n := 8) (m := 8) (lo := 0) (hi := 5500) (rs := []) (L := []) rfl (by decide) (j := j.toNat) (by omega)
  have hK_0_111 : ∀ j : Int, 0 ≤ j → j < 8 → 0 ≤ w_ei ws (w_ar ws (n_v vs 0) 111) j ∧ w_ei ws (w_ar ws (n_v vs 0) 111) j ≤ 720 := fun j h0 h1 => th_el hD hth cr_0_111 (kd := 0) (n := 8) (m := 8) (lo := 0) (hi := 720) (rs := []) (L := []) rfl (by decide) (j := j.toNat) (by omega)
  have hK_0_112 : ∀ j : Int, 0 ≤ j → j < 6000 → 0 ≤ w_ei ws (w_ar ws (n_v vs 0) 112) j ∧ w_ei ws (w_ar ws (n_v vs 0) 112) j ≤ 5 := fun j h0 h1 => th_el hD hth cr_0_112 (kd := 1) (n := 6000) (m := 6000) (lo := 0) (hi := 5) (rs := []) (L := []) rfl (by decide) (j := j.toNat) (by omega)
  have nf0 : fc_1 PRD (20, [19, 0], [50, 1, 1, 1005, 1002, 0, 2, 1, 0, 3, 1, 2, 4, 3, 2, 1, 5, 0, 1]) ws (vs) := by
    refine ⟨fun n hn => ?_, ?_⟩
    · have hn : n ∈ [19, 0] := hn
      rw [hl]
      simp only [List.mem_cons, List.not_mem_nil, or_false] at hn
      show n < 20; omega
    · show v_iv (n_v vs 19) ≤ w_ei ws (w_ar ws (n_v vs 0) 2) ((w_fi ws (n_v vs 0) 5 + 1))
      exact vc_Mo_layers_15_0 (v_iv (n_v vs 2)) (v_iv (n_v vs 3)) (v_iv (n_v vs 4)) (v_iv (n_v vs 5)) (v_iv (n_v vs 6)) (v_iv (n_v vs 8)) (v_iv (n_v vs 9)) (v_iv (n_v vs 10)) (v_iv (n_v vs 11)) (v_iv (n_v vs 12)) (v_iv (n_v vs 13)) (v_iv (n_v vs 14)) (v_iv (n_v vs 15)) (v_iv (n_v vs 16)) (v_iv (n_v vs 17)) (v_iv (n_v vs 18)) (v_iv (n_v vs 19)) (w_ei ws (w_ar ws (n_v vs 0) 82)) (w_ei ws (w_ar ws (n_v vs 0) 2)) (w_ei ws (w_ar ws (n_v vs 0) 95)) (w_fi ws (n_v vs 0) 5) (w_ei ws (w_ar ws (n_v vs 0) 110)) (w_ei ws (w_ar ws (n_v vs 0) 111)) (w_ei ws (w_ar ws (n_v vs 0) 112)) (w_ei ws (w_ar ws (n_v vs 0) 102)) k2 k3 k4 k5 k6 k8 k9 k10 k11 k12 k13 k14 k15 k16 k17 k18 k19 d0 d1 d2 d3 d4 d5 d6 d7 d8 d9 d10 d11 f0 f1 f2 f3 f4 f5 h6 f7 h9 f10 f11 f12 f13 f14 f15 f16 f17 f18 f19 f20 f21 f22 f23 hK_0_82 hK_0_95 hK_0_102 hK_0_110 hK_0_111 hK_0_112
  have nf1 : fc_1 PRD (20, [0, 19, 15], [60, 1, 3, 361, 5, 2, 95, 82]) ws (vs) := by
    refine ⟨fun n hn => ?_, ?_⟩
    · have hn : n ∈ [0, 19, 15] := hn
      rw [hl]
      simp only [List.mem_cons, List.not_mem_nil, or_false] at hn
      show n < 20; omega
    · show JNT (w_fi ws (n_v vs 0) 5) (w_ei ws (w_ar ws (n_v vs 0) 2)) (w_ei ws (w_ar ws (n_v vs 0) 95)) (w_ei ws (w_ar ws (n_v vs 0) 82)) (v_iv (n_v vs 19)) (v_iv (n_v vs 15))
      exact vc_Mo_layers_15_1 (v_iv (n_v vs 2)) (v_iv (n_v vs 3)) (v_iv (n_v vs 4)) (v_iv (n_v vs 5)) (v_iv (n_v vs 6)) (v_iv (n_v vs 8)) (v_iv (n_v vs 9)) (v_iv (n_v vs 10)) (v_iv (n_v vs 11)) (v_iv (n_v vs 12)) (v_iv (n_v vs 13)) (v_iv (n_v vs 14)) (v_iv (n_v vs 15)) (v_iv (n_v vs 16)) (v_iv (n_v vs 17)) (v_iv (n_v vs 18)) (v_iv (n_v vs 19)) (w_ei ws (w_ar ws (n_v vs 0) 82)) (w_ei ws (w_ar ws (n_v vs 0) 2)) (w_ei ws (w_ar ws (n_v vs 0) 95)) (w_fi ws (n_v vs 0) 5) (w_ei ws (w_ar ws (n_v vs 0) 110)) (w_ei ws (w_ar ws (n_v vs 0) 111)) (w_ei ws (w_ar ws (n_v vs 0) 112)) (w_ei ws (w_ar ws (n_v vs 0) 102)) k2 k3 k4 k5 k6 k8 k9 k10 k11 k12 k13 k14 k15 k16 k17 k18 k19 d0 d1 d2 d3 d4 d5 d6 d7 d8 d9 d10 d11 f0 f1 f2 f3 f4 f5 h6 f7 h9 f10 f11 f12 f13 f14 f15 f16 f17 f18 f19 f20 f21 f22 f23 hK_0_82 hK_0_95 hK_0_102 hK_0_110 hK_0_111 hK_0_112
  have nf2 : fc_1 PRD (20, [15, 19], [50, 0, 0, 2, 6, 0, 2, 0, 0, 1, 0, 0, 2, 1, 0, 6, 2, 0, 22, 1, 1]) ws (vs) := by
    refine ⟨fun n hn => ?_, ?_⟩
    · have hn : n ∈ [15, 19] := hn
      rw [hl]
      simp only [List.mem_cons, List.not_mem_nil, or_false] at hn
      show n < 20; omega
    · show (0 ≤ v_iv (n_v vs 15)) ∧ (v_iv (n_v vs 15) ≤ (22 * v_iv (n_v vs 19)))
      exact vc_Mo_layers_15_2 (v_iv (n_v vs 2)) (v_iv (n_v vs 3)) (v_iv (n_v vs 4)) (v_iv (n_v vs 5)) (v_iv (n_v vs 6)) (v_iv (n_v vs 8)) (v_iv (n_v vs 9)) (v_iv (n_v vs 10)) (v_iv (n_v vs 11)) (v_iv (n_v vs 12)) (v_iv (n_v vs 13)) (v_iv (n_v vs 14)) (v_iv (n_v vs 15)) (v_iv (n_v vs 16)) (v_iv (n_v vs 17)) (v_iv (n_v vs 18)) (v_iv (n_v vs 19)) (w_ei ws (w_ar ws (n_v vs 0) 82)) (w_ei ws (w_ar ws (n_v vs 0) 2)) (w_ei ws (w_ar ws (n_v vs 0) 95)) (w_fi ws (n_v vs 0) 5) (w_ei ws (w_ar ws (n_v vs 0) 110)) (w_ei ws (w_ar ws (n_v vs 0) 111)) (w_ei ws (w_ar ws (n_v vs 0) 112)) (w_ei ws (w_ar ws (n_v vs 0) 102)) k2 k3 k4 k5 k6 k8 k9 k10 k11 k12 k13 k14 k15 k16 k17 k18 k19 d0 d1 d2 d3 d4 d5 d6 d7 d8 d9 d10 d11 f0 f1 f2 f3 f4 f5 h6 f7 h9 f10 f11 f12 f13 f14 f15 f16 f17 f18 f19 f20 f21 f22 f23 hK_0_82 hK_0_95 hK_0_102 hK_0_110 hK_0_111 hK_0_112
  have nf3 : fc_1 PRD (20, [18, 19], [50, 0, 0, 2, 6, 0, 2, 0, 0, 1, 0, 0, 2, 1, 0, 6, 2, 0, 207, 1, 1]) ws (vs) := by
    refine ⟨fun n hn => ?_, ?_⟩
    · have hn : n ∈ [18, 19] := hn
      rw [hl]
      simp only [List.mem_cons, List.not_mem_nil, or_false] at hn
      show n < 20; omega
    · show (0 ≤ v_iv (n_v vs 18)) ∧ (v_iv (n_v vs 18) ≤ (207 * v_iv (n_v vs 19)))
      exact vc_Mo_layers_15_3 (v_iv (n_v vs 2)) (v_iv (n_v vs 3)) (v_iv (n_v vs 4)) (v_iv (n_v vs 5)) (v_iv (n_v vs 6)) (v_iv (n_v vs 8)) (v_iv (n_v vs 9)) (v_iv (n_v vs 10)) (v_iv (n_v vs 11)) (v_iv (n_v vs 12)) (v_iv (n_v vs 13)) (v_iv (n_v vs 14)) (v_iv (n_v vs 15)) (v_iv (n_v vs 16)) (v_iv (n_v vs 17)) (v_iv (n_v vs 18)) (v_iv (n_v vs 19)) (w_ei ws (w_ar ws (n_v vs 0) 82)) (w_ei ws (w_ar ws (n_v vs 0) 2)) (w_ei ws (w_ar ws (n_v vs 0) 95)) (w_fi ws (n_v vs 0) 5) (w_ei ws (w_ar ws (n_v vs 0) 110)) (w_ei ws (w_ar ws (n_v vs 0) 111)) (w_ei ws (w_ar ws (n_v vs 0) 112)) (w_ei ws (w_ar ws (n_v vs 0) 102)) k2 k3 k4 k5 k6 k8 k9 k10 k11 k12 k13 k14 k15 k16 k17 k18 k19 d0 d1 d2 d3 d4 d5 d6 d7 d8 d9 d10 d11 f0 f1 f2 f3 f4 f5 h6 f7 h9 f10 f11 f12 f13 f14 f15 f16 f17 f18 f19 f20 f21 f22 f23 hK_0_82 hK_0_95 hK_0_102 hK_0_110 hK_0_111 hK_0_112
  refine ⟨(fun _ h => (by cases h)), [], trivial, ?_, (fun _ h => (by cases h))⟩
  rw [List.append_nil]
  exact List.forall_mem_cons.mpr ⟨⟨show (20 : Nat) < 100 from by decide, nf0⟩, List.forall_mem_cons.mpr ⟨⟨show (20 : Nat) < 100 from by decide, nf1⟩, List.forall_mem_cons.mpr ⟨⟨show (20 : Nat) < 100 from by decide, nf2⟩, List.forall_mem_cons.mpr ⟨⟨show (20 : Nat) < 100 from by decide, nf3⟩, (fun _ h => (by cases h))⟩⟩⟩⟩
set_option maxHeartbeats 4000000 in
theorem vc_Mo_layers_16_r0 (x2 : Int) (x6 : Int) (x7 : Int) (x9 : Int) (x10 : Int) (itemLayer_0 : Int → Int) (all_0 : Int → Int) (turned_0 : Int → Int) (r_0 : Int) (firstJoint_0 : Int → Int) (lineA_0 : Int → Int) (lineB_0 : Int → Int) (items_0 : Int) (layerMany_0 : Int) (lines_0 : Int) (spot_0 : Int → Int) (costA_0 : Int → Int) (costB_0 : Int → Int) (costW_0 : Int → Int) (costPlain_0 : Int → Int) (apartA_0 : Int → Int) (apartB_0 : Int → Int) (apart_0 : Int → Int) (pointMany_0 : Int) (costMany_0 : Int) (apartMany_0 : Int) (k2 : 0 ≤ x2 ∧ x2 ≤ 24) (k6 : 0 ≤ x6 ∧ x6 ≤ 47) (k7 : 1 ≤ x7 ∧ x7 ≤ 48) (k9 : 0 ≤ x9 ∧ x9 ≤ 23) (k10 : 0 ≤ x10 ∧ x10 ≤ 75) (d0 : x7 + (-4294967296) ≤ x6 ∧ x6 ≤ x7 + (-1)) (h0 : x10 = itemLayer_0 (x9)) (f1 : TOO (r_0) (all_0) (turned_0) (x6) (x9)) (f3 : x6 < x7) (f4 : 1 * x7 + ((-1) * all_0 (r_0 + 1) + 0) ≤ 0) (f5 : (-1) * x7 + (1 * all_0 (r_0 + 1) + 0) ≤ 0) (f6 : LSA (r_0) (items_0) (layerMany_0) (lines_0) (all_0) (turned_0) (itemLayer_0) (firstJoint_0) (lineA_0) (lineB_0)) (f7 : RIP (pointMany_0) (costMany_0) (apartMany_0) (spot_0) (costA_0) (costB_0) (costW_0) (costPlain_0) (apartA_0) (apartB_0) (apart_0)) (f8 : pointMany_0 = items_0) (f9 : x2 = all_0 (r_0)) (f10 : SGR (r_0) (all_0)) (hK_0_82 : ∀ j : Int, 0 ≤ j → j < 76 → 0 ≤ spot_0 j ∧ spot_0 j ≤ 221100000) (hK_0_83 : ∀ j : Int, 0 ≤ j → j < 200 → 0 ≤ costA_0 j ∧ costA_0 j ≤ 75) (hK_0_84 : ∀ j : Int, 0 ≤ j → j < 200 → 0 ≤ costB_0 j ∧ costB_0 j ≤ 75) (hK_0_85 : ∀ j : Int, 0 ≤ j → j < 200 → 0 ≤ costW_0 j ∧ costW_0 j ≤ 72) (hK_0_86 : ∀ j : Int, 0 ≤ j → j < 200 → 0 ≤ costPlain_0 j ∧ costPlain_0 j ≤ 1) (hK_0_87 : ∀ j : Int, 0 ≤ j → j < 200 → 0 ≤ apartA_0 j ∧ apartA_0 j ≤ 75) (hK_0_88 : ∀ j : Int, 0 ≤ j → j < 200 → 0 ≤ apartB_0 j ∧ apartB_0 j ≤ 75) (hK_0_89 : ∀ j : Int, 0 ≤ j → j < 200 → 0 ≤ apart_0 j ∧ apart_0 j ≤ 202) (hK_0_95 : ∀ j : Int, 0 ≤ j → j < 48 → 0 ≤ turned_0 j ∧ turned_0 j ≤ 1) (hK_0_102 : ∀ j : Int, 0 ≤ j → j < 76 → 0 ≤ itemLayer_0 j ∧ itemLayer_0 j ≤ 75) (hK_0_104 : ∀ j : Int, 0 ≤ j → j < 48 → 0 ≤ firstJoint_0 j ∧ firstJoint_0 j ≤ 76) (hK_0_108 : ∀ j : Int, 0 ≤ j → j < 130 → 0 ≤ lineA_0 j ∧ lineA_0 j ≤ 75) (hK_0_109 : ∀ j : Int, 0 ≤ j → j < 130 → 0 ≤ lineB_0 j ∧ lineB_0 j ≤ 75) (kz_0_79 : 0 ≤ pointMany_0 ∧ pointMany_0 ≤ 76) (kz_0_80 : 0 ≤ costMany_0 ∧ costMany_0 ≤ 200) (kz_0_81 : 0 ≤ apartMany_0 ∧ apartMany_0 ≤ 200) (kz_0_100 : 0 ≤ items_0 ∧ items_0 ≤ 76) (kz_0_101 : 0 ≤ layerMany_0 ∧ layerMany_0 ≤ 76) (kz_0_107 : 0 ≤ lines_0 ∧ lines_0 ≤ 130) : 0 ≤ x10 ∧ x10 ≤ 23 := by
  have f := ft_in (x := x9) ‹SGR _ _› (e := x6) (by omega) (by omega) (Or.inr (by assumption))
  have h := ‹LSA _ _ _ _ _ _ _ _ _ _›.1.1.2.1 x9 f.1 f.2
  omega
def o_Mo_layers_16 : or_T := (307, 11, [(0, (2, 0, 0, [150])), (2, (0, 0, 24, [])), (6, (0, 0, 47, [])), (7, (0, 1, 48, [])), (8, (2, 0, 0, [220])), (9, (0, 0, 23, [])), (10, (0, 0, 75, []))], [(10, [10, 8, 9], []), (20, [0, 6, 9], [60, 1, 2, 357, 5, 2, 95]), (9, [8, 0], [102]), (7, [6, 7], [2]), (20, [7, 0], [30, 0, 1, 0, 0, -1, 3, 2005001]), (20, [7, 0], [30, 0, -1, 0, 0, 1, 3, 2005001]), (20, [0], [60, 4, 6, 369, 5, 100, 101, 107, 2, 95, 102, 104, 108, 109]), (20, [0], [60, 3, 8, 348, 79, 80, 81, 82, 83, 84, 85, 86, 87, 88, 89]), (20, [0], [50, 2, 0, 79, 100, 1, 3, 2, 0, 79, 2, 0, 100]), (20, [2, 0], [50, 1, 1, 1005, 1002, 1, 2, 1, 0, 3, 1, 2, 2, 1, 5]), (20, [0], [60, 1, 1, 122, 5, 2])], [(10, (0, 0, 23, []))], [], [], [], [(6, 7, -4294967296, -1)])
theorem oo_Mo_layers_16 {kA : Nat → ClassId} : or_ok PRD kA GG o_Mo_layers_16 := by
  intro A ta ws vs hD hth hl hk hds hf
  have hl : vs.length = 11 := hl
  have hk : ∀ q ∈ ([(0, (2, 0, 0, [150])), (2, (0, 0, 24, [])), (6, (0, 0, 47, [])), (7, (0, 1, 48, [])), (8, (2, 0, 0, [220])), (9, (0, 0, 23, [])), (10, (0, 0, 75, []))] : List (Nat × tv_T)), tv_ok ta q.2 (n_v vs q.1) := hk
  obtain ⟨t0, hk⟩ := List.forall_mem_cons.mp hk
  have t0 : tv_ok ta (2, 0, 0, [150]) (n_v vs 0) := t0
  have r0 : ta (v_ad (n_v vs 0)) = some 150 := tv_rg t0
  obtain ⟨t2, hk⟩ := List.forall_mem_cons.mp hk
  have t2 : tv_ok ta (0, 0, 24, []) (n_v vs 2) := t2
  have k2 : 0 ≤ v_iv (n_v vs 2) ∧ v_iv (n_v vs 2) ≤ 24 := tv_rng t2
  obtain ⟨t6, hk⟩ := List.forall_mem_cons.mp hk
  have t6 : tv_ok ta (0, 0, 47, []) (n_v vs 6) := t6
  have k6 : 0 ≤ v_iv (n_v vs 6) ∧ v_iv (n_v vs 6) ≤ 47 := tv_rng t6
  obtain ⟨t7, hk⟩ := List.forall_mem_cons.mp hk
  have t7 : tv_ok ta (0, 1, 48, []) (n_v vs 7) := t7
  have k7 : 1 ≤ v_iv (n_v vs 7) ∧ v_iv (n_v vs 7) ≤ 48 := tv_rng t7
  obtain ⟨t8, hk⟩ := List.forall_mem_cons.mp hk
  have t8 : tv_ok ta (2, 0, 0, [220]) (n_v vs 8) := t8
  have r8 : ta (v_ad (n_v vs 8)) = some 220 := tv_rg t8
  obtain ⟨t9, hk⟩ := List.forall_mem_cons.mp hk
  have t9 : tv_ok ta (0, 0, 23, []) (n_v vs 9) := t9
  have k9 : 0 ≤ v_iv (n_v vs 9) ∧ v_iv (n_v vs 9) ≤ 23 := tv_rng t9
  obtain ⟨t10, hk⟩ := List.forall_mem_cons.mp hk
  have t10 : tv_ok ta (0, 0, 75, []) (n_v vs 10) := t10
  have k10 : 0 ≤ v_iv (n_v vs 10) ∧ v_iv (n_v vs 10) ≤ 75 := tv_rng t10
  have hds : ∀ q ∈ ([(6, 7, -4294967296, -1)] : List of_T), n_iv vs q.2.1 + q.2.2.1 ≤ n_iv vs q.1 ∧ n_iv vs q.1 ≤ n_iv vs q.2.1 + q.2.2.2 := hds
  obtain ⟨d0, hds⟩ := List.forall_mem_cons.mp hds
  have d0 : v_iv (n_v vs 7) + (-4294967296) ≤ v_iv (n_v vs 6) ∧ v_iv (n_v vs 6) ≤ v_iv (n_v vs 7) + (-1) := d0
  have hf : fc_ok PRD [(10, [10, 8, 9], []), (20, [0, 6, 9], [60, 1, 2, 357, 5, 2, 95]), (9, [8, 0], [102]), (7, [6, 7], [2]), (20, [7, 0], [30, 0, 1, 0, 0, -1, 3, 2005001]), (20, [7, 0], [30, 0, -1, 0, 0, 1, 3, 2005001]), (20, [0], [60, 4, 6, 369, 5, 100, 101, 107, 2, 95, 102, 104, 108, 109]), (20, [0], [60, 3, 8, 348, 79, 80, 81, 82, 83, 84, 85, 86, 87, 88, 89]), (20, [0], [50, 2, 0, 79, 100, 1, 3, 2, 0, 79, 2, 0, 100]), (20, [2, 0], [50, 1, 1, 1005, 1002, 1, 2, 1, 0, 3, 1, 2, 2, 1, 5]), (20, [0], [60, 1, 1, 122, 5, 2])] ta ws vs := hf
  obtain ⟨f0, hf⟩ := fc_un (show (10 : Nat) < 100 from by decide) hf
  have f0 : v_iv (n_v vs 10) = w_el ws (v_ad (n_v vs 8)) (v_iv (n_v vs 9)).toNat := f0
  obtain ⟨f1, hf⟩ := fc_un (show (20 : Nat) < 100 from by decide) hf
  have f1 : TOO (w_fi ws (n_v vs 0) 5) (w_ei ws (w_ar ws (n_v vs 0) 2)) (w_ei ws (w_ar ws (n_v vs 0) 95)) (v_iv (n_v vs 6)) (v_iv (n_v vs 9)) := f1
  obtain ⟨f2, hf⟩ := fc_un (show (9 : Nat) < 100 from by decide) hf
  have f2 : n_v vs 8 = w_fd ws (v_ad (n_v vs 0)) 102 := f2
  obtain ⟨f3, hf⟩ := fc_un (show (7 : Nat) < 100 from by decide) hf
  have f3 : v_iv (n_v vs 6) < v_iv (n_v vs 7) := f3
  obtain ⟨f4, hf⟩ := fc_un (show (20 : Nat) < 100 from by decide) hf
  have f4 : 1 * v_iv (n_v vs 7) + ((-1) * w_el ws (w_ar ws (n_v vs 0) 2) (w_fi ws (n_v vs 0) 5 + 1).toNat + 0) ≤ 0 := f4
  obtain ⟨f5, hf⟩ := fc_un (show (20 : Nat) < 100 from by decide) hf
  have f5 : (-1) * v_iv (n_v vs 7) + (1 * w_el ws (w_ar ws (n_v vs 0) 2) (w_fi ws (n_v vs 0) 5 + 1).toNat + 0) ≤ 0 := f5
  obtain ⟨f6, hf⟩ := fc_un (show (20 : Nat) < 100 from by decide) hf
  have f6 : LSA (w_fi ws (n_v vs 0) 5) (w_fi ws (n_v vs 0) 100) (w_fi ws (n_v vs 0) 101) (w_fi ws (n_v vs 0) 107) (w_ei ws (w_ar ws (n_v vs 0) 2)) (w_ei ws (w_ar ws (n_v vs 0) 95)) (w_ei ws (w_ar ws (n_v vs 0) 102)) (w_ei ws (w_ar ws (n_v vs 0) 104)) (w_ei ws (w_ar ws (n_v vs 0) 108)) (w_ei ws (w_ar ws (n_v vs 0) 109)) := f6
  obtain ⟨f7, hf⟩ := fc_un (show (20 : Nat) < 100 from by decide) hf
  have f7 : RIP (w_fi ws (n_v vs 0) 79) (w_fi ws (n_v vs 0) 80) (w_fi ws (n_v vs 0) 81) (w_ei ws (w_ar ws (n_v vs 0) 82)) (w_ei ws (w_ar ws (n_v vs 0) 83)) (w_ei ws (w_ar ws (n_v vs 0) 84)) (w_ei ws (w_ar ws (n_v vs 0) 85)) (w_ei ws (w_ar ws (n_v vs 0) 86)) (w_ei ws (w_ar ws (n_v vs 0) 87)) (w_ei ws (w_ar ws (n_v vs 0) 88)) (w_ei ws (w_ar ws (n_v vs 0) 89)) := f7
  obtain ⟨f8, hf⟩ := fc_un (show (20 : Nat) < 100 from by decide) hf
  have f8 : w_fi ws (n_v vs 0) 79 = w_fi ws (n_v vs 0) 100 := f8
  obtain ⟨f9, hf⟩ := fc_un (show (20 : Nat) < 100 from by decide) hf
  have f9 : v_iv (n_v vs 2) = w_ei ws (w_ar ws (n_v vs 0) 2) (w_fi ws (n_v vs 0) 5) := f9
  obtain ⟨f10, hf⟩ := fc_un (show (20 : Nat) < 100 from by decide) hf
  have f10 : SGR (w_fi ws (n_v vs 0) 5) (w_ei ws (w_ar ws (n_v vs 0) 2)) := f10
  have cr_0_2 : ta (w_ar ws (n_v vs 0) 2) = some 152 := tv_rg (th_fd hD hth r0 (g := GG_150) rfl (k := 2) (t := (2, 0, 0, [152])) rfl rfl)
  have cr_0_82 : ta (w_ar ws (n_v vs 0) 82) = some 204 := tv_rg (th_fd hD hth r0 (g := GG_150) rfl (k := 82) (t := (2, 0, 0, [204])) rfl rfl)
  have cr_0_83 : ta (w_ar ws (n_v vs 0) 83) = some 205 := tv_rg (th_fd hD hth r0 (g := GG_150) rfl (k := 83) (t := (2, 0, 0, [205])) rfl rfl)
  have cr_0_84 : ta (w_ar ws (n_v vs 0) 84) = some 206 := tv_rg (th_fd hD hth r0 (g := GG_150) rfl (k := 84) (t := (2, 0, 0, [206])) rfl rfl)
  have cr_0_85 : ta (w_ar ws (n_v vs 0) 85) = some 207 := tv_rg (th_fd hD hth r0 (g := GG_150) rfl (k := 85) (t := (2, 0, 0, [207])) rfl rfl)
  have cr_0_86 : ta (w_ar ws (n_v vs 0) 86) = some 208 := tv_rg (th_fd hD hth r0 (g := GG_150) rfl (k := 86) (t := (2, 0, 0, [208])) rfl rfl)
  have cr_0_87 : ta (w_ar ws (n_v vs 0) 87) = some 209 := tv_rg (th_fd hD hth r0 (g := GG_150) rfl (k := 87) (t := (2, 0, 0, [209])) rfl rfl)
  have cr_0_88 : ta (w_ar ws (n_v vs 0) 88) = some 210 := tv_rg (th_fd hD hth r0 (g := GG_150) rfl (k := 88) (t := (2, 0, 0, [210])) rfl rfl)
  have cr_0_89 : ta (w_ar ws (n_v vs 0) 89) = some 211 := tv_rg (th_fd hD hth r0 (g := GG_150) rfl (k := 89) (t := (2, 0, 0, [211])) rfl rfl)
  have cr_0_95 : ta (w_ar ws (n_v vs 0) 95) = some 216 := tv_rg (th_fd hD hth r0 (g := GG_150) rfl (k := 95) (t := (2, 0, 0, [216])) rfl rfl)
  have cr_0_102 : ta (w_ar ws (n_v vs 0) 102) = some 220 := tv_rg (th_fd hD hth r0 (g := GG_150) rfl (k := 102) (t := (2, 0, 0, [220])) rfl rfl)
  have cr_0_104 : ta (w_ar ws (n_v vs 0) 104) = some 222 := tv_rg (th_fd hD hth r0 (g := GG_150) rfl (k := 104) (t := (2, 0, 0, [222])) rfl rfl)
  have cr_0_108 : ta (w_ar ws (n_v vs 0) 108) = some 225 := tv_rg (th_fd hD hth r0 (g := GG_150) rfl (k := 108) (t := (2, 0, 0, [225])) rfl rfl)
  have cr_0_109 : ta (w_ar ws (n_v vs 0) 109) = some 226 := tv_rg (th_fd hD hth r0 (g := GG_150) rfl (k := 109) (t := (2, 0, 0, [226])) rfl rfl)
  have ad_8 : v_ad (n_v vs 8) = w_ar ws (n_v vs 0) 102 := congrArg v_ad f2
  rw [ad_8] at f0
  have h0 : v_iv (n_v vs 10) = w_ei ws (w_ar ws (n_v vs 0) 102) (v_iv (n_v vs 9)) := f0
  have hK_0_82 : ∀ j : Int, 0 ≤ j → j < 76 → 0 ≤ w_ei ws (w_ar ws (n_v vs 0) 82) j ∧ w_ei ws (w_ar ws (n_v vs 0) 82) j ≤ 221100000 := fun j h0 h1 => th_el hD hth cr_0_82 (kd := 0) (n := 76) (m := 76) (lo := 0) (hi := 221100000) (rs := []) (L := []) rfl (by decide) (j := j.toNat) (by omega)
  have hK_0_83 : ∀ j : Int, 0 ≤ j → j < 200 → 0 ≤ w_ei ws (w_ar ws (n_v vs 0) 83) j ∧ w_ei ws (w_ar ws (n_v vs 0) 83) j ≤ 75 := fun j h0 h1 => th_el hD hth cr_0_83 (kd := 0) (n := 200) (m := 200) (lo := 0) (hi := 75) (rs := []) (L := []) rfl (by decide) (j := j.toNat) (by omega)
  have hK_0_84 : ∀ j : Int, 0 ≤ j → j < 200 → 0 ≤ w_ei ws (w_ar ws (n_v vs 0) 84) j ∧ w_ei ws (w_ar ws (n_v vs 0) 84) j ≤ 75 := fun j h0 h1 => th_el hD hth cr_0_84 (kd := 0) (n := 200) (m := 200) (lo := 0) (hi := 75) (rs := []) (L := []) rfl (by decide) (j := j.toNat) (by omega)
  have hK_0_85 : ∀ j : Int, 0 ≤ j → j < 200 → 0 ≤ w_ei ws (w_ar ws (n_v vs 0) 85) j ∧ w_ei ws (w_ar ws (n_v vs 0) 85) j ≤ 72 := fun j h0 h1 => th_el hD hth cr_0_85 (kd := 0) (n := 200) (m := 200) (lo := 0) (hi := 72) (rs := []) (L := []) rfl (by decide) (j := j.toNat) (by omega)
  have hK_0_86 : ∀ j : Int, 0 ≤ j → j < 200 → 0 ≤ w_ei ws (w_ar ws (n_v vs 0) 86) j ∧ w_ei ws (w_ar ws (n_v vs 0) 86) j ≤ 1 := fun j h0 h1 => th_el hD hth cr_0_86 (kd := 2) (n := 200) (m := 200) (lo := 0) (hi := 1) (rs := []) (L := []) rfl (by decide) (j := j.toNat) (by omega)
  have hK_0_87 : ∀ j : Int, 0 ≤ j → j < 200 → 0 ≤ w_ei ws (w_ar ws (n_v vs 0) 87) j ∧ w_ei ws (w_ar ws (n_v vs 0) 87) j ≤ 75 := fun j h0 h1 => th_el hD hth cr_0_87 (kd := 0) (n := 200) (m := 200) (lo := 0) (hi := 75) (rs := []) (L := []) rfl (by decide) (j := j.toNat) (by omega)
  have hK_0_88 : ∀ j : Int, 0 ≤ j → j < 200 → 0 ≤ w_ei ws (w_ar ws (n_v vs 0) 88) j ∧ w_ei ws (w_ar ws (n_v vs 0) 88) j ≤ 75 := fun j h0 h1 => th_el hD hth cr_0_88 (kd := 0) (n := 200) (m := 200) (lo := 0) (hi := 75) (rs := []) (L := []) rfl (by decide) (j := j.toNat) (by omega)
  have hK_0_89 : ∀ j : Int, 0 ≤ j → j < 200 → 0 ≤ w_ei ws (w_ar ws (n_v vs 0) 89) j ∧ w_ei ws (w_ar ws (n_v vs 0) 89) j ≤ 202 := fun j h0 h1 => th_el hD hth cr_0_89 (kd := 0) (n := 200) (m := 200) (lo := 0) (hi := 202) (rs := []) (L := []) rfl (by decide) (j := j.toNat) (by omega)
  have hK_0_95 : ∀ j : Int, 0 ≤ j → j < 48 → 0 ≤ w_ei ws (w_ar ws (n_v vs 0) 95) j ∧ w_ei ws (w_ar ws (n_v vs 0) 95) j ≤ 1 := fun j h0 h1 => th_el hD hth cr_0_95 (kd := 2) (n := 48) (m := 48) (lo := 0) (hi := 1) (rs := []) (L := []) rfl (by decide) (j := j.toNat) (by omega)
  have hK_0_102 : ∀ j : Int, 0 ≤ j → j < 76 → 0 ≤ w_ei ws (w_ar ws (n_v vs 0) 102) j ∧ w_ei ws (w_ar ws (n_v vs 0) 102) j ≤ 75 := fun j h0 h1 => th_el hD hth cr_0_102 (kd := 0) (n := 76) (m := 76) (lo := 0) (hi := 75) (rs := []) (L := []) rfl (by decide) (j := j.toNat) (by omega)
  have hK_0_104 : ∀ j : Int, 0 ≤ j → j < 48 → 0 ≤ w_ei ws (w_ar ws (n_v vs 0) 104) j ∧ w_ei ws (w_ar ws (n_v vs 0) 104) j ≤ 76 := fun j h0 h1 => th_el hD hth cr_0_104 (kd := 0) (n := 48) (m := 48) (lo := 0) (hi := 76) (rs := []) (L := []) rfl (by decide) (j := j.toNat) (by omega)
  have hK_0_108 : ∀ j : Int, 0 ≤ j → j < 130 → 0 ≤ w_ei ws (w_ar ws (n_v vs 0) 108) j ∧ w_ei ws (w_ar ws (n_v vs 0) 108) j ≤ 75 := fun j h0 h1 => th_el hD hth cr_0_108 (kd := 0) (n := 130) (m := 130) (lo := 0) (hi := 75) (rs := []) (L := []) rfl (by decide) (j := j.toNat) (by omega)
  have hK_0_109 : ∀ j : Int, 0 ≤ j → j < 130 → 0 ≤ w_ei ws (w_ar ws (n_v vs 0) 109) j ∧ w_ei ws (w_ar ws (n_v vs 0) 109) j ≤ 75 := fun j h0 h1 => th_el hD hth cr_0_109 (kd := 0) (n := 130) (m := 130) (lo := 0) (hi := 75) (rs := []) (L := []) rfl (by decide) (j := j.toNat) (by omega)
  have kz_0_79 : 0 ≤ w_fi ws (n_v vs 0) 79 ∧ w_fi ws (n_v vs 0) 79 ≤ 76 := tv_rng (th_fd hD hth r0 (g := GG_150) rfl (k := 79) (t := (0, 0, 76, [])) rfl rfl)
  have kz_0_80 : 0 ≤ w_fi ws (n_v vs 0) 80 ∧ w_fi ws (n_v vs 0) 80 ≤ 200 := tv_rng (th_fd hD hth r0 (g := GG_150) rfl (k := 80) (t := (0, 0, 200, [])) rfl rfl)
  have kz_0_81 : 0 ≤ w_fi ws (n_v vs 0) 81 ∧ w_fi ws (n_v vs 0) 81 ≤ 200 := tv_rng (th_fd hD hth r0 (g := GG_150) rfl (k := 81) (t := (0, 0, 200, [])) rfl rfl)
  have kz_0_100 : 0 ≤ w_fi ws (n_v vs 0) 100 ∧ w_fi ws (n_v vs 0) 100 ≤ 76 := tv_rng (th_fd hD hth r0 (g := GG_150) rfl (k := 100) (t := (0, 0, 76, [])) rfl rfl)
  have kz_0_101 : 0 ≤ w_fi ws (n_v vs 0) 101 ∧ w_fi ws (n_v vs 0) 101 ≤ 76 := tv_rng (th_fd hD hth r0 (g := GG_150) rfl (k := 101) (t := (0, 0, 76, [])) rfl rfl)
  have kz_0_107 : 0 ≤ w_fi ws (n_v vs 0) 107 ∧ w_fi ws (n_v vs 0) 107 ≤ 130 := tv_rng (th_fd hD hth r0 (g := GG_150) rfl (k := 107) (t := (0, 0, 130, [])) rfl rfl)
  have hrf0 : 0 ≤ v_iv (n_v vs 10) ∧ v_iv (n_v vs 10) ≤ 23 := vc_Mo_layers_16_r0 (v_iv (n_v vs 2)) (v_iv (n_v vs 6)) (v_iv (n_v vs 7)) (v_iv (n_v vs 9)) (v_iv (n_v vs 10)) (w_ei ws (w_ar ws (n_v vs 0) 102)) (w_ei ws (w_ar ws (n_v vs 0) 2)) (w_ei ws (w_ar ws (n_v vs 0) 95)) (w_fi ws (n_v vs 0) 5) (w_ei ws (w_ar ws (n_v vs 0) 104)) (w_ei ws (w_ar ws (n_v vs 0) 108)) (w_ei ws (w_ar ws (n_v vs 0) 109)) (w_fi ws (n_v vs 0) 100) (w_fi ws (n_v vs 0) 101) (w_fi ws (n_v vs 0) 107) (w_ei ws (w_ar ws (n_v vs 0) 82)) (w_ei ws (w_ar ws (n_v vs 0) 83)) (w_ei ws (w_ar ws (n_v vs 0) 84)) (w_ei ws (w_ar ws (n_v vs 0) 85)) (w_ei ws (w_ar ws (n_v vs 0) 86)) (w_ei ws (w_ar ws (n_v vs 0) 87)) (w_ei ws (w_ar ws (n_v vs 0) 88)) (w_ei ws (w_ar ws (n_v vs 0) 89)) (w_fi ws (n_v vs 0) 79) (w_fi ws (n_v vs 0) 80) (w_fi ws (n_v vs 0) 81) k2 k6 k7 k9 k10 d0 h0 f1 f3 f4 f5 f6 f7 f8 f9 f10 hK_0_82 hK_0_83 hK_0_84 hK_0_85 hK_0_86 hK_0_87 hK_0_88 hK_0_89 hK_0_95 hK_0_102 hK_0_104 hK_0_108 hK_0_109 kz_0_79 kz_0_80 kz_0_81 kz_0_100 kz_0_101 kz_0_107
  have rf10 : tv_ok ta (0, 0, 23, []) (n_v vs 10) := tv_in t10 (by first | omega | grind) (by first | omega | grind)
  refine ⟨List.forall_mem_cons.mpr ⟨rf10, (fun _ h => (by cases h))⟩, [], trivial, ?_, (fun _ h => (by cases h))⟩
  rw [List.append_nil]
  exact (fun _ h => (by cases h))
set_option maxHeartbeats 4000000 in
theorem vc_Mo_layers_17_r0 (x2 : Int) (x6 : Int) (x7 : Int) (x9 : Int) (x10 : Int) (x11 : Int) (x12 : Int) (itemLayer_0 : Int → Int) (all_0 : Int → Int) (turned_0 : Int → Int) (r_0 : Int) (firstJoint_0 : Int → Int) (lineA_0 : Int → Int) (lineB_0 : Int → Int) (items_0 : Int) (layerMany_0 : Int) (lines_0 : Int) (spot_0 : Int → Int) (costA_0 : Int → Int) (costB_0 : Int → Int) (costW_0 : Int → Int) (costPlain_0 : Int → Int) (apartA_0 : Int → Int) (apartB_0 : Int → Int) (apart_0 : Int → Int) (pointMany_0 : Int) (costMany_0 : Int) (apartMany_0 : Int) (k2 : 0 ≤ x2 ∧ x2 ≤ 24) (k6 : 0 ≤ x6 ∧ x6 ≤ 47) (k7 : 1 ≤ x7 ∧ x7 ≤ 48) (k9 : 0 ≤ x9 ∧ x9 ≤ 23) (k10 : 0 ≤ x10 ∧ x10 ≤ 23) (k11 : 0 ≤ x11 ∧ x11 ≤ 23) (k12 : 0 ≤ x12 ∧ x12 ≤ 75) (d0 : x7 + (-4294967296) ≤ x6 ∧ x6 ≤ x7 + (-1)) (h0 : x12 = itemLayer_0 (x11)) (f1 : FRO (r_0) (all_0) (turned_0) (x6) (x11)) (h3 : x10 = itemLayer_0 (x9)) (f4 : TOO (r_0) (all_0) (turned_0) (x6) (x9)) (f5 : x6 < x7) (f6 : 1 * x7 + ((-1) * all_0 (r_0 + 1) + 0) ≤ 0) (f7 : (-1) * x7 + (1 * all_0 (r_0 + 1) + 0) ≤ 0) (f8 : LSA (r_0) (items_0) (layerMany_0) (lines_0) (all_0) (turned_0) (itemLayer_0) (firstJoint_0) (lineA_0) (lineB_0)) (f9 : RIP (pointMany_0) (costMany_0) (apartMany_0) (spot_0) (costA_0) (costB_0) (costW_0) (costPlain_0) (apartA_0) (apartB_0) (apart_0)) (f10 : pointMany_0 = items_0) (f11 : x2 = all_0 (r_0)) (f12 : SGR (r_0) (all_0)) (hK_0_82 : ∀ j : Int, 0 ≤ j → j < 76 → 0 ≤ spot_0 j ∧ spot_0 j ≤ 221100000) (hK_0_83 : ∀ j : Int, 0 ≤ j → j < 200 → 0 ≤ costA_0 j ∧ costA_0 j ≤ 75) (hK_0_84 : ∀ j : Int, 0 ≤ j → j < 200 → 0 ≤ costB_0 j ∧ costB_0 j ≤ 75) (hK_0_85 : ∀ j : Int, 0 ≤ j → j < 200 → 0 ≤ costW_0 j ∧ costW_0 j ≤ 72) (hK_0_86 : ∀ j : Int, 0 ≤ j → j < 200 → 0 ≤ costPlain_0 j ∧ costPlain_0 j ≤ 1) (hK_0_87 : ∀ j : Int, 0 ≤ j → j < 200 → 0 ≤ apartA_0 j ∧ apartA_0 j ≤ 75) (hK_0_88 : ∀ j : Int, 0 ≤ j → j < 200 → 0 ≤ apartB_0 j ∧ apartB_0 j ≤ 75) (hK_0_89 : ∀ j : Int, 0 ≤ j → j < 200 → 0 ≤ apart_0 j ∧ apart_0 j ≤ 202) (hK_0_95 : ∀ j : Int, 0 ≤ j → j < 48 → 0 ≤ turned_0 j ∧ turned_0 j ≤ 1) (hK_0_102 : ∀ j : Int, 0 ≤ j → j < 76 → 0 ≤ itemLayer_0 j ∧ itemLayer_0 j ≤ 75) (hK_0_104 : ∀ j : Int, 0 ≤ j → j < 48 → 0 ≤ firstJoint_0 j ∧ firstJoint_0 j ≤ 76) (hK_0_108 : ∀ j : Int, 0 ≤ j → j < 130 → 0 ≤ lineA_0 j ∧ lineA_0 j ≤ 75) (hK_0_109 : ∀ j : Int, 0 ≤ j → j < 130 → 0 ≤ lineB_0 j ∧ lineB_0 j ≤ 75) (kz_0_79 : 0 ≤ pointMany_0 ∧ pointMany_0 ≤ 76) (kz_0_80 : 0 ≤ costMany_0 ∧ costMany_0 ≤ 200) (kz_0_81 : 0 ≤ apartMany_0 ∧ apartMany_0 ≤ 200) (kz_0_100 : 0 ≤ items_0 ∧ items_0 ≤ 76) (kz_0_101 : 0 ≤ layerMany_0 ∧ layerMany_0 ≤ 76) (kz_0_107 : 0 ≤ lines_0 ∧ lines_0 ≤ 130) : 0 ≤ x12 ∧ x12 ≤ 23 := by
  have f := ft_in (x := x11) ‹SGR _ _› (e := x6) (by omega) (by omega) (Or.inl (by assumption))
  have h := ‹LSA _ _ _ _ _ _ _ _ _ _›.1.1.2.1 x11 f.1 f.2
  omega
def o_Mo_layers_17 : or_T := (318, 13, [(0, (2, 0, 0, [150])), (2, (0, 0, 24, [])), (6, (0, 0, 47, [])), (7, (0, 1, 48, [])), (8, (2, 0, 0, [220])), (9, (0, 0, 23, [])), (10, (0, 0, 23, [])), (11, (0, 0, 23, [])), (12, (0, 0, 75, []))], [(10, [12, 8, 11], []), (20, [0, 6, 11], [60, 1, 2, 356, 5, 2, 95]), (9, [8, 0], [102]), (10, [10, 8, 9], []), (20, [0, 6, 9], [60, 1, 2, 357, 5, 2, 95]), (7, [6, 7], [2]), (20, [7, 0], [30, 0, 1, 0, 0, -1, 3, 2005001]), (20, [7, 0], [30, 0, -1, 0, 0, 1, 3, 2005001]), (20, [0], [60, 4, 6, 369, 5, 100, 101, 107, 2, 95, 102, 104, 108, 109]), (20, [0], [60, 3, 8, 348, 79, 80, 81, 82, 83, 84, 85, 86, 87, 88, 89]), (20, [0], [50, 2, 0, 79, 100, 1, 3, 2, 0, 79, 2, 0, 100]), (20, [2, 0], [50, 1, 1, 1005, 1002, 1, 2, 1, 0, 3, 1, 2, 2, 1, 5]), (20, [0], [60, 1, 1, 122, 5, 2])], [(12, (0, 0, 23, []))], [], [], [], [(6, 7, -4294967296, -1)])
theorem oo_Mo_layers_17 {kA : Nat → ClassId} : or_ok PRD kA GG o_Mo_layers_17 := by
  intro A ta ws vs hD hth hl hk hds hf
  have hl : vs.length = 13 := hl
  have hk : ∀ q ∈ ([(0, (2, 0, 0, [150])), (2, (0, 0, 24, [])), (6, (0, 0, 47, [])), (7, (0, 1, 48, [])), (8, (2, 0, 0, [220])), (9, (0, 0, 23, [])), (10, (0, 0, 23, [])), (11, (0, 0, 23, [])), (12, (0, 0, 75, []))] : List (Nat × tv_T)), tv_ok ta q.2 (n_v vs q.1) := hk
  obtain ⟨t0, hk⟩ := List.forall_mem_cons.mp hk
  have t0 : tv_ok ta (2, 0, 0, [150]) (n_v vs 0) := t0
  have r0 : ta (v_ad (n_v vs 0)) = some 150 := tv_rg t0
  obtain ⟨t2, hk⟩ := List.forall_mem_cons.mp hk
  have t2 : tv_ok ta (0, 0, 24, []) (n_v vs 2) := t2
  have k2 : 0 ≤ v_iv (n_v vs 2) ∧ v_iv (n_v vs 2) ≤ 24 := tv_rng t2
  obtain ⟨t6, hk⟩ := List.forall_mem_cons.mp hk
  have t6 : tv_ok ta (0, 0, 47, []) (n_v vs 6) := t6
  have k6 : 0 ≤ v_iv (n_v vs 6) ∧ v_iv (n_v vs 6) ≤ 47 := tv_rng t6
  obtain ⟨t7, hk⟩ := List.forall_mem_cons.mp hk
  have t7 : tv_ok ta (0, 1, 48, []) (n_v vs 7) := t7
  have k7 : 1 ≤ v_iv (n_v vs 7) ∧ v_iv (n_v vs 7) ≤ 48 := tv_rng t7
  obtain ⟨t8, hk⟩ := List.forall_mem_cons.mp hk
  have t8 : tv_ok ta (2, 0, 0, [220]) (n_v vs 8) := t8
  have r8 : ta (v_ad (n_v vs 8)) = some 220 := tv_rg t8
  obtain ⟨t9, hk⟩ := List.forall_mem_cons.mp hk
  have t9 : tv_ok ta (0, 0, 23, []) (n_v vs 9) := t9
  have k9 : 0 ≤ v_iv (n_v vs 9) ∧ v_iv (n_v vs 9) ≤ 23 := tv_rng t9
  obtain ⟨t10, hk⟩ := List.forall_mem_cons.mp hk
  have t10 : tv_ok ta (0, 0, 23, []) (n_v vs 10) := t10
  have k10 : 0 ≤ v_iv (n_v vs 10) ∧ v_iv (n_v vs 10) ≤ 23 := tv_rng t10
  obtain ⟨t11, hk⟩ := List.forall_mem_cons.mp hk
  have t11 : tv_ok ta (0, 0, 23, []) (n_v vs 11) := t11
  have k11 : 0 ≤ v_iv (n_v vs 11) ∧ v_iv (n_v vs 11) ≤ 23 := tv_rng t11
  obtain ⟨t12, hk⟩ := List.forall_mem_cons.mp hk
  have t12 : tv_ok ta (0, 0, 75, []) (n_v vs 12) := t12
  have k12 : 0 ≤ v_iv (n_v vs 12) ∧ v_iv (n_v vs 12) ≤ 75 := tv_rng t12
  have hds : ∀ q ∈ ([(6, 7, -4294967296, -1)] : List of_T), n_iv vs q.2.1 + q.2.2.1 ≤ n_iv vs q.1 ∧ n_iv vs q.1 ≤ n_iv vs q.2.1 + q.2.2.2 := hds
  obtain ⟨d0, hds⟩ := List.forall_mem_cons.mp hds
  have d0 : v_iv (n_v vs 7) + (-4294967296) ≤ v_iv (n_v vs 6) ∧ v_iv (n_v vs 6) ≤ v_iv (n_v vs 7) + (-1) := d0
  have hf : fc_ok PRD [(10, [12, 8, 11], []), (20, [0, 6, 11], [60, 1, 2, 356, 5, 2, 95]), (9, [8, 0], [102]), (10, [10, 8, 9], []), (20, [0, 6, 9], [60, 1, 2, 357, 5, 2, 95]), (7, [6, 7], [2]), (20, [7, 0], [30, 0, 1, 0, 0, -1, 3, 2005001]), (20, [7, 0], [30, 0, -1, 0, 0, 1, 3, 2005001]), (20, [0], [60, 4, 6, 369, 5, 100, 101, 107, 2, 95, 102, 104, 108, 109]), (20, [0], [60, 3, 8, 348, 79, 80, 81, 82, 83, 84, 85, 86, 87, 88, 89]), (20, [0], [50, 2, 0, 79, 100, 1, 3, 2, 0, 79, 2, 0, 100]), (20, [2, 0], [50, 1, 1, 1005, 1002, 1, 2, 1, 0, 3, 1, 2, 2, 1, 5]), (20, [0], [60, 1, 1, 122, 5, 2])] ta ws vs := hf
  obtain ⟨f0, hf⟩ := fc_un (show (10 : Nat) < 100 from by decide) hf
  have f0 : v_iv (n_v vs 12) = w_el ws (v_ad (n_v vs 8)) (v_iv (n_v vs 11)).toNat := f0
  obtain ⟨f1, hf⟩ := fc_un (show (20 : Nat) < 100 from by decide) hf
  have f1 : FRO (w_fi ws (n_v vs 0) 5) (w_ei ws (w_ar ws (n_v vs 0) 2)) (w_ei ws (w_ar ws (n_v vs 0) 95)) (v_iv (n_v vs 6)) (v_iv (n_v vs 11)) := f1
  obtain ⟨f2, hf⟩ := fc_un (show (9 : Nat) < 100 from by decide) hf
  have f2 : n_v vs 8 = w_fd ws (v_ad (n_v vs 0)) 102 := f2
  obtain ⟨f3, hf⟩ := fc_un (show (10 : Nat) < 100 from by decide) hf
  have f3 : v_iv (n_v vs 10) = w_el ws (v_ad (n_v vs 8)) (v_iv (n_v vs 9)).toNat := f3
  obtain ⟨f4, hf⟩ := fc_un (show (20 : Nat) < 100 from by decide) hf
  have f4 : TOO (w_fi ws (n_v vs 0) 5) (w_ei ws (w_ar ws (n_v vs 0) 2)) (w_ei ws (w_ar ws (n_v vs 0) 95)) (v_iv (n_v vs 6)) (v_iv (n_v vs 9)) := f4
  obtain ⟨f5, hf⟩ := fc_un (show (7 : Nat) < 100 from by decide) hf
  have f5 : v_iv (n_v vs 6) < v_iv (n_v vs 7) := f5
  obtain ⟨f6, hf⟩ := fc_un (show (20 : Nat) < 100 from by decide) hf
  have f6 : 1 * v_iv (n_v vs 7) + ((-1) * w_el ws (w_ar ws (n_v vs 0) 2) (w_fi ws (n_v vs 0) 5 + 1).toNat + 0) ≤ 0 := f6
  obtain ⟨f7, hf⟩ := fc_un (show (20 : Nat) < 100 from by decide) hf
  have f7 : (-1) * v_iv (n_v vs 7) + (1 * w_el ws (w_ar ws (n_v vs 0) 2) (w_fi ws (n_v vs 0) 5 + 1).toNat + 0) ≤ 0 := f7
  obtain ⟨f8, hf⟩ := fc_un (show (20 : Nat) < 100 from by decide) hf
  have f8 : LSA (w_fi ws (n_v vs 0) 5) (w_fi ws (n_v vs 0) 100) (w_fi ws (n_v vs 0) 101) (w_fi ws (n_v vs 0) 107) (w_ei ws (w_ar ws (n_v vs 0) 2)) (w_ei ws (w_ar ws (n_v vs 0) 95)) (w_ei ws (w_ar ws (n_v vs 0) 102)) (w_ei ws (w_ar ws (n_v vs 0) 104)) (w_ei ws (w_ar ws (n_v vs 0) 108)) (w_ei ws (w_ar ws (n_v vs 0) 109)) := f8
  obtain ⟨f9, hf⟩ := fc_un (show (20 : Nat) < 100 from by decide) hf
  have f9 : RIP (w_fi ws (n_v vs 0) 79) (w_fi ws (n_v vs 0) 80) (w_fi ws (n_v vs 0) 81) (w_ei ws (w_ar ws (n_v vs 0) 82)) (w_ei ws (w_ar ws (n_v vs 0) 83)) (w_ei ws (w_ar ws (n_v vs 0) 84)) (w_ei ws (w_ar ws (n_v vs 0) 85)) (w_ei ws (w_ar ws (n_v vs 0) 86)) (w_ei ws (w_ar ws (n_v vs 0) 87)) (w_ei ws (w_ar ws (n_v vs 0) 88)) (w_ei ws (w_ar ws (n_v vs 0) 89)) := f9
  obtain ⟨f10, hf⟩ := fc_un (show (20 : Nat) < 100 from by decide) hf
  have f10 : w_fi ws (n_v vs 0) 79 = w_fi ws (n_v vs 0) 100 := f10
  obtain ⟨f11, hf⟩ := fc_un (show (20 : Nat) < 100 from by decide) hf
  have f11 : v_iv (n_v vs 2) = w_ei ws (w_ar ws (n_v vs 0) 2) (w_fi ws (n_v vs 0) 5) := f11
  obtain ⟨f12, hf⟩ := fc_un (show (20 : Nat) < 100 from by decide) hf
  have f12 : SGR (w_fi ws (n_v vs 0) 5) (w_ei ws (w_ar ws (n_v vs 0) 2)) := f12
  have cr_0_2 : ta (w_ar ws (n_v vs 0) 2) = some 152 := tv_rg (th_fd hD hth r0 (g := GG_150) rfl (k := 2) (t := (2, 0, 0, [152])) rfl rfl)
  have cr_0_82 : ta (w_ar ws (n_v vs 0) 82) = some 204 := tv_rg (th_fd hD hth r0 (g := GG_150) rfl (k := 82) (t := (2, 0, 0, [204])) rfl rfl)
  have cr_0_83 : ta (w_ar ws (n_v vs 0) 83) = some 205 := tv_rg (th_fd hD hth r0 (g := GG_150) rfl (k := 83) (t := (2, 0, 0, [205])) rfl rfl)
  have cr_0_84 : ta (w_ar ws (n_v vs 0) 84) = some 206 := tv_rg (th_fd hD hth r0 (g := GG_150) rfl (k := 84) (t := (2, 0, 0, [206])) rfl rfl)
  have cr_0_85 : ta (w_ar ws (n_v vs 0) 85) = some 207 := tv_rg (th_fd hD hth r0 (g := GG_150) rfl (k := 85) (t := (2, 0, 0, [207])) rfl rfl)
  have cr_0_86 : ta (w_ar ws (n_v vs 0) 86) = some 208 := tv_rg (th_fd hD hth r0 (g := GG_150) rfl (k := 86) (t := (2, 0, 0, [208])) rfl rfl)
  have cr_0_87 : ta (w_ar ws (n_v vs 0) 87) = some 209 := tv_rg (th_fd hD hth r0 (g := GG_150) rfl (k := 87) (t := (2, 0, 0, [209])) rfl rfl)
  have cr_0_88 : ta (w_ar ws (n_v vs 0) 88) = some 210 := tv_rg (th_fd hD hth r0 (g := GG_150) rfl (k := 88) (t := (2, 0, 0, [210])) rfl rfl)
  have cr_0_89 : ta (w_ar ws (n_v vs 0) 89) = some 211 := tv_rg (th_fd hD hth r0 (g := GG_150) rfl (k := 89) (t := (2, 0, 0, [211])) rfl rfl)
  have cr_0_95 : ta (w_ar ws (n_v vs 0) 95) = some 216 := tv_rg (th_fd hD hth r0 (g := GG_150) rfl (k := 95) (t := (2, 0, 0, [216])) rfl rfl)
  have cr_0_102 : ta (w_ar ws (n_v vs 0) 102) = some 220 := tv_rg (th_fd hD hth r0 (g := GG_150) rfl (k := 102) (t := (2, 0, 0, [220])) rfl rfl)
  have cr_0_104 : ta (w_ar ws (n_v vs 0) 104) = some 222 := tv_rg (th_fd hD hth r0 (g := GG_150) rfl (k := 104) (t := (2, 0, 0, [222])) rfl rfl)
  have cr_0_108 : ta (w_ar ws (n_v vs 0) 108) = some 225 := tv_rg (th_fd hD hth r0 (g := GG_150) rfl (k := 108) (t := (2, 0, 0, [225])) rfl rfl)
  have cr_0_109 : ta (w_ar ws (n_v vs 0) 109) = some 226 := tv_rg (th_fd hD hth r0 (g := GG_150) rfl (k := 109) (t := (2, 0, 0, [226])) rfl rfl)
  have ad_8 : v_ad (n_v vs 8) = w_ar ws (n_v vs 0) 102 := congrArg v_ad f2
  rw [ad_8] at f0
  have h0 : v_iv (n_v vs 12) = w_ei ws (w_ar ws (n_v vs 0) 102) (v_iv (n_v vs 11)) := f0
  rw [ad_8] at f3
  have h3 : v_iv (n_v vs 10) = w_ei ws (w_ar ws (n_v vs 0) 102) (v_iv (n_v vs 9)) := f3
  have hK_0_82 : ∀ j : Int, 0 ≤ j → j < 76 → 0 ≤ w_ei ws (w_ar ws (n_v vs 0) 82) j ∧ w_ei ws (w_ar ws (n_v vs 0) 82) j ≤ 221100000 := fun j h0 h1 => th_el hD hth cr_0_82 (kd := 0) (n := 76) (m := 76) (lo := 0) (hi := 221100000) (rs := []) (L := []) rfl (by decide) (j := j.toNat) (by omega)
  have hK_0_83 : ∀ j : Int, 0 ≤ j → j < 200 → 0 ≤ w_ei ws (w_ar ws (n_v vs 0) 83) j ∧ w_ei ws (w_ar ws (n_v vs 0) 83) j ≤ 75 := fun j h0 h1 => th_el hD hth cr_0_83 (kd := 0) (n := 200) (m := 200) (lo := 0) (hi := 75) (rs := []) (L := []) rfl (by decide) (j := j.toNat) (by omega)
  have hK_0_84 : ∀ j : Int, 0 ≤ j → j < 200 → 0 ≤ w_ei ws (w_ar ws (n_v vs 0) 84) j ∧ w_ei ws (w_ar ws (n_v vs 0) 84) j ≤ 75 := fun j h0 h1 => th_el hD hth cr_0_84 (kd := 0) (n := 200) (m := 200) (lo := 0) (hi := 75) (rs := []) (L := []) rfl (by decide) (j := j.toNat) (by omega)
  have hK_0_85 : ∀ j : Int, 0 ≤ j → j < 200 → 0 ≤ w_ei ws (w_ar ws (n_v vs 0) 85) j ∧ w_ei ws (w_ar ws (n_v vs 0) 85) j ≤ 72 := fun j h0 h1 => th_el hD hth cr_0_85 (kd := 0) (n := 200) (m := 200) (lo := 0) (hi := 72) (rs := []) (L := []) rfl (by decide) (j := j.toNat) (by omega)
  have hK_0_86 : ∀ j : Int, 0 ≤ j → j < 200 → 0 ≤ w_ei ws (w_ar ws (n_v vs 0) 86) j ∧ w_ei ws (w_ar ws (n_v vs 0) 86) j ≤ 1 := fun j h0 h1 => th_el hD hth cr_0_86 (kd := 2) (n := 200) (m := 200) (lo := 0) (hi := 1) (rs := []) (L := []) rfl (by decide) (j := j.toNat) (by omega)
  have hK_0_87 : ∀ j : Int, 0 ≤ j → j < 200 → 0 ≤ w_ei ws (w_ar ws (n_v vs 0) 87) j ∧ w_ei ws (w_ar ws (n_v vs 0) 87) j ≤ 75 := fun j h0 h1 => th_el hD hth cr_0_87 (kd := 0) (n := 200) (m := 200) (lo := 0) (hi := 75) (rs := []) (L := []) rfl (by decide) (j := j.toNat) (by omega)
  have hK_0_88 : ∀ j : Int, 0 ≤ j → j < 200 → 0 ≤ w_ei ws (w_ar ws (n_v vs 0) 88) j ∧ w_ei ws (w_ar ws (n_v vs 0) 88) j ≤ 75 := fun j h0 h1 => th_el hD hth cr_0_88 (kd := 0) (n := 200) (m := 200) (lo := 0) (hi := 75) (rs := []) (L := []) rfl (by decide) (j := j.toNat) (by omega)
  have hK_0_89 : ∀ j : Int, 0 ≤ j → j < 200 → 0 ≤ w_ei ws (w_ar ws (n_v vs 0) 89) j ∧ w_ei ws (w_ar ws (n_v vs 0) 89) j ≤ 202 := fun j h0 h1 => th_el hD hth cr_0_89 (kd := 0) (n := 200) (m := 200) (lo := 0) (hi := 202) (rs := []) (L := []) rfl (by decide) (j := j.toNat) (by omega)
  have hK_0_95 : ∀ j : Int, 0 ≤ j → j < 48 → 0 ≤ w_ei ws (w_ar ws (n_v vs 0) 95) j ∧ w_ei ws (w_ar ws (n_v vs 0) 95) j ≤ 1 := fun j h0 h1 => th_el hD hth cr_0_95 (kd := 2) (n := 48) (m := 48) (lo := 0) (hi := 1) (rs := []) (L := []) rfl (by decide) (j := j.toNat) (by omega)
  have hK_0_102 : ∀ j : Int, 0 ≤ j → j < 76 → 0 ≤ w_ei ws (w_ar ws (n_v vs 0) 102) j ∧ w_ei ws (w_ar ws (n_v vs 0) 102) j ≤ 75 := fun j h0 h1 => th_el hD hth cr_0_102 (kd := 0) (n := 76) (m := 76) (lo := 0) (hi := 75) (rs := []) (L := []) rfl (by decide) (j := j.toNat) (by omega)
  have hK_0_104 : ∀ j : Int, 0 ≤ j → j < 48 → 0 ≤ w_ei ws (w_ar ws (n_v vs 0) 104) j ∧ w_ei ws (w_ar ws (n_v vs 0) 104) j ≤ 76 := fun j h0 h1 => th_el hD hth cr_0_104 (kd := 0) (n := 48) (m := 48) (lo := 0) (hi := 76) (rs := []) (L := []) rfl (by decide) (j := j.toNat) (by omega)
  have hK_0_108 : ∀ j : Int, 0 ≤ j → j < 130 → 0 ≤ w_ei ws (w_ar ws (n_v vs 0) 108) j ∧ w_ei ws (w_ar ws (n_v vs 0) 108) j ≤ 75 := fun j h0 h1 => th_el hD hth cr_0_108 (kd := 0) (n := 130) (m := 130) (lo := 0) (hi := 75) (rs := []) (L := []) rfl (by decide) (j := j.toNat) (by omega)
  have hK_0_109 : ∀ j : Int, 0 ≤ j → j < 130 → 0 ≤ w_ei ws (w_ar ws (n_v vs 0) 109) j ∧ w_ei ws (w_ar ws (n_v vs 0) 109) j ≤ 75 := fun j h0 h1 => th_el hD hth cr_0_109 (kd := 0) (n := 130) (m := 130) (lo := 0) (hi := 75) (rs := []) (L := []) rfl (by decide) (j := j.toNat) (by omega)
  have kz_0_79 : 0 ≤ w_fi ws (n_v vs 0) 79 ∧ w_fi ws (n_v vs 0) 79 ≤ 76 := tv_rng (th_fd hD hth r0 (g := GG_150) rfl (k := 79) (t := (0, 0, 76, [])) rfl rfl)
  have kz_0_80 : 0 ≤ w_fi ws (n_v vs 0) 80 ∧ w_fi ws (n_v vs 0) 80 ≤ 200 := tv_rng (th_fd hD hth r0 (g := GG_150) rfl (k := 80) (t := (0, 0, 200, [])) rfl rfl)
  have kz_0_81 : 0 ≤ w_fi ws (n_v vs 0) 81 ∧ w_fi ws (n_v vs 0) 81 ≤ 200 := tv_rng (th_fd hD hth r0 (g := GG_150) rfl (k := 81) (t := (0, 0, 200, [])) rfl rfl)
  have kz_0_100 : 0 ≤ w_fi ws (n_v vs 0) 100 ∧ w_fi ws (n_v vs 0) 100 ≤ 76 := tv_rng (th_fd hD hth r0 (g := GG_150) rfl (k := 100) (t := (0, 0, 76, [])) rfl rfl)
  have kz_0_101 : 0 ≤ w_fi ws (n_v vs 0) 101 ∧ w_fi ws (n_v vs 0) 101 ≤ 76 := tv_rng (th_fd hD hth r0 (g := GG_150) rfl (k := 101) (t := (0, 0, 76, [])) rfl rfl)
  have kz_0_107 : 0 ≤ w_fi ws (n_v vs 0) 107 ∧ w_fi ws (n_v vs 0) 107 ≤ 130 := tv_rng (th_fd hD hth r0 (g := GG_150) rfl (k := 107) (t := (0, 0, 130, [])) rfl rfl)
  have hrf0 : 0 ≤ v_iv (n_v vs 12) ∧ v_iv (n_v vs 12) ≤ 23 := vc_Mo_layers_17_r0 (v_iv (n_v vs 2)) (v_iv (n_v vs 6)) (v_iv (n_v vs 7)) (v_iv (n_v vs 9)) (v_iv (n_v vs 10)) (v_iv (n_v vs 11)) (v_iv (n_v vs 12)) (w_ei ws (w_ar ws (n_v vs 0) 102)) (w_ei ws (w_ar ws (n_v vs 0) 2)) (w_ei ws (w_ar ws (n_v vs 0) 95)) (w_fi ws (n_v vs 0) 5) (w_ei ws (w_ar ws (n_v vs 0) 104)) (w_ei ws (w_ar ws (n_v vs 0) 108)) (w_ei ws (w_ar ws (n_v vs 0) 109)) (w_fi ws (n_v vs 0) 100) (w_fi ws (n_v vs 0) 101) (w_fi ws (n_v vs 0) 107) (w_ei ws (w_ar ws (n_v vs 0) 82)) (w_ei ws (w_ar ws (n_v vs 0) 83)) (w_ei ws (w_ar ws (n_v vs 0) 84)) (w_ei ws (w_ar ws (n_v vs 0) 85)) (w_ei ws (w_ar ws (n_v vs 0) 86)) (w_ei ws (w_ar ws (n_v vs 0) 87)) (w_ei ws (w_ar ws (n_v vs 0) 88)) (w_ei ws (w_ar ws (n_v vs 0) 89)) (w_fi ws (n_v vs 0) 79) (w_fi ws (n_v vs 0) 80) (w_fi ws (n_v vs 0) 81) k2 k6 k7 k9 k10 k11 k12 d0 h0 f1 h3 f4 f5 f6 f7 f8 f9 f10 f11 f12 hK_0_82 hK_0_83 hK_0_84 hK_0_85 hK_0_86 hK_0_87 hK_0_88 hK_0_89 hK_0_95 hK_0_102 hK_0_104 hK_0_108 hK_0_109 kz_0_79 kz_0_80 kz_0_81 kz_0_100 kz_0_101 kz_0_107
  have rf12 : tv_ok ta (0, 0, 23, []) (n_v vs 12) := tv_in t12 (by first | omega | grind) (by first | omega | grind)
  refine ⟨List.forall_mem_cons.mpr ⟨rf12, (fun _ h => (by cases h))⟩, [], trivial, ?_, (fun _ h => (by cases h))⟩
  rw [List.append_nil]
  exact (fun _ h => (by cases h))
set_option maxHeartbeats 4000000 in
theorem vc_Mo_layers_18_r0 (x2 : Int) (x6 : Int) (x7 : Int) (x9 : Int) (x10 : Int) (x11 : Int) (x12 : Int) (x13 : Int) (x14 : Int) (x15 : Int) (itemLayer_0 : Int → Int) (all_0 : Int → Int) (turned_0 : Int → Int) (r_0 : Int) (firstJoint_0 : Int → Int) (lineA_0 : Int → Int) (lineB_0 : Int → Int) (items_0 : Int) (layerMany_0 : Int) (lines_0 : Int) (spot_0 : Int → Int) (costA_0 : Int → Int) (costB_0 : Int → Int) (costW_0 : Int → Int) (costPlain_0 : Int → Int) (apartA_0 : Int → Int) (apartB_0 : Int → Int) (apart_0 : Int → Int) (pointMany_0 : Int) (costMany_0 : Int) (apartMany_0 : Int) (k2 : 0 ≤ x2 ∧ x2 ≤ 24) (k6 : 0 ≤ x6 ∧ x6 ≤ 47) (k7 : 1 ≤ x7 ∧ x7 ≤ 48) (k9 : 0 ≤ x9 ∧ x9 ≤ 23) (k10 : 0 ≤ x10 ∧ x10 ≤ 23) (k11 : 0 ≤ x11 ∧ x11 ≤ 23) (k12 : 0 ≤ x12 ∧ x12 ≤ 23) (k13 : (-23) ≤ x13 ∧ x13 ≤ 23) (k14 : 1 ≤ x14 ∧ x14 ≤ 1) (k15 : (-24) ≤ x15 ∧ x15 ≤ 22) (d0 : x13 + (-1) ≤ x15 ∧ x15 ≤ x13 + (-1)) (d1 : x10 + (-24) ≤ x15 ∧ x15 ≤ x10 + (-1)) (d2 : x10 + (-23) ≤ x13 ∧ x13 ≤ x10 + 0) (d3 : x7 + (-4294967296) ≤ x6 ∧ x6 ≤ x7 + (-1)) (f0 : x15 = x13 - x14) (f1 : x13 = x10 - x12) (h2 : x12 = itemLayer_0 (x11)) (f3 : FRO (r_0) (all_0) (turned_0) (x6) (x11)) (h5 : x10 = itemLayer_0 (x9)) (f6 : TOO (r_0) (all_0) (turned_0) (x6) (x9)) (f7 : x6 < x7) (f8 : 1 * x7 + ((-1) * all_0 (r_0 + 1) + 0) ≤ 0) (f9 : (-1) * x7 + (1 * all_0 (r_0 + 1) + 0) ≤ 0) (f10 : LSA (r_0) (items_0) (layerMany_0) (lines_0) (all_0) (turned_0) (itemLayer_0) (firstJoint_0) (lineA_0) (lineB_0)) (f11 : RIP (pointMany_0) (costMany_0) (apartMany_0) (spot_0) (costA_0) (costB_0) (costW_0) (costPlain_0) (apartA_0) (apartB_0) (apart_0)) (f12 : pointMany_0 = items_0) (f13 : x2 = all_0 (r_0)) (f14 : SGR (r_0) (all_0)) (hK_0_82 : ∀ j : Int, 0 ≤ j → j < 76 → 0 ≤ spot_0 j ∧ spot_0 j ≤ 221100000) (hK_0_83 : ∀ j : Int, 0 ≤ j → j < 200 → 0 ≤ costA_0 j ∧ costA_0 j ≤ 75) (hK_0_84 : ∀ j : Int, 0 ≤ j → j < 200 → 0 ≤ costB_0 j ∧ costB_0 j ≤ 75) (hK_0_85 : ∀ j : Int, 0 ≤ j → j < 200 → 0 ≤ costW_0 j ∧ costW_0 j ≤ 72) (hK_0_86 : ∀ j : Int, 0 ≤ j → j < 200 → 0 ≤ costPlain_0 j ∧ costPlain_0 j ≤ 1) (hK_0_87 : ∀ j : Int, 0 ≤ j → j < 200 → 0 ≤ apartA_0 j ∧ apartA_0 j ≤ 75) (hK_0_88 : ∀ j : Int, 0 ≤ j → j < 200 → 0 ≤ apartB_0 j ∧ apartB_0 j ≤ 75) (hK_0_89 : ∀ j : Int, 0 ≤ j → j < 200 → 0 ≤ apart_0 j ∧ apart_0 j ≤ 202) (hK_0_95 : ∀ j : Int, 0 ≤ j → j < 48 → 0 ≤ turned_0 j ∧ turned_0 j ≤ 1) (hK_0_102 : ∀ j : Int, 0 ≤ j → j < 76 → 0 ≤ itemLayer_0 j ∧ itemLayer_0 j ≤ 75) (hK_0_104 : ∀ j : Int, 0 ≤ j → j < 48 → 0 ≤ firstJoint_0 j ∧ firstJoint_0 j ≤ 76) (hK_0_108 : ∀ j : Int, 0 ≤ j → j < 130 → 0 ≤ lineA_0 j ∧ lineA_0 j ≤ 75) (hK_0_109 : ∀ j : Int, 0 ≤ j → j < 130 → 0 ≤ lineB_0 j ∧ lineB_0 j ≤ 75) (kz_0_79 : 0 ≤ pointMany_0 ∧ pointMany_0 ≤ 76) (kz_0_80 : 0 ≤ costMany_0 ∧ costMany_0 ≤ 200) (kz_0_81 : 0 ≤ apartMany_0 ∧ apartMany_0 ≤ 200) (kz_0_100 : 0 ≤ items_0 ∧ items_0 ≤ 76) (kz_0_101 : 0 ≤ layerMany_0 ∧ layerMany_0 ≤ 76) (kz_0_107 : 0 ≤ lines_0 ∧ lines_0 ≤ 130) : 0 ≤ x15 ∧ x15 ≤ 22 := by
  have h := jmx_of (e := x6) (m := x15) (a := x11) (b := x9) (ya := x12) (yb := x10) ‹LSA _ _ _ _ _ _ _ _ _ _› (by omega) (by omega) (by assumption) (by assumption) (by assumption) (by assumption) (by omega)
  have h2 := h.1
  omega
def o_Mo_layers_18 : or_T := (331, 17, [(0, (2, 0, 0, [150])), (2, (0, 0, 24, [])), (6, (0, 0, 47, [])), (7, (0, 1, 48, [])), (8, (2, 0, 0, [220])), (9, (0, 0, 23, [])), (10, (0, 0, 23, [])), (11, (0, 0, 23, [])), (12, (0, 0, 23, [])), (13, (0, -23, 23, [])), (14, (0, 1, 1, [])), (15, (0, -24, 22, []))], [(2, [15, 13, 14], []), (2, [13, 10, 12], []), (10, [12, 8, 11], []), (20, [0, 6, 11], [60, 1, 2, 356, 5, 2, 95]), (9, [8, 0], [102]), (10, [10, 8, 9], []), (20, [0, 6, 9], [60, 1, 2, 357, 5, 2, 95]), (7, [6, 7], [2]), (20, [7, 0], [30, 0, 1, 0, 0, -1, 3, 2005001]), (20, [7, 0], [30, 0, -1, 0, 0, 1, 3, 2005001]), (20, [0], [60, 4, 6, 369, 5, 100, 101, 107, 2, 95, 102, 104, 108, 109]), (20, [0], [60, 3, 8, 348, 79, 80, 81, 82, 83, 84, 85, 86, 87, 88, 89]), (20, [0], [50, 2, 0, 79, 100, 1, 3, 2, 0, 79, 2, 0, 100]), (20, [2, 0], [50, 1, 1, 1005, 1002, 1, 2, 1, 0, 3, 1, 2, 2, 1, 5]), (20, [0], [60, 1, 1, 122, 5, 2])], [(15, (0, 0, 22, []))], [], [], [], [(15, 13, -1, -1), (15, 10, -24, -1), (13, 10, -23, 0), (6, 7, -4294967296, -1)])
theorem oo_Mo_layers_18 {kA : Nat → ClassId} : or_ok PRD kA GG o_Mo_layers_18 := by
  intro A ta ws vs hD hth hl hk hds hf
  have hl : vs.length = 17 := hl
  have hk : ∀ q ∈ ([(0, (2, 0, 0, [150])), (2, (0, 0, 24, [])), (6, (0, 0, 47, [])), (7, (0, 1, 48, [])), (8, (2, 0, 0, [220])), (9, (0, 0, 23, [])), (10, (0, 0, 23, [])), (11, (0, 0, 23, [])), (12, (0, 0, 23, [])), (13, (0, -23, 23, [])), (14, (0, 1, 1, [])), (15, (0, -24, 22, []))] : List (Nat × tv_T)), tv_ok ta q.2 (n_v vs q.1) := hk
  obtain ⟨t0, hk⟩ := List.forall_mem_cons.mp hk
  have t0 : tv_ok ta (2, 0, 0, [150]) (n_v vs 0) := t0
  have r0 : ta (v_ad (n_v vs 0)) = some 150 := tv_rg t0
  obtain ⟨t2, hk⟩ := List.forall_mem_cons.mp hk
  have t2 : tv_ok ta (0, 0, 24, []) (n_v vs 2) := t2
  have k2 : 0 ≤ v_iv (n_v vs 2) ∧ v_iv (n_v vs 2) ≤ 24 := tv_rng t2
  obtain ⟨t6, hk⟩ := List.forall_mem_cons.mp hk
  have t6 : tv_ok ta (0, 0, 47, []) (n_v vs 6) := t6
  have k6 : 0 ≤ v_iv (n_v vs 6) ∧ v_iv (n_v vs 6) ≤ 47 := tv_rng t6
  obtain ⟨t7, hk⟩ := List.forall_mem_cons.mp hk
  have t7 : tv_ok ta (0, 1, 48, []) (n_v vs 7) := t7
  have k7 : 1 ≤ v_iv (n_v vs 7) ∧ v_iv (n_v vs 7) ≤ 48 := tv_rng t7
  obtain ⟨t8, hk⟩ := List.forall_mem_cons.mp hk
  have t8 : tv_ok ta (2, 0, 0, [220]) (n_v vs 8) := t8
  have r8 : ta (v_ad (n_v vs 8)) = some 220 := tv_rg t8
  obtain ⟨t9, hk⟩ := List.forall_mem_cons.mp hk
  have t9 : tv_ok ta (0, 0, 23, []) (n_v vs 9) := t9
  have k9 : 0 ≤ v_iv (n_v vs 9) ∧ v_iv (n_v vs 9) ≤ 23 := tv_rng t9
  obtain ⟨t10, hk⟩ := List.forall_mem_cons.mp hk
  have t10 : tv_ok ta (0, 0, 23, []) (n_v vs 10) := t10
  have k10 : 0 ≤ v_iv (n_v vs 10) ∧ v_iv (n_v vs 10) ≤ 23 := tv_rng t10
  obtain ⟨t11, hk⟩ := List.forall_mem_cons.mp hk
  have t11 : tv_ok ta (0, 0, 23, []) (n_v vs 11) := t11
  have k11 : 0 ≤ v_iv (n_v vs 11) ∧ v_iv (n_v vs 11) ≤ 23 := tv_rng t11
  obtain ⟨t12, hk⟩ := List.forall_mem_cons.mp hk
  have t12 : tv_ok ta (0, 0, 23, []) (n_v vs 12) := t12
  have k12 : 0 ≤ v_iv (n_v vs 12) ∧ v_iv (n_v vs 12) ≤ 23 := tv_rng t12
  obtain ⟨t13, hk⟩ := List.forall_mem_cons.mp hk
  have t13 : tv_ok ta (0, -23, 23, []) (n_v vs 13) := t13
  have k13 : (-23) ≤ v_iv (n_v vs 13) ∧ v_iv (n_v vs 13) ≤ 23 := tv_rng t13
  obtain ⟨t14, hk⟩ := List.forall_mem_cons.mp hk
  have t14 : tv_ok ta (0, 1, 1, []) (n_v vs 14) := t14
  have k14 : 1 ≤ v_iv (n_v vs 14) ∧ v_iv (n_v vs 14) ≤ 1 := tv_rng t14
  obtain ⟨t15, hk⟩ := List.forall_mem_cons.mp hk
  have t15 : tv_ok ta (0, -24, 22, []) (n_v vs 15) := t15
  have k15 : (-24) ≤ v_iv (n_v vs 15) ∧ v_iv (n_v vs 15) ≤ 22 := tv_rng t15
  have hds : ∀ q ∈ ([(15, 13, -1, -1), (15, 10, -24, -1), (13, 10, -23, 0), (6, 7, -4294967296, -1)] : List of_T), n_iv vs q.2.1 + q.2.2.1 ≤ n_iv vs q.1 ∧ n_iv vs q.1 ≤ n_iv vs q.2.1 + q.2.2.2 := hds
  obtain ⟨d0, hds⟩ := List.forall_mem_cons.mp hds
  have d0 : v_iv (n_v vs 13) + (-1) ≤ v_iv (n_v vs 15) ∧ v_iv (n_v vs 15) ≤ v_iv (n_v vs 13) + (-1) := d0
  obtain ⟨d1, hds⟩ := List.forall_mem_cons.mp hds
  have d1 : v_iv (n_v vs 10) + (-24) ≤ v_iv (n_v vs 15) ∧ v_iv (n_v vs 15) ≤ v_iv (n_v vs 10) + (-1) := d1
  obtain ⟨d2, hds⟩ := List.forall_mem_cons.mp hds
  have d2 : v_iv (n_v vs 10) + (-23) ≤ v_iv (n_v vs 13) ∧ v_iv (n_v vs 13) ≤ v_iv (n_v vs 10) + 0 := d2
  obtain ⟨d3, hds⟩ := List.forall_mem_cons.mp hds
  have d3 : v_iv (n_v vs 7) + (-4294967296) ≤ v_iv (n_v vs 6) ∧ v_iv (n_v vs 6) ≤ v_iv (n_v vs 7) + (-1) := d3
  have hf : fc_ok PRD [(2, [15, 13, 14], []), (2, [13, 10, 12], []), (10, [12, 8, 11], []), (20, [0, 6, 11], [60, 1, 2, 356, 5, 2, 95]), (9, [8, 0], [102]), (10, [10, 8, 9], []), (20, [0, 6, 9], [60, 1, 2, 357, 5, 2, 95]), (7, [6, 7], [2]), (20, [7, 0], [30, 0, 1, 0, 0, -1, 3, 2005001]), (20, [7, 0], [30, 0, -1, 0, 0, 1, 3, 2005001]), (20, [0], [60, 4, 6, 369, 5, 100, 101, 107, 2, 95, 102, 104, 108, 109]), (20, [0], [60, 3, 8, 348, 79, 80, 81, 82, 83, 84, 85, 86, 87, 88, 89]), (20, [0], [50, 2, 0, 79, 100, 1, 3, 2, 0, 79, 2, 0, 100]), (20, [2, 0], [50, 1, 1, 1005, 1002, 1, 2, 1, 0, 3, 1, 2, 2, 1, 5]), (20, [0], [60, 1, 1, 122, 5, 2])] ta ws vs := hf
  obtain ⟨f0, hf⟩ := fc_un (show (2 : Nat) < 100 from by decide) hf
  have f0 : v_iv (n_v vs 15) = v_iv (n_v vs 13) - v_iv (n_v vs 14) := f0
  obtain ⟨f1, hf⟩ := fc_un (show (2 : Nat) < 100 from by decide) hf
  have f1 : v_iv (n_v vs 13) = v_iv (n_v vs 10) - v_iv (n_v vs 12) := f1
  obtain ⟨f2, hf⟩ := fc_un (show (10 : Nat) < 100 from by decide) hf
  have f2 : v_iv (n_v vs 12) = w_el ws (v_ad (n_v vs 8)) (v_iv (n_v vs 11)).toNat := f2
  obtain ⟨f3, hf⟩ := fc_un (show (20 : Nat) < 100 from by decide) hf
  have f3 : FRO (w_fi ws (n_v vs 0) 5) (w_ei ws (w_ar ws (n_v vs 0) 2)) (w_ei ws (w_ar ws (n_v vs 0) 95)) (v_iv (n_v vs 6)) (v_iv (n_v vs 11)) := f3
  obtain ⟨f4, hf⟩ := fc_un (show (9 : Nat) < 100 from by decide) hf
  have f4 : n_v vs 8 = w_fd ws (v_ad (n_v vs 0)) 102 := f4
  obtain ⟨f5, hf⟩ := fc_un (show (10 : Nat) < 100 from by decide) hf
  have f5 : v_iv (n_v vs 10) = w_el ws (v_ad (n_v vs 8)) (v_iv (n_v vs 9)).toNat := f5
  obtain ⟨f6, hf⟩ := fc_un (show (20 : Nat) < 100 from by decide) hf
  have f6 : TOO (w_fi ws (n_v vs 0) 5) (w_ei ws (w_ar ws (n_v vs 0) 2)) (w_ei ws (w_ar ws (n_v vs 0) 95)) (v_iv (n_v vs 6)) (v_iv (n_v vs 9)) := f6
  obtain ⟨f7, hf⟩ := fc_un (show (7 : Nat) < 100 from by decide) hf
  have f7 : v_iv (n_v vs 6) < v_iv (n_v vs 7) := f7
  obtain ⟨f8, hf⟩ := fc_un (show (20 : Nat) < 100 from by decide) hf
  have f8 : 1 * v_iv (n_v vs 7) + ((-1) * w_el ws (w_ar ws (n_v vs 0) 2) (w_fi ws (n_v vs 0) 5 + 1).toNat + 0) ≤ 0 := f8
  obtain ⟨f9, hf⟩ := fc_un (show (20 : Nat) < 100 from by decide) hf
  have f9 : (-1) * v_iv (n_v vs 7) + (1 * w_el ws (w_ar ws (n_v vs 0) 2) (w_fi ws (n_v vs 0) 5 + 1).toNat + 0) ≤ 0 := f9
  obtain ⟨f10, hf⟩ := fc_un (show (20 : Nat) < 100 from by decide) hf
  have f10 : LSA (w_fi ws (n_v vs 0) 5) (w_fi ws (n_v vs 0) 100) (w_fi ws (n_v vs 0) 101) (w_fi ws (n_v vs 0) 107) (w_ei ws (w_ar ws (n_v vs 0) 2)) (w_ei ws (w_ar ws (n_v vs 0) 95)) (w_ei ws (w_ar ws (n_v vs 0) 102)) (w_ei ws (w_ar ws (n_v vs 0) 104)) (w_ei ws (w_ar ws (n_v vs 0) 108)) (w_ei ws (w_ar ws (n_v vs 0) 109)) := f10
  obtain ⟨f11, hf⟩ := fc_un (show (20 : Nat) < 100 from by decide) hf
  have f11 : RIP (w_fi ws (n_v vs 0) 79) (w_fi ws (n_v vs 0) 80) (w_fi ws (n_v vs 0) 81) (w_ei ws (w_ar ws (n_v vs 0) 82)) (w_ei ws (w_ar ws (n_v vs 0) 83)) (w_ei ws (w_ar ws (n_v vs 0) 84)) (w_ei ws (w_ar ws (n_v vs 0) 85)) (w_ei ws (w_ar ws (n_v vs 0) 86)) (w_ei ws (w_ar ws (n_v vs 0) 87)) (w_ei ws (w_ar ws (n_v vs 0) 88)) (w_ei ws (w_ar ws (n_v vs 0) 89)) := f11
  obtain ⟨f12, hf⟩ := fc_un (show (20 : Nat) < 100 from by decide) hf
  have f12 : w_fi ws (n_v vs 0) 79 = w_fi ws (n_v vs 0) 100 := f12
  obtain ⟨f13, hf⟩ := fc_un (show (20 : Nat) < 100 from by decide) hf
  have f13 : v_iv (n_v vs 2) = w_ei ws (w_ar ws (n_v vs 0) 2) (w_fi ws (n_v vs 0) 5) := f13
  obtain ⟨f14, hf⟩ := fc_un (show (20 : Nat) < 100 from by decide) hf
  have f14 : SGR (w_fi ws (n_v vs 0) 5) (w_ei ws (w_ar ws (n_v vs 0) 2)) := f14
  have cr_0_2 : ta (w_ar ws (n_v vs 0) 2) = some 152 := tv_rg (th_fd hD hth r0 (g := GG_150) rfl (k := 2) (t := (2, 0, 0, [152])) rfl rfl)
  have cr_0_82 : ta (w_ar ws (n_v vs 0) 82) = some 204 := tv_rg (th_fd hD hth r0 (g := GG_150) rfl (k := 82) (t := (2, 0, 0, [204])) rfl rfl)
  have cr_0_83 : ta (w_ar ws (n_v vs 0) 83) = some 205 := tv_rg (th_fd hD hth r0 (g := GG_150) rfl (k := 83) (t := (2, 0, 0, [205])) rfl rfl)
  have cr_0_84 : ta (w_ar ws (n_v vs 0) 84) = some 206 := tv_rg (th_fd hD hth r0 (g := GG_150) rfl (k := 84) (t := (2, 0, 0, [206])) rfl rfl)
  have cr_0_85 : ta (w_ar ws (n_v vs 0) 85) = some 207 := tv_rg (th_fd hD hth r0 (g := GG_150) rfl (k := 85) (t := (2, 0, 0, [207])) rfl rfl)
  have cr_0_86 : ta (w_ar ws (n_v vs 0) 86) = some 208 := tv_rg (th_fd hD hth r0 (g := GG_150) rfl (k := 86) (t := (2, 0, 0, [208])) rfl rfl)
  have cr_0_87 : ta (w_ar ws (n_v vs 0) 87) = some 209 := tv_rg (th_fd hD hth r0 (g := GG_150) rfl (k := 87) (t := (2, 0, 0, [209])) rfl rfl)
  have cr_0_88 : ta (w_ar ws (n_v vs 0) 88) = some 210 := tv_rg (th_fd hD hth r0 (g := GG_150) rfl (k := 88) (t := (2, 0, 0, [210])) rfl rfl)
  have cr_0_89 : ta (w_ar ws (n_v vs 0) 89) = some 211 := tv_rg (th_fd hD hth r0 (g := GG_150) rfl (k := 89) (t := (2, 0, 0, [211])) rfl rfl)
  have cr_0_95 : ta (w_ar ws (n_v vs 0) 95) = some 216 := tv_rg (th_fd hD hth r0 (g := GG_150) rfl (k := 95) (t := (2, 0, 0, [216])) rfl rfl)
  have cr_0_102 : ta (w_ar ws (n_v vs 0) 102) = some 220 := tv_rg (th_fd hD hth r0 (g := GG_150) rfl (k := 102) (t := (2, 0, 0, [220])) rfl rfl)
  have cr_0_104 : ta (w_ar ws (n_v vs 0) 104) = some 222 := tv_rg (th_fd hD hth r0 (g := GG_150) rfl (k := 104) (t := (2, 0, 0, [222])) rfl rfl)
  have cr_0_108 : ta (w_ar ws (n_v vs 0) 108) = some 225 := tv_rg (th_fd hD hth r0 (g := GG_150) rfl (k := 108) (t := (2, 0, 0, [225])) rfl rfl)
  have cr_0_109 : ta (w_ar ws (n_v vs 0) 109) = some 226 := tv_rg (th_fd hD hth r0 (g := GG_150) rfl (k := 109) (t := (2, 0, 0, [226])) rfl rfl)
  have ad_8 : v_ad (n_v vs 8) = w_ar ws (n_v vs 0) 102 := congrArg v_ad f4
  rw [ad_8] at f2
  have h2 : v_iv (n_v vs 12) = w_ei ws (w_ar ws (n_v vs 0) 102) (v_iv (n_v vs 11)) := f2
  rw [ad_8] at f5
  have h5 : v_iv (n_v vs 10) = w_ei ws (w_ar ws (n_v vs 0) 102) (v_iv (n_v vs 9)) := f5
  have hK_0_82 : ∀ j : Int, 0 ≤ j → j < 76 → 0 ≤ w_ei ws (w_ar ws (n_v vs 0) 82) j ∧ w_ei ws (w_ar ws (n_v vs 0) 82) j ≤ 221100000 := fun j h0 h1 => th_el hD hth cr_0_82 (kd := 0) (n := 76) (m := 76) (lo := 0) (hi := 221100000) (rs := []) (L := []) rfl (by decide) (j := j.toNat) (by omega)
  have hK_0_83 : ∀ j : Int, 0 ≤ j → j < 200 → 0 ≤ w_ei ws (w_ar ws (n_v vs 0) 83) j ∧ w_ei ws (w_ar ws (n_v vs 0) 83) j ≤ 75 := fun j h0 h1 => th_el hD hth cr_0_83 (kd := 0) (n := 200) (m := 200) (lo := 0) (hi := 75) (rs := []) (L := []) rfl (by decide) (j := j.toNat) (by omega)
  have hK_0_84 : ∀ j : Int, 0 ≤ j → j < 200 → 0 ≤ w_ei ws (w_ar ws (n_v vs 0) 84) j ∧ w_ei ws (w_ar ws (n_v vs 0) 84) j ≤ 75 := fun j h0 h1 => th_el hD hth cr_0_84 (kd := 0) (n := 200) (m := 200) (lo := 0) (hi := 75) (rs := []) (L := []) rfl (by decide) (j := j.toNat) (by omega)
  have hK_0_85 : ∀ j : Int, 0 ≤ j → j < 200 → 0 ≤ w_ei ws (w_ar ws (n_v vs 0) 85) j ∧ w_ei ws (w_ar ws (n_v vs 0) 85) j ≤ 72 := fun j h0 h1 => th_el hD hth cr_0_85 (kd := 0) (n := 200) (m := 200) (lo := 0) (hi := 72) (rs := []) (L := []) rfl (by decide) (j := j.toNat) (by omega)
  have hK_0_86 : ∀ j : Int, 0 ≤ j → j < 200 → 0 ≤ w_ei ws (w_ar ws (n_v vs 0) 86) j ∧ w_ei ws (w_ar ws (n_v vs 0) 86) j ≤ 1 := fun j h0 h1 => th_el hD hth cr_0_86 (kd := 2) (n := 200) (m := 200) (lo := 0) (hi := 1) (rs := []) (L := []) rfl (by decide) (j := j.toNat) (by omega)
  have hK_0_87 : ∀ j : Int, 0 ≤ j → j < 200 → 0 ≤ w_ei ws (w_ar ws (n_v vs 0) 87) j ∧ w_ei ws (w_ar ws (n_v vs 0) 87) j ≤ 75 := fun j h0 h1 => th_el hD hth cr_0_87 (kd := 0) (n := 200) (m := 200) (lo := 0) (hi := 75) (rs := []) (L := []) rfl (by decide) (j := j.toNat) (by omega)
  have hK_0_88 : ∀ j : Int, 0 ≤ j → j < 200 → 0 ≤ w_ei ws (w_ar ws (n_v vs 0) 88) j ∧ w_ei ws (w_ar ws (n_v vs 0) 88) j ≤ 75 := fun j h0 h1 => th_el hD hth cr_0_88 (kd := 0) (n := 200) (m := 200) (lo := 0) (hi := 75) (rs := []) (L := []) rfl (by decide) (j := j.toNat) (by omega)
  have hK_0_89 : ∀ j : Int, 0 ≤ j → j < 200 → 0 ≤ w_ei ws (w_ar ws (n_v vs 0) 89) j ∧ w_ei ws (w_ar ws (n_v vs 0) 89) j ≤ 202 := fun j h0 h1 => th_el hD hth cr_0_89 (kd := 0) (n := 200) (m := 200) (lo := 0) (hi := 202) (rs := []) (L := []) rfl (by decide) (j := j.toNat) (by omega)
  have hK_0_95 : ∀ j : Int, 0 ≤ j → j < 48 → 0 ≤ w_ei ws (w_ar ws (n_v vs 0) 95) j ∧ w_ei ws (w_ar ws (n_v vs 0) 95) j ≤ 1 := fun j h0 h1 => th_el hD hth cr_0_95 (kd := 2) (n := 48) (m := 48) (lo := 0) (hi := 1) (rs := []) (L := []) rfl (by decide) (j := j.toNat) (by omega)
  have hK_0_102 : ∀ j : Int, 0 ≤ j → j < 76 → 0 ≤ w_ei ws (w_ar ws (n_v vs 0) 102) j ∧ w_ei ws (w_ar ws (n_v vs 0) 102) j ≤ 75 := fun j h0 h1 => th_el hD hth cr_0_102 (kd := 0) (n := 76) (m := 76) (lo := 0) (hi := 75) (rs := []) (L := []) rfl (by decide) (j := j.toNat) (by omega)
  have hK_0_104 : ∀ j : Int, 0 ≤ j → j < 48 → 0 ≤ w_ei ws (w_ar ws (n_v vs 0) 104) j ∧ w_ei ws (w_ar ws (n_v vs 0) 104) j ≤ 76 := fun j h0 h1 => th_el hD hth cr_0_104 (kd := 0) (n := 48) (m := 48) (lo := 0) (hi := 76) (rs := []) (L := []) rfl (by decide) (j := j.toNat) (by omega)
  have hK_0_108 : ∀ j : Int, 0 ≤ j → j < 130 → 0 ≤ w_ei ws (w_ar ws (n_v vs 0) 108) j ∧ w_ei ws (w_ar ws (n_v vs 0) 108) j ≤ 75 := fun j h0 h1 => th_el hD hth cr_0_108 (kd := 0) (n := 130) (m := 130) (lo := 0) (hi := 75) (rs := []) (L := []) rfl (by decide) (j := j.toNat) (by omega)
  have hK_0_109 : ∀ j : Int, 0 ≤ j → j < 130 → 0 ≤ w_ei ws (w_ar ws (n_v vs 0) 109) j ∧ w_ei ws (w_ar ws (n_v vs 0) 109) j ≤ 75 := fun j h0 h1 => th_el hD hth cr_0_109 (kd := 0) (n := 130) (m := 130) (lo := 0) (hi := 75) (rs := []) (L := []) rfl (by decide) (j := j.toNat) (by omega)
  have kz_0_79 : 0 ≤ w_fi ws (n_v vs 0) 79 ∧ w_fi ws (n_v vs 0) 79 ≤ 76 := tv_rng (th_fd hD hth r0 (g := GG_150) rfl (k := 79) (t := (0, 0, 76, [])) rfl rfl)
  have kz_0_80 : 0 ≤ w_fi ws (n_v vs 0) 80 ∧ w_fi ws (n_v vs 0) 80 ≤ 200 := tv_rng (th_fd hD hth r0 (g := GG_150) rfl (k := 80) (t := (0, 0, 200, [])) rfl rfl)
  have kz_0_81 : 0 ≤ w_fi ws (n_v vs 0) 81 ∧ w_fi ws (n_v vs 0) 81 ≤ 200 := tv_rng (th_fd hD hth r0 (g := GG_150) rfl (k := 81) (t := (0, 0, 200, [])) rfl rfl)
  have kz_0_100 : 0 ≤ w_fi ws (n_v vs 0) 100 ∧ w_fi ws (n_v vs 0) 100 ≤ 76 := tv_rng (th_fd hD hth r0 (g := GG_150) rfl (k := 100) (t := (0, 0, 76, [])) rfl rfl)
  have kz_0_101 : 0 ≤ w_fi ws (n_v vs 0) 101 ∧ w_fi ws (n_v vs 0) 101 ≤ 76 := tv_rng (th_fd hD hth r0 (g := GG_150) rfl (k := 101) (t := (0, 0, 76, [])) rfl rfl)
  have kz_0_107 : 0 ≤ w_fi ws (n_v vs 0) 107 ∧ w_fi ws (n_v vs 0) 107 ≤ 130 := tv_rng (th_fd hD hth r0 (g := GG_150) rfl (k := 107) (t := (0, 0, 130, [])) rfl rfl)
  have hrf0 : 0 ≤ v_iv (n_v vs 15) ∧ v_iv (n_v vs 15) ≤ 22 := vc_Mo_layers_18_r0 (v_iv (n_v vs 2)) (v_iv (n_v vs 6)) (v_iv (n_v vs 7)) (v_iv (n_v vs 9)) (v_iv (n_v vs 10)) (v_iv (n_v vs 11)) (v_iv (n_v vs 12)) (v_iv (n_v vs 13)) (v_iv (n_v vs 14)) (v_iv (n_v vs 15)) (w_ei ws (w_ar ws (n_v vs 0) 102)) (w_ei ws (w_ar ws (n_v vs 0) 2)) (w_ei ws (w_ar ws (n_v vs 0) 95)) (w_fi ws (n_v vs 0) 5) (w_ei ws (w_ar ws (n_v vs 0) 104)) (w_ei ws (w_ar ws (n_v vs 0) 108)) (w_ei ws (w_ar ws (n_v vs 0) 109)) (w_fi ws (n_v vs 0) 100) (w_fi ws (n_v vs 0) 101) (w_fi ws (n_v vs 0) 107) (w_ei ws (w_ar ws (n_v vs 0) 82)) (w_ei ws (w_ar ws (n_v vs 0) 83)) (w_ei ws (w_ar ws (n_v vs 0) 84)) (w_ei ws (w_ar ws (n_v vs 0) 85)) (w_ei ws (w_ar ws (n_v vs 0) 86)) (w_ei ws (w_ar ws (n_v vs 0) 87)) (w_ei ws (w_ar ws (n_v vs 0) 88)) (w_ei ws (w_ar ws (n_v vs 0) 89)) (w_fi ws (n_v vs 0) 79) (w_fi ws (n_v vs 0) 80) (w_fi ws (n_v vs 0) 81) k2 k6 k7 k9 k10 k11 k12 k13 k14 k15 d0 d1 d2 d3 f0 f1 h2 f3 h5 f6 f7 f8 f9 f10 f11 f12 f13 f14 hK_0_82 hK_0_83 hK_0_84 hK_0_85 hK_0_86 hK_0_87 hK_0_88 hK_0_89 hK_0_95 hK_0_102 hK_0_104 hK_0_108 hK_0_109 kz_0_79 kz_0_80 kz_0_81 kz_0_100 kz_0_101 kz_0_107
  have rf15 : tv_ok ta (0, 0, 22, []) (n_v vs 15) := tv_in t15 (by first | omega | grind) (by first | omega | grind)
  refine ⟨List.forall_mem_cons.mpr ⟨rf15, (fun _ h => (by cases h))⟩, [], trivial, ?_, (fun _ h => (by cases h))⟩
  rw [List.append_nil]
  exact (fun _ h => (by cases h))
set_option maxHeartbeats 4000000 in
theorem vc_Mo_layers_19_0 (x2 : Int) (x6 : Int) (x7 : Int) (x9 : Int) (x10 : Int) (x11 : Int) (x12 : Int) (x13 : Int) (x14 : Int) (x15 : Int) (all_0 : Int → Int) (turned_0 : Int → Int) (r_0 : Int) (itemLayer_0 : Int → Int) (firstJoint_0 : Int → Int) (lineA_0 : Int → Int) (lineB_0 : Int → Int) (items_0 : Int) (layerMany_0 : Int) (lines_0 : Int) (spot_0 : Int → Int) (costA_0 : Int → Int) (costB_0 : Int → Int) (costW_0 : Int → Int) (costPlain_0 : Int → Int) (apartA_0 : Int → Int) (apartB_0 : Int → Int) (apart_0 : Int → Int) (pointMany_0 : Int) (costMany_0 : Int) (apartMany_0 : Int) (itemLayer_1 : Int → Int) (all_1 : Int → Int) (turned_1 : Int → Int) (r_1 : Int) (firstJoint_1 : Int → Int) (lineA_1 : Int → Int) (lineB_1 : Int → Int) (items_1 : Int) (layerMany_1 : Int) (lines_1 : Int) (spot_1 : Int → Int) (costA_1 : Int → Int) (costB_1 : Int → Int) (costW_1 : Int → Int) (costPlain_1 : Int → Int) (apartA_1 : Int → Int) (apartB_1 : Int → Int) (apart_1 : Int → Int) (pointMany_1 : Int) (costMany_1 : Int) (apartMany_1 : Int) (bm_0 : Int → Int) (bm_1 : Int → Int) (k2 : 0 ≤ x2 ∧ x2 ≤ 24) (k6 : 0 ≤ x6 ∧ x6 ≤ 47) (k7 : 1 ≤ x7 ∧ x7 ≤ 48) (k9 : 0 ≤ x9 ∧ x9 ≤ 23) (k10 : 0 ≤ x10 ∧ x10 ≤ 23) (k11 : 0 ≤ x11 ∧ x11 ≤ 23) (k12 : 0 ≤ x12 ∧ x12 ≤ 23) (k13 : (-23) ≤ x13 ∧ x13 ≤ 23) (k14 : 1 ≤ x14 ∧ x14 ≤ 1) (k15 : 0 ≤ x15 ∧ x15 ≤ 22) (d0 : x13 + (-1) ≤ x15 ∧ x15 ≤ x13 + (-1)) (d1 : x10 + (-24) ≤ x15 ∧ x15 ≤ x10 + (-1)) (d2 : x10 + (-23) ≤ x13 ∧ x13 ≤ x10 + 0) (d3 : x7 + (-4294967296) ≤ x6 ∧ x6 ≤ x7 + (-1)) (f0 : FRO (r_0) (all_0) (turned_0) (x6) (x11)) (f1 : TOO (r_0) (all_0) (turned_0) (x6) (x9)) (f2 : 1 * x7 + ((-1) * all_0 (r_0 + 1) + 0) ≤ 0) (f3 : (-1) * x7 + (1 * all_0 (r_0 + 1) + 0) ≤ 0) (f4 : LSA (r_0) (items_0) (layerMany_0) (lines_0) (all_0) (turned_0) (itemLayer_0) (firstJoint_0) (lineA_0) (lineB_0)) (f5 : RIP (pointMany_0) (costMany_0) (apartMany_0) (spot_0) (costA_0) (costB_0) (costW_0) (costPlain_0) (apartA_0) (apartB_0) (apart_0)) (f6 : pointMany_0 = items_0) (f7 : x2 = all_0 (r_0)) (f8 : SGR (r_0) (all_0)) (f11 : x15 = x13 - x14) (f12 : x13 = x10 - x12) (h13 : x12 = itemLayer_1 (x11)) (f14 : FRO (r_1) (all_1) (turned_1) (x6) (x11)) (h16 : x10 = itemLayer_1 (x9)) (f17 : TOO (r_1) (all_1) (turned_1) (x6) (x9)) (f18 : x6 < x7) (f19 : 1 * x7 + ((-1) * all_1 (r_0 + 1) + 0) ≤ 0) (f20 : (-1) * x7 + (1 * all_1 (r_0 + 1) + 0) ≤ 0) (f21 : LSA (r_1) (items_1) (layerMany_1) (lines_1) (all_1) (turned_1) (itemLayer_1) (firstJoint_1) (lineA_1) (lineB_1)) (f22 : RIP (pointMany_1) (costMany_1) (apartMany_1) (spot_1) (costA_1) (costB_1) (costW_1) (costPlain_1) (apartA_1) (apartB_1) (apart_1)) (f23 : pointMany_1 = items_1) (f24 : x2 = all_1 (r_1)) (f25 : SGR (r_1) (all_1)) (fe_0_5_1 : r_0 = r_1) (fe_0_79_1 : pointMany_0 = pointMany_1) (fe_0_80_1 : costMany_0 = costMany_1) (fe_0_81_1 : apartMany_0 = apartMany_1) (fe_0_100_1 : items_0 = items_1) (fe_0_101_1 : layerMany_0 = layerMany_1) (fe_0_107_1 : lines_0 = lines_1) (hE_0_2_1 : ∀ j : Int, all_0 j = all_1 j) (hE_0_76_1 : ∀ j : Int, 0 ≤ j → (j = x6 → bm_0 j = x15) ∧ (j ≠ x6 → bm_0 j = bm_1 j)) (hK_0_76 : ∀ j : Int, 0 ≤ j → j < 48 → 0 ≤ bm_0 j ∧ bm_0 j ≤ 24) (hE_0_82_1 : ∀ j : Int, spot_0 j = spot_1 j) (hK_0_82 : ∀ j : Int, 0 ≤ j → j < 76 → 0 ≤ spot_0 j ∧ spot_0 j ≤ 221100000) (hE_0_83_1 : ∀ j : Int, costA_0 j = costA_1 j) (hK_0_83 : ∀ j : Int, 0 ≤ j → j < 200 → 0 ≤ costA_0 j ∧ costA_0 j ≤ 75) (hE_0_84_1 : ∀ j : Int, costB_0 j = costB_1 j) (hK_0_84 : ∀ j : Int, 0 ≤ j → j < 200 → 0 ≤ costB_0 j ∧ costB_0 j ≤ 75) (hE_0_85_1 : ∀ j : Int, costW_0 j = costW_1 j) (hK_0_85 : ∀ j : Int, 0 ≤ j → j < 200 → 0 ≤ costW_0 j ∧ costW_0 j ≤ 72) (hE_0_86_1 : ∀ j : Int, costPlain_0 j = costPlain_1 j) (hK_0_86 : ∀ j : Int, 0 ≤ j → j < 200 → 0 ≤ costPlain_0 j ∧ costPlain_0 j ≤ 1) (hE_0_87_1 : ∀ j : Int, apartA_0 j = apartA_1 j) (hK_0_87 : ∀ j : Int, 0 ≤ j → j < 200 → 0 ≤ apartA_0 j ∧ apartA_0 j ≤ 75) (hE_0_88_1 : ∀ j : Int, apartB_0 j = apartB_1 j) (hK_0_88 : ∀ j : Int, 0 ≤ j → j < 200 → 0 ≤ apartB_0 j ∧ apartB_0 j ≤ 75) (hE_0_89_1 : ∀ j : Int, apart_0 j = apart_1 j) (hK_0_89 : ∀ j : Int, 0 ≤ j → j < 200 → 0 ≤ apart_0 j ∧ apart_0 j ≤ 202) (hE_0_95_1 : ∀ j : Int, turned_0 j = turned_1 j) (hK_0_95 : ∀ j : Int, 0 ≤ j → j < 48 → 0 ≤ turned_0 j ∧ turned_0 j ≤ 1) (hE_0_102_1 : ∀ j : Int, itemLayer_0 j = itemLayer_1 j) (hK_0_102 : ∀ j : Int, 0 ≤ j → j < 76 → 0 ≤ itemLayer_0 j ∧ itemLayer_0 j ≤ 75) (hE_0_104_1 : ∀ j : Int, firstJoint_0 j = firstJoint_1 j) (hK_0_104 : ∀ j : Int, 0 ≤ j → j < 48 → 0 ≤ firstJoint_0 j ∧ firstJoint_0 j ≤ 76) (hE_0_108_1 : ∀ j : Int, lineA_0 j = lineA_1 j) (hK_0_108 : ∀ j : Int, 0 ≤ j → j < 130 → 0 ≤ lineA_0 j ∧ lineA_0 j ≤ 75) (hE_0_109_1 : ∀ j : Int, lineB_0 j = lineB_1 j) (hK_0_109 : ∀ j : Int, 0 ≤ j → j < 130 → 0 ≤ lineB_0 j ∧ lineB_0 j ≤ 75) (kz_0_79 : 0 ≤ pointMany_0 ∧ pointMany_0 ≤ 76) (kz_0_80 : 0 ≤ costMany_0 ∧ costMany_0 ≤ 200) (kz_0_81 : 0 ≤ apartMany_0 ∧ apartMany_0 ≤ 200) (kz_0_100 : 0 ≤ items_0 ∧ items_0 ≤ 76) (kz_0_101 : 0 ≤ layerMany_0 ∧ layerMany_0 ≤ 76) (kz_0_107 : 0 ≤ lines_0 ∧ lines_0 ≤ 130) : JMX (r_0) (items_0) (all_0) (turned_0) (itemLayer_0) (firstJoint_0) (x6) (x15) := by
  subst fe_0_5_1
  subst fe_0_79_1
  subst fe_0_80_1
  subst fe_0_81_1
  subst fe_0_100_1
  subst fe_0_101_1
  subst fe_0_107_1
  have e_hE_0_2_1 := funext hE_0_2_1; subst e_hE_0_2_1
  have e_hE_0_82_1 := funext hE_0_82_1; subst e_hE_0_82_1
  have e_hE_0_83_1 := funext hE_0_83_1; subst e_hE_0_83_1
  have e_hE_0_84_1 := funext hE_0_84_1; subst e_hE_0_84_1
  have e_hE_0_85_1 := funext hE_0_85_1; subst e_hE_0_85_1
  have e_hE_0_86_1 := funext hE_0_86_1; subst e_hE_0_86_1
  have e_hE_0_87_1 := funext hE_0_87_1; subst e_hE_0_87_1
  have e_hE_0_88_1 := funext hE_0_88_1; subst e_hE_0_88_1
  have e_hE_0_89_1 := funext hE_0_89_1; subst e_hE_0_89_1
  have e_hE_0_95_1 := funext hE_0_95_1; subst e_hE_0_95_1
  have e_hE_0_102_1 := funext hE_0_102_1; subst e_hE_0_102_1
  have e_hE_0_104_1 := funext hE_0_104_1; subst e_hE_0_104_1
  have e_hE_0_108_1 := funext hE_0_108_1; subst e_hE_0_108_1
  have e_hE_0_109_1 := funext hE_0_109_1; subst e_hE_0_109_1
  first
    | assumption
    | exact jmx_of (e := x6) (m := x15) (a := x11) (b := x9) (ya := x12) (yb := x10) ‹LSA _ _ _ _ _ _ _ _ _ _› (by omega) (by omega) (by assumption) (by assumption) (by assumption) (by assumption) (by omega)
set_option maxHeartbeats 4000000 in
theorem vc_Mo_layers_19_1 (x2 : Int) (x6 : Int) (x7 : Int) (x9 : Int) (x10 : Int) (x11 : Int) (x12 : Int) (x13 : Int) (x14 : Int) (x15 : Int) (all_0 : Int → Int) (turned_0 : Int → Int) (r_0 : Int) (itemLayer_0 : Int → Int) (firstJoint_0 : Int → Int) (lineA_0 : Int → Int) (lineB_0 : Int → Int) (items_0 : Int) (layerMany_0 : Int) (lines_0 : Int) (spot_0 : Int → Int) (costA_0 : Int → Int) (costB_0 : Int → Int) (costW_0 : Int → Int) (costPlain_0 : Int → Int) (apartA_0 : Int → Int) (apartB_0 : Int → Int) (apart_0 : Int → Int) (pointMany_0 : Int) (costMany_0 : Int) (apartMany_0 : Int) (itemLayer_1 : Int → Int) (all_1 : Int → Int) (turned_1 : Int → Int) (r_1 : Int) (firstJoint_1 : Int → Int) (lineA_1 : Int → Int) (lineB_1 : Int → Int) (items_1 : Int) (layerMany_1 : Int) (lines_1 : Int) (spot_1 : Int → Int) (costA_1 : Int → Int) (costB_1 : Int → Int) (costW_1 : Int → Int) (costPlain_1 : Int → Int) (apartA_1 : Int → Int) (apartB_1 : Int → Int) (apart_1 : Int → Int) (pointMany_1 : Int) (costMany_1 : Int) (apartMany_1 : Int) (bm_0 : Int → Int) (bm_1 : Int → Int) (k2 : 0 ≤ x2 ∧ x2 ≤ 24) (k6 : 0 ≤ x6 ∧ x6 ≤ 47) (k7 : 1 ≤ x7 ∧ x7 ≤ 48) (k9 : 0 ≤ x9 ∧ x9 ≤ 23) (k10 : 0 ≤ x10 ∧ x10 ≤ 23) (k11 : 0 ≤ x11 ∧ x11 ≤ 23) (k12 : 0 ≤ x12 ∧ x12 ≤ 23) (k13 : (-23) ≤ x13 ∧ x13 ≤ 23) (k14 : 1 ≤ x14 ∧ x14 ≤ 1) (k15 : 0 ≤ x15 ∧ x15 ≤ 22) (d0 : x13 + (-1) ≤ x15 ∧ x15 ≤ x13 + (-1)) (d1 : x10 + (-24) ≤ x15 ∧ x15 ≤ x10 + (-1)) (d2 : x10 + (-23) ≤ x13 ∧ x13 ≤ x10 + 0) (d3 : x7 + (-4294967296) ≤ x6 ∧ x6 ≤ x7 + (-1)) (f0 : FRO (r_0) (all_0) (turned_0) (x6) (x11)) (f1 : TOO (r_0) (all_0) (turned_0) (x6) (x9)) (f2 : 1 * x7 + ((-1) * all_0 (r_0 + 1) + 0) ≤ 0) (f3 : (-1) * x7 + (1 * all_0 (r_0 + 1) + 0) ≤ 0) (f4 : LSA (r_0) (items_0) (layerMany_0) (lines_0) (all_0) (turned_0) (itemLayer_0) (firstJoint_0) (lineA_0) (lineB_0)) (f5 : RIP (pointMany_0) (costMany_0) (apartMany_0) (spot_0) (costA_0) (costB_0) (costW_0) (costPlain_0) (apartA_0) (apartB_0) (apart_0)) (f6 : pointMany_0 = items_0) (f7 : x2 = all_0 (r_0)) (f8 : SGR (r_0) (all_0)) (f11 : x15 = x13 - x14) (f12 : x13 = x10 - x12) (h13 : x12 = itemLayer_1 (x11)) (f14 : FRO (r_1) (all_1) (turned_1) (x6) (x11)) (h16 : x10 = itemLayer_1 (x9)) (f17 : TOO (r_1) (all_1) (turned_1) (x6) (x9)) (f18 : x6 < x7) (f19 : 1 * x7 + ((-1) * all_1 (r_0 + 1) + 0) ≤ 0) (f20 : (-1) * x7 + (1 * all_1 (r_0 + 1) + 0) ≤ 0) (f21 : LSA (r_1) (items_1) (layerMany_1) (lines_1) (all_1) (turned_1) (itemLayer_1) (firstJoint_1) (lineA_1) (lineB_1)) (f22 : RIP (pointMany_1) (costMany_1) (apartMany_1) (spot_1) (costA_1) (costB_1) (costW_1) (costPlain_1) (apartA_1) (apartB_1) (apart_1)) (f23 : pointMany_1 = items_1) (f24 : x2 = all_1 (r_1)) (f25 : SGR (r_1) (all_1)) (fe_0_5_1 : r_0 = r_1) (fe_0_79_1 : pointMany_0 = pointMany_1) (fe_0_80_1 : costMany_0 = costMany_1) (fe_0_81_1 : apartMany_0 = apartMany_1) (fe_0_100_1 : items_0 = items_1) (fe_0_101_1 : layerMany_0 = layerMany_1) (fe_0_107_1 : lines_0 = lines_1) (hE_0_2_1 : ∀ j : Int, all_0 j = all_1 j) (hE_0_76_1 : ∀ j : Int, 0 ≤ j → (j = x6 → bm_0 j = x15) ∧ (j ≠ x6 → bm_0 j = bm_1 j)) (hK_0_76 : ∀ j : Int, 0 ≤ j → j < 48 → 0 ≤ bm_0 j ∧ bm_0 j ≤ 24) (hE_0_82_1 : ∀ j : Int, spot_0 j = spot_1 j) (hK_0_82 : ∀ j : Int, 0 ≤ j → j < 76 → 0 ≤ spot_0 j ∧ spot_0 j ≤ 221100000) (hE_0_83_1 : ∀ j : Int, costA_0 j = costA_1 j) (hK_0_83 : ∀ j : Int, 0 ≤ j → j < 200 → 0 ≤ costA_0 j ∧ costA_0 j ≤ 75) (hE_0_84_1 : ∀ j : Int, costB_0 j = costB_1 j) (hK_0_84 : ∀ j : Int, 0 ≤ j → j < 200 → 0 ≤ costB_0 j ∧ costB_0 j ≤ 75) (hE_0_85_1 : ∀ j : Int, costW_0 j = costW_1 j) (hK_0_85 : ∀ j : Int, 0 ≤ j → j < 200 → 0 ≤ costW_0 j ∧ costW_0 j ≤ 72) (hE_0_86_1 : ∀ j : Int, costPlain_0 j = costPlain_1 j) (hK_0_86 : ∀ j : Int, 0 ≤ j → j < 200 → 0 ≤ costPlain_0 j ∧ costPlain_0 j ≤ 1) (hE_0_87_1 : ∀ j : Int, apartA_0 j = apartA_1 j) (hK_0_87 : ∀ j : Int, 0 ≤ j → j < 200 → 0 ≤ apartA_0 j ∧ apartA_0 j ≤ 75) (hE_0_88_1 : ∀ j : Int, apartB_0 j = apartB_1 j) (hK_0_88 : ∀ j : Int, 0 ≤ j → j < 200 → 0 ≤ apartB_0 j ∧ apartB_0 j ≤ 75) (hE_0_89_1 : ∀ j : Int, apart_0 j = apart_1 j) (hK_0_89 : ∀ j : Int, 0 ≤ j → j < 200 → 0 ≤ apart_0 j ∧ apart_0 j ≤ 202) (hE_0_95_1 : ∀ j : Int, turned_0 j = turned_1 j) (hK_0_95 : ∀ j : Int, 0 ≤ j → j < 48 → 0 ≤ turned_0 j ∧ turned_0 j ≤ 1) (hE_0_102_1 : ∀ j : Int, itemLayer_0 j = itemLayer_1 j) (hK_0_102 : ∀ j : Int, 0 ≤ j → j < 76 → 0 ≤ itemLayer_0 j ∧ itemLayer_0 j ≤ 75) (hE_0_104_1 : ∀ j : Int, firstJoint_0 j = firstJoint_1 j) (hK_0_104 : ∀ j : Int, 0 ≤ j → j < 48 → 0 ≤ firstJoint_0 j ∧ firstJoint_0 j ≤ 76) (hE_0_108_1 : ∀ j : Int, lineA_0 j = lineA_1 j) (hK_0_108 : ∀ j : Int, 0 ≤ j → j < 130 → 0 ≤ lineA_0 j ∧ lineA_0 j ≤ 75) (hE_0_109_1 : ∀ j : Int, lineB_0 j = lineB_1 j) (hK_0_109 : ∀ j : Int, 0 ≤ j → j < 130 → 0 ≤ lineB_0 j ∧ lineB_0 j ≤ 75) (kz_0_79 : 0 ≤ pointMany_0 ∧ pointMany_0 ≤ 76) (kz_0_80 : 0 ≤ costMany_0 ∧ costMany_0 ≤ 200) (kz_0_81 : 0 ≤ apartMany_0 ∧ apartMany_0 ≤ 200) (kz_0_100 : 0 ≤ items_0 ∧ items_0 ≤ 76) (kz_0_101 : 0 ≤ layerMany_0 ∧ layerMany_0 ≤ 76) (kz_0_107 : 0 ≤ lines_0 ∧ lines_0 ≤ 130) : (x6 + 1) ≤ all_0 ((r_0 + 1)) := by
  subst fe_0_5_1
  subst fe_0_79_1
  subst fe_0_80_1
  subst fe_0_81_1
  subst fe_0_100_1
  subst fe_0_101_1
  subst fe_0_107_1
  have e_hE_0_2_1 := funext hE_0_2_1; subst e_hE_0_2_1
  have e_hE_0_82_1 := funext hE_0_82_1; subst e_hE_0_82_1
  have e_hE_0_83_1 := funext hE_0_83_1; subst e_hE_0_83_1
  have e_hE_0_84_1 := funext hE_0_84_1; subst e_hE_0_84_1
  have e_hE_0_85_1 := funext hE_0_85_1; subst e_hE_0_85_1
  have e_hE_0_86_1 := funext hE_0_86_1; subst e_hE_0_86_1
  have e_hE_0_87_1 := funext hE_0_87_1; subst e_hE_0_87_1
  have e_hE_0_88_1 := funext hE_0_88_1; subst e_hE_0_88_1
  have e_hE_0_89_1 := funext hE_0_89_1; subst e_hE_0_89_1
  have e_hE_0_95_1 := funext hE_0_95_1; subst e_hE_0_95_1
  have e_hE_0_102_1 := funext hE_0_102_1; subst e_hE_0_102_1
  have e_hE_0_104_1 := funext hE_0_104_1; subst e_hE_0_104_1
  have e_hE_0_108_1 := funext hE_0_108_1; subst e_hE_0_108_1
  have e_hE_0_109_1 := funext hE_0_109_1; subst e_hE_0_109_1
  try simp only [Int.add_zero] at *
  first
    | omega
    | (have h := ‹SGR _ _›.1; omega)
    | (have h := ‹LSA _ _ _ _ _ _ _ _ _ _›.2.1; have h2 := ‹LSA _ _ _ _ _ _ _ _ _ _›.2.2.1 0 (by omega) (by omega); omega)
def o_Mo_layers_19 : or_T := (335, 18, [(0, (2, 0, 0, [150])), (2, (0, 0, 24, [])), (6, (0, 0, 47, [])), (7, (0, 1, 48, [])), (8, (2, 0, 0, [220])), (9, (0, 0, 23, [])), (10, (0, 0, 23, [])), (11, (0, 0, 23, [])), (12, (0, 0, 23, [])), (13, (0, -23, 23, [])), (14, (0, 1, 1, [])), (15, (0, 0, 22, [])), (16, (2, 0, 0, [201]))], [(20, [0, 6, 11], [60, 1, 2, 356, 5, 2, 95]), (20, [0, 6, 9], [60, 1, 2, 357, 5, 2, 95]), (20, [7, 0], [30, 0, 1, 0, 0, -1, 3, 2005001]), (20, [7, 0], [30, 0, -1, 0, 0, 1, 3, 2005001]), (20, [0], [60, 4, 6, 369, 5, 100, 101, 107, 2, 95, 102, 104, 108, 109]), (20, [0], [60, 3, 8, 348, 79, 80, 81, 82, 83, 84, 85, 86, 87, 88, 89]), (20, [0], [50, 2, 0, 79, 100, 1, 3, 2, 0, 79, 2, 0, 100]), (20, [2, 0], [50, 1, 1, 1005, 1002, 1, 2, 1, 0, 3, 1, 2, 2, 1, 5]), (20, [0], [60, 1, 1, 122, 5, 2]), (100, [16, 6, 15], []), (9, [16, 0], [76]), (2, [15, 13, 14], []), (2, [13, 10, 12], []), (10, [12, 8, 11], []), (20, [0, 6, 11], [60, 1, 2, 356, 5, 2, 95]), (9, [8, 0], [102]), (10, [10, 8, 9], []), (20, [0, 6, 9], [60, 1, 2, 357, 5, 2, 95]), (7, [6, 7], [2]), (20, [7, 0], [30, 0, 1, 0, 0, -1, 3, 2005001]), (20, [7, 0], [30, 0, -1, 0, 0, 1, 3, 2005001]), (20, [0], [60, 4, 6, 369, 5, 100, 101, 107, 2, 95, 102, 104, 108, 109]), (20, [0], [60, 3, 8, 348, 79, 80, 81, 82, 83, 84, 85, 86, 87, 88, 89]), (20, [0], [50, 2, 0, 79, 100, 1, 3, 2, 0, 79, 2, 0, 100]), (20, [2, 0], [50, 1, 1, 1005, 1002, 1, 2, 1, 0, 3, 1, 2, 2, 1, 5]), (20, [0], [60, 1, 1, 122, 5, 2])], [], [], [(20, [0, 6, 15], [60, 2, 4, 417, 5, 100, 2, 95, 102, 104]), (20, [6, 0], [50, 1, 1, 1005, 1002, 0, 6, 4, 2, 1, 0, 0, 1, 3, 1, 2, 4, 3, 2, 1, 5, 0, 1])], [], [(15, 13, -1, -1), (15, 10, -24, -1), (13, 10, -23, 0), (6, 7, -4294967296, -1)])
theorem oo_Mo_layers_19 {kA : Nat → ClassId} : or_ok PRD kA GG o_Mo_layers_19 := by
  intro A ta ws vs hD hth hl hk hds hf
  have hl : vs.length = 18 := hl
  have hk : ∀ q ∈ ([(0, (2, 0, 0, [150])), (2, (0, 0, 24, [])), (6, (0, 0, 47, [])), (7, (0, 1, 48, [])), (8, (2, 0, 0, [220])), (9, (0, 0, 23, [])), (10, (0, 0, 23, [])), (11, (0, 0, 23, [])), (12, (0, 0, 23, [])), (13, (0, -23, 23, [])), (14, (0, 1, 1, [])), (15, (0, 0, 22, [])), (16, (2, 0, 0, [201]))] : List (Nat × tv_T)), tv_ok ta q.2 (n_v vs q.1) := hk
  obtain ⟨t0, hk⟩ := List.forall_mem_cons.mp hk
  have t0 : tv_ok ta (2, 0, 0, [150]) (n_v vs 0) := t0
  have r0 : ta (v_ad (n_v vs 0)) = some 150 := tv_rg t0
  obtain ⟨t2, hk⟩ := List.forall_mem_cons.mp hk
  have t2 : tv_ok ta (0, 0, 24, []) (n_v vs 2) := t2
  have k2 : 0 ≤ v_iv (n_v vs 2) ∧ v_iv (n_v vs 2) ≤ 24 := tv_rng t2
  obtain ⟨t6, hk⟩ := List.forall_mem_cons.mp hk
  have t6 : tv_ok ta (0, 0, 47, []) (n_v vs 6) := t6
  have k6 : 0 ≤ v_iv (n_v vs 6) ∧ v_iv (n_v vs 6) ≤ 47 := tv_rng t6
  obtain ⟨t7, hk⟩ := List.forall_mem_cons.mp hk
  have t7 : tv_ok ta (0, 1, 48, []) (n_v vs 7) := t7
  have k7 : 1 ≤ v_iv (n_v vs 7) ∧ v_iv (n_v vs 7) ≤ 48 := tv_rng t7
  obtain ⟨t8, hk⟩ := List.forall_mem_cons.mp hk
  have t8 : tv_ok ta (2, 0, 0, [220]) (n_v vs 8) := t8
  have r8 : ta (v_ad (n_v vs 8)) = some 220 := tv_rg t8
  obtain ⟨t9, hk⟩ := List.forall_mem_cons.mp hk
  have t9 : tv_ok ta (0, 0, 23, []) (n_v vs 9) := t9
  have k9 : 0 ≤ v_iv (n_v vs 9) ∧ v_iv (n_v vs 9) ≤ 23 := tv_rng t9
  obtain ⟨t10, hk⟩ := List.forall_mem_cons.mp hk
  have t10 : tv_ok ta (0, 0, 23, []) (n_v vs 10) := t10
  have k10 : 0 ≤ v_iv (n_v vs 10) ∧ v_iv (n_v vs 10) ≤ 23 := tv_rng t10
  obtain ⟨t11, hk⟩ := List.forall_mem_cons.mp hk
  have t11 : tv_ok ta (0, 0, 23, []) (n_v vs 11) := t11
  have k11 : 0 ≤ v_iv (n_v vs 11) ∧ v_iv (n_v vs 11) ≤ 23 := tv_rng t11
  obtain ⟨t12, hk⟩ := List.forall_mem_cons.mp hk
  have t12 : tv_ok ta (0, 0, 23, []) (n_v vs 12) := t12
  have k12 : 0 ≤ v_iv (n_v vs 12) ∧ v_iv (n_v vs 12) ≤ 23 := tv_rng t12
  obtain ⟨t13, hk⟩ := List.forall_mem_cons.mp hk
  have t13 : tv_ok ta (0, -23, 23, []) (n_v vs 13) := t13
  have k13 : (-23) ≤ v_iv (n_v vs 13) ∧ v_iv (n_v vs 13) ≤ 23 := tv_rng t13
  obtain ⟨t14, hk⟩ := List.forall_mem_cons.mp hk
  have t14 : tv_ok ta (0, 1, 1, []) (n_v vs 14) := t14
  have k14 : 1 ≤ v_iv (n_v vs 14) ∧ v_iv (n_v vs 14) ≤ 1 := tv_rng t14
  obtain ⟨t15, hk⟩ := List.forall_mem_cons.mp hk
  have t15 : tv_ok ta (0, 0, 22, []) (n_v vs 15) := t15
  have k15 : 0 ≤ v_iv (n_v vs 15) ∧ v_iv (n_v vs 15) ≤ 22 := tv_rng t15
  obtain ⟨t16, hk⟩ := List.forall_mem_cons.mp hk
  have t16 : tv_ok ta (2, 0, 0, [201]) (n_v vs 16) := t16
  have r16 : ta (v_ad (n_v vs 16)) = some 201 := tv_rg t16
  have hds : ∀ q ∈ ([(15, 13, -1, -1), (15, 10, -24, -1), (13, 10, -23, 0), (6, 7, -4294967296, -1)] : List of_T), n_iv vs q.2.1 + q.2.2.1 ≤ n_iv vs q.1 ∧ n_iv vs q.1 ≤ n_iv vs q.2.1 + q.2.2.2 := hds
  obtain ⟨d0, hds⟩ := List.forall_mem_cons.mp hds
  have d0 : v_iv (n_v vs 13) + (-1) ≤ v_iv (n_v vs 15) ∧ v_iv (n_v vs 15) ≤ v_iv (n_v vs 13) + (-1) := d0
  obtain ⟨d1, hds⟩ := List.forall_mem_cons.mp hds
  have d1 : v_iv (n_v vs 10) + (-24) ≤ v_iv (n_v vs 15) ∧ v_iv (n_v vs 15) ≤ v_iv (n_v vs 10) + (-1) := d1
  obtain ⟨d2, hds⟩ := List.forall_mem_cons.mp hds
  have d2 : v_iv (n_v vs 10) + (-23) ≤ v_iv (n_v vs 13) ∧ v_iv (n_v vs 13) ≤ v_iv (n_v vs 10) + 0 := d2
  obtain ⟨d3, hds⟩ := List.forall_mem_cons.mp hds
  have d3 : v_iv (n_v vs 7) + (-4294967296) ≤ v_iv (n_v vs 6) ∧ v_iv (n_v vs 6) ≤ v_iv (n_v vs 7) + (-1) := d3
  have hf : fc_ok PRD [(20, [0, 6, 11], [60, 1, 2, 356, 5, 2, 95]), (20, [0, 6, 9], [60, 1, 2, 357, 5, 2, 95]), (20, [7, 0], [30, 0, 1, 0, 0, -1, 3, 2005001]), (20, [7, 0], [30, 0, -1, 0, 0, 1, 3, 2005001]), (20, [0], [60, 4, 6, 369, 5, 100, 101, 107, 2, 95, 102, 104, 108, 109]), (20, [0], [60, 3, 8, 348, 79, 80, 81, 82, 83, 84, 85, 86, 87, 88, 89]), (20, [0], [50, 2, 0, 79, 100, 1, 3, 2, 0, 79, 2, 0, 100]), (20, [2, 0], [50, 1, 1, 1005, 1002, 1, 2, 1, 0, 3, 1, 2, 2, 1, 5]), (20, [0], [60, 1, 1, 122, 5, 2]), (100, [16, 6, 15], []), (9, [16, 0], [76]), (2, [15, 13, 14], []), (2, [13, 10, 12], []), (10, [12, 8, 11], []), (20, [0, 6, 11], [60, 1, 2, 356, 5, 2, 95]), (9, [8, 0], [102]), (10, [10, 8, 9], []), (20, [0, 6, 9], [60, 1, 2, 357, 5, 2, 95]), (7, [6, 7], [2]), (20, [7, 0], [30, 0, 1, 0, 0, -1, 3, 2005001]), (20, [7, 0], [30, 0, -1, 0, 0, 1, 3, 2005001]), (20, [0], [60, 4, 6, 369, 5, 100, 101, 107, 2, 95, 102, 104, 108, 109]), (20, [0], [60, 3, 8, 348, 79, 80, 81, 82, 83, 84, 85, 86, 87, 88, 89]), (20, [0], [50, 2, 0, 79, 100, 1, 3, 2, 0, 79, 2, 0, 100]), (20, [2, 0], [50, 1, 1, 1005, 1002, 1, 2, 1, 0, 3, 1, 2, 2, 1, 5]), (20, [0], [60, 1, 1, 122, 5, 2])] ta ws vs := hf
  obtain ⟨f0, hf⟩ := fc_un (show (20 : Nat) < 100 from by decide) hf
  have f0 : FRO (w_fi ws (n_v vs 0) 5) (w_ei ws (w_ar ws (n_v vs 0) 2)) (w_ei ws (w_ar ws (n_v vs 0) 95)) (v_iv (n_v vs 6)) (v_iv (n_v vs 11)) := f0
  obtain ⟨f1, hf⟩ := fc_un (show (20 : Nat) < 100 from by decide) hf
  have f1 : TOO (w_fi ws (n_v vs 0) 5) (w_ei ws (w_ar ws (n_v vs 0) 2)) (w_ei ws (w_ar ws (n_v vs 0) 95)) (v_iv (n_v vs 6)) (v_iv (n_v vs 9)) := f1
  obtain ⟨f2, hf⟩ := fc_un (show (20 : Nat) < 100 from by decide) hf
  have f2 : 1 * v_iv (n_v vs 7) + ((-1) * w_el ws (w_ar ws (n_v vs 0) 2) (w_fi ws (n_v vs 0) 5 + 1).toNat + 0) ≤ 0 := f2
  obtain ⟨f3, hf⟩ := fc_un (show (20 : Nat) < 100 from by decide) hf
  have f3 : (-1) * v_iv (n_v vs 7) + (1 * w_el ws (w_ar ws (n_v vs 0) 2) (w_fi ws (n_v vs 0) 5 + 1).toNat + 0) ≤ 0 := f3
  obtain ⟨f4, hf⟩ := fc_un (show (20 : Nat) < 100 from by decide) hf
  have f4 : LSA (w_fi ws (n_v vs 0) 5) (w_fi ws (n_v vs 0) 100) (w_fi ws (n_v vs 0) 101) (w_fi ws (n_v vs 0) 107) (w_ei ws (w_ar ws (n_v vs 0) 2)) (w_ei ws (w_ar ws (n_v vs 0) 95)) (w_ei ws (w_ar ws (n_v vs 0) 102)) (w_ei ws (w_ar ws (n_v vs 0) 104)) (w_ei ws (w_ar ws (n_v vs 0) 108)) (w_ei ws (w_ar ws (n_v vs 0) 109)) := f4
  obtain ⟨f5, hf⟩ := fc_un (show (20 : Nat) < 100 from by decide) hf
  have f5 : RIP (w_fi ws (n_v vs 0) 79) (w_fi ws (n_v vs 0) 80) (w_fi ws (n_v vs 0) 81) (w_ei ws (w_ar ws (n_v vs 0) 82)) (w_ei ws (w_ar ws (n_v vs 0) 83)) (w_ei ws (w_ar ws (n_v vs 0) 84)) (w_ei ws (w_ar ws (n_v vs 0) 85)) (w_ei ws (w_ar ws (n_v vs 0) 86)) (w_ei ws (w_ar ws (n_v vs 0) 87)) (w_ei ws (w_ar ws (n_v vs 0) 88)) (w_ei ws (w_ar ws (n_v vs 0) 89)) := f5
  obtain ⟨f6, hf⟩ := fc_un (show (20 : Nat) < 100 from by decide) hf
  have f6 : w_fi ws (n_v vs 0) 79 = w_fi ws (n_v vs 0) 100 := f6
  obtain ⟨f7, hf⟩ := fc_un (show (20 : Nat) < 100 from by decide) hf
  have f7 : v_iv (n_v vs 2) = w_ei ws (w_ar ws (n_v vs 0) 2) (w_fi ws (n_v vs 0) 5) := f7
  obtain ⟨f8, hf⟩ := fc_un (show (20 : Nat) < 100 from by decide) hf
  have f8 : SGR (w_fi ws (n_v vs 0) 5) (w_ei ws (w_ar ws (n_v vs 0) 2)) := f8
  obtain ⟨ta1, w1, le1, ⟨_, s1⟩, hf⟩ := fc_us (show ¬ (100 : Nat) < 100 from by decide) hf
  have s1 : (∀ b j, w_el ws b j = if b = v_ad (n_v vs 16) ∧ j = (v_iv (n_v vs 6)).toNat then v_iv (n_v vs 15) else w_el w1 b j) ∧ ∀ b k, w_fd ws b k = w_fd w1 b k := s1
  obtain ⟨f10, hf⟩ := fc_un (show (9 : Nat) < 100 from by decide) hf
  have f10 : n_v vs 16 = w_fd w1 (v_ad (n_v vs 0)) 76 := f10
  obtain ⟨f11, hf⟩ := fc_un (show (2 : Nat) < 100 from by decide) hf
  have f11 : v_iv (n_v vs 15) = v_iv (n_v vs 13) - v_iv (n_v vs 14) := f11
  obtain ⟨f12, hf⟩ := fc_un (show (2 : Nat) < 100 from by decide) hf
  have f12 : v_iv (n_v vs 13) = v_iv (n_v vs 10) - v_iv (n_v vs 12) := f12
  obtain ⟨f13, hf⟩ := fc_un (show (10 : Nat) < 100 from by decide) hf
  have f13 : v_iv (n_v vs 12) = w_el w1 (v_ad (n_v vs 8)) (v_iv (n_v vs 11)).toNat := f13
  obtain ⟨f14, hf⟩ := fc_un (show (20 : Nat) < 100 from by decide) hf
  have f14 : FRO (w_fi w1 (n_v vs 0) 5) (w_ei w1 (w_ar w1 (n_v vs 0) 2)) (w_ei w1 (w_ar w1 (n_v vs 0) 95)) (v_iv (n_v vs 6)) (v_iv (n_v vs 11)) := f14
  obtain ⟨f15, hf⟩ := fc_un (show (9 : Nat) < 100 from by decide) hf
  have f15 : n_v vs 8 = w_fd w1 (v_ad (n_v vs 0)) 102 := f15
  obtain ⟨f16, hf⟩ := fc_un (show (10 : Nat) < 100 from by decide) hf
  have f16 : v_iv (n_v vs 10) = w_el w1 (v_ad (n_v vs 8)) (v_iv (n_v vs 9)).toNat := f16
  obtain ⟨f17, hf⟩ := fc_un (show (20 : Nat) < 100 from by decide) hf
  have f17 : TOO (w_fi w1 (n_v vs 0) 5) (w_ei w1 (w_ar w1 (n_v vs 0) 2)) (w_ei w1 (w_ar w1 (n_v vs 0) 95)) (v_iv (n_v vs 6)) (v_iv (n_v vs 9)) := f17
  obtain ⟨f18, hf⟩ := fc_un (show (7 : Nat) < 100 from by decide) hf
  have f18 : v_iv (n_v vs 6) < v_iv (n_v vs 7) := f18
  obtain ⟨f19, hf⟩ := fc_un (show (20 : Nat) < 100 from by decide) hf
  have f19 : 1 * v_iv (n_v vs 7) + ((-1) * w_el w1 (w_ar w1 (n_v vs 0) 2) (w_fi w1 (n_v vs 0) 5 + 1).toNat + 0) ≤ 0 := f19
  obtain ⟨f20, hf⟩ := fc_un (show (20 : Nat) < 100 from by decide) hf
  have f20 : (-1) * v_iv (n_v vs 7) + (1 * w_el w1 (w_ar w1 (n_v vs 0) 2) (w_fi w1 (n_v vs 0) 5 + 1).toNat + 0) ≤ 0 := f20
  obtain ⟨f21, hf⟩ := fc_un (show (20 : Nat) < 100 from by decide) hf
  have f21 : LSA (w_fi w1 (n_v vs 0) 5) (w_fi w1 (n_v vs 0) 100) (w_fi w1 (n_v vs 0) 101) (w_fi w1 (n_v vs 0) 107) (w_ei w1 (w_ar w1 (n_v vs 0) 2)) (w_ei w1 (w_ar w1 (n_v vs 0) 95)) (w_ei w1 (w_ar w1 (n_v vs 0) 102)) (w_ei w1 (w_ar w1 (n_v vs 0) 104)) (w_ei w1 (w_ar w1 (n_v vs 0) 108)) (w_ei w1 (w_ar w1 (n_v vs 0) 109)) := f21
  obtain ⟨f22, hf⟩ := fc_un (show (20 : Nat) < 100 from by decide) hf
  have f22 : RIP (w_fi w1 (n_v vs 0) 79) (w_fi w1 (n_v vs 0) 80) (w_fi w1 (n_v vs 0) 81) (w_ei w1 (w_ar w1 (n_v vs 0) 82)) (w_ei w1 (w_ar w1 (n_v vs 0) 83)) (w_ei w1 (w_ar w1 (n_v vs 0) 84)) (w_ei w1 (w_ar w1 (n_v vs 0) 85)) (w_ei w1 (w_ar w1 (n_v vs 0) 86)) (w_ei w1 (w_ar w1 (n_v vs 0) 87)) (w_ei w1 (w_ar w1 (n_v vs 0) 88)) (w_ei w1 (w_ar w1 (n_v vs 0) 89)) := f22
  obtain ⟨f23, hf⟩ := fc_un (show (20 : Nat) < 100 from by decide) hf
  have f23 : w_fi w1 (n_v vs 0) 79 = w_fi w1 (n_v vs 0) 100 := f23
  obtain ⟨f24, hf⟩ := fc_un (show (20 : Nat) < 100 from by decide) hf
  have f24 : v_iv (n_v vs 2) = w_ei w1 (w_ar w1 (n_v vs 0) 2) (w_fi w1 (n_v vs 0) 5) := f24
  obtain ⟨f25, hf⟩ := fc_un (show (20 : Nat) < 100 from by decide) hf
  have f25 : SGR (w_fi w1 (n_v vs 0) 5) (w_ei w1 (w_ar w1 (n_v vs 0) 2)) := f25
  have ar_0_2_1 : w_ar w1 (n_v vs 0) 2 = w_ar ws (n_v vs 0) 2 := by show v_ad (w_fd w1 _ _) = v_ad (w_fd ws _ _); rw [s1.2]
  have cr_0_2 : ta (w_ar ws (n_v vs 0) 2) = some 152 := tv_rg (th_fd hD hth r0 (g := GG_150) rfl (k := 2) (t := (2, 0, 0, [152])) rfl rfl)
  have ar_0_76_1 : w_ar w1 (n_v vs 0) 76 = w_ar ws (n_v vs 0) 76 := by show v_ad (w_fd w1 _ _) = v_ad (w_fd ws _ _); rw [s1.2]
  have cr_0_76 : ta (w_ar ws (n_v vs 0) 76) = some 201 := tv_rg (th_fd hD hth r0 (g := GG_150) rfl (k := 76) (t := (2, 0, 0, [201])) rfl rfl)
  have ar_0_82_1 : w_ar w1 (n_v vs 0) 82 = w_ar ws (n_v vs 0) 82 := by show v_ad (w_fd w1 _ _) = v_ad (w_fd ws _ _); rw [s1.2]
  have cr_0_82 : ta (w_ar ws (n_v vs 0) 82) = some 204 := tv_rg (th_fd hD hth r0 (g := GG_150) rfl (k := 82) (t := (2, 0, 0, [204])) rfl rfl)
  have ar_0_83_1 : w_ar w1 (n_v vs 0) 83 = w_ar ws (n_v vs 0) 83 := by show v_ad (w_fd w1 _ _) = v_ad (w_fd ws _ _); rw [s1.2]
  have cr_0_83 : ta (w_ar ws (n_v vs 0) 83) = some 205 := tv_rg (th_fd hD hth r0 (g := GG_150) rfl (k := 83) (t := (2, 0, 0, [205])) rfl rfl)
  have ar_0_84_1 : w_ar w1 (n_v vs 0) 84 = w_ar ws (n_v vs 0) 84 := by show v_ad (w_fd w1 _ _) = v_ad (w_fd ws _ _); rw [s1.2]
  have cr_0_84 : ta (w_ar ws (n_v vs 0) 84) = some 206 := tv_rg (th_fd hD hth r0 (g := GG_150) rfl (k := 84) (t := (2, 0, 0, [206])) rfl rfl)
  have ar_0_85_1 : w_ar w1 (n_v vs 0) 85 = w_ar ws (n_v vs 0) 85 := by show v_ad (w_fd w1 _ _) = v_ad (w_fd ws _ _); rw [s1.2]
  have cr_0_85 : ta (w_ar ws (n_v vs 0) 85) = some 207 := tv_rg (th_fd hD hth r0 (g := GG_150) rfl (k := 85) (t := (2, 0, 0, [207])) rfl rfl)
  have ar_0_86_1 : w_ar w1 (n_v vs 0) 86 = w_ar ws (n_v vs 0) 86 := by show v_ad (w_fd w1 _ _) = v_ad (w_fd ws _ _); rw [s1.2]
  have cr_0_86 : ta (w_ar ws (n_v vs 0) 86) = some 208 := tv_rg (th_fd hD hth r0 (g := GG_150) rfl (k := 86) (t := (2, 0, 0, [208])) rfl rfl)
  have ar_0_87_1 : w_ar w1 (n_v vs 0) 87 = w_ar ws (n_v vs 0) 87 := by show v_ad (w_fd w1 _ _) = v_ad (w_fd ws _ _); rw [s1.2]
  have cr_0_87 : ta (w_ar ws (n_v vs 0) 87) = some 209 := tv_rg (th_fd hD hth r0 (g := GG_150) rfl (k := 87) (t := (2, 0, 0, [209])) rfl rfl)
  have ar_0_88_1 : w_ar w1 (n_v vs 0) 88 = w_ar ws (n_v vs 0) 88 := by show v_ad (w_fd w1 _ _) = v_ad (w_fd ws _ _); rw [s1.2]
  have cr_0_88 : ta (w_ar ws (n_v vs 0) 88) = some 210 := tv_rg (th_fd hD hth r0 (g := GG_150) rfl (k := 88) (t := (2, 0, 0, [210])) rfl rfl)
  have ar_0_89_1 : w_ar w1 (n_v vs 0) 89 = w_ar ws (n_v vs 0) 89 := by show v_ad (w_fd w1 _ _) = v_ad (w_fd ws _ _); rw [s1.2]
  have cr_0_89 : ta (w_ar ws (n_v vs 0) 89) = some 211 := tv_rg (th_fd hD hth r0 (g := GG_150) rfl (k := 89) (t := (2, 0, 0, [211])) rfl rfl)
  have ar_0_95_1 : w_ar w1 (n_v vs 0) 95 = w_ar ws (n_v vs 0) 95 := by show v_ad (w_fd w1 _ _) = v_ad (w_fd ws _ _); rw [s1.2]
  have cr_0_95 : ta (w_ar ws (n_v vs 0) 95) = some 216 := tv_rg (th_fd hD hth r0 (g := GG_150) rfl (k := 95) (t := (2, 0, 0, [216])) rfl rfl)
  have ar_0_102_1 : w_ar w1 (n_v vs 0) 102 = w_ar ws (n_v vs 0) 102 := by show v_ad (w_fd w1 _ _) = v_ad (w_fd ws _ _); rw [s1.2]
  have cr_0_102 : ta (w_ar ws (n_v vs 0) 102) = some 220 := tv_rg (th_fd hD hth r0 (g := GG_150) rfl (k := 102) (t := (2, 0, 0, [220])) rfl rfl)
  have ar_0_104_1 : w_ar w1 (n_v vs 0) 104 = w_ar ws (n_v vs 0) 104 := by show v_ad (w_fd w1 _ _) = v_ad (w_fd ws _ _); rw [s1.2]
  have cr_0_104 : ta (w_ar ws (n_v vs 0) 104) = some 222 := tv_rg (th_fd hD hth r0 (g := GG_150) rfl (k := 104) (t := (2, 0, 0, [222])) rfl rfl)
  have ar_0_108_1 : w_ar w1 (n_v vs 0) 108 = w_ar ws (n_v vs 0) 108 := by show v_ad (w_fd w1 _ _) = v_ad (w_fd ws _ _); rw [s1.2]
  have cr_0_108 : ta (w_ar ws (n_v vs 0) 108) = some 225 := tv_rg (th_fd hD hth r0 (g := GG_150) rfl (k := 108) (t := (2, 0, 0, [225])) rfl rfl)
  have ar_0_109_1 : w_ar w1 (n_v vs 0) 109 = w_ar ws (n_v vs 0) 109 := by show v_ad (w_fd w1 _ _) = v_ad (w_fd ws _ _); rw [s1.2]
  have cr_0_109 : ta (w_ar ws (n_v vs 0) 109) = some 226 := tv_rg (th_fd hD hth r0 (g := GG_150) rfl (k := 109) (t := (2, 0, 0, [226])) rfl rfl)
  have fi_0_5_1 : w_fi w1 (n_v vs 0) 5 = w_fi ws (n_v vs 0) 5 := by show v_iv (w_fd w1 _ _) = v_iv (w_fd ws _ _); rw [s1.2]
  have ad_16 : v_ad (n_v vs 16) = w_ar ws (n_v vs 0) 76 := (congrArg v_ad f10).trans ar_0_76_1
  have ad_8 : v_ad (n_v vs 8) = w_ar ws (n_v vs 0) 102 := (congrArg v_ad f15).trans ar_0_102_1
  rw [ad_8] at f13
  have h13 : v_iv (n_v vs 12) = w_ei w1 (w_ar ws (n_v vs 0) 102) (v_iv (n_v vs 11)) := f13
  rw [ar_0_2_1] at f14
  rw [ar_0_95_1] at f14
  rw [ad_8] at f16
  have h16 : v_iv (n_v vs 10) = w_ei w1 (w_ar ws (n_v vs 0) 102) (v_iv (n_v vs 9)) := f16
  rw [ar_0_2_1] at f17
  rw [ar_0_95_1] at f17
  rw [ar_0_2_1] at f19
  rw [fi_0_5_1] at f19
  rw [ar_0_2_1] at f20
  rw [fi_0_5_1] at f20
  rw [ar_0_2_1] at f21
  rw [ar_0_95_1] at f21
  rw [ar_0_102_1] at f21
  rw [ar_0_104_1] at f21
  rw [ar_0_108_1] at f21
  rw [ar_0_109_1] at f21
  rw [ar_0_82_1] at f22
  rw [ar_0_83_1] at f22
  rw [ar_0_84_1] at f22
  rw [ar_0_85_1] at f22
  rw [ar_0_86_1] at f22
  rw [ar_0_87_1] at f22
  rw [ar_0_88_1] at f22
  rw [ar_0_89_1] at f22
  rw [ar_0_2_1] at f24
  rw [ar_0_2_1] at f25
  have fe_0_5_1 : w_fi ws (n_v vs 0) 5 = w_fi w1 (n_v vs 0) 5 := congrArg v_iv (s1.2 _ _)
  have fe_0_79_1 : w_fi ws (n_v vs 0) 79 = w_fi w1 (n_v vs 0) 79 := congrArg v_iv (s1.2 _ _)
  have fe_0_80_1 : w_fi ws (n_v vs 0) 80 = w_fi w1 (n_v vs 0) 80 := congrArg v_iv (s1.2 _ _)
  have fe_0_81_1 : w_fi ws (n_v vs 0) 81 = w_fi w1 (n_v vs 0) 81 := congrArg v_iv (s1.2 _ _)
  have fe_0_100_1 : w_fi ws (n_v vs 0) 100 = w_fi w1 (n_v vs 0) 100 := congrArg v_iv (s1.2 _ _)
  have fe_0_101_1 : w_fi ws (n_v vs 0) 101 = w_fi w1 (n_v vs 0) 101 := congrArg v_iv (s1.2 _ _)
  have fe_0_107_1 : w_fi ws (n_v vs 0) 107 = w_fi w1 (n_v vs 0) 107 := congrArg v_iv (s1.2 _ _)
  have hE_0_2_1 : ∀ j : Int, w_ei ws (w_ar ws (n_v vs 0) 2) j = w_ei w1 (w_ar ws (n_v vs 0) 2) j := fun j => by unfold w_ei; rw [s1.1, if_neg (fun e => by have e1 := e.1; rw [← e1] at r16; rw [cr_0_2] at r16; exact absurd (Option.some.inj r16) (by decide))]
  have hE_0_76_1 : ∀ j : Int, 0 ≤ j → (j = v_iv (n_v vs 6) → w_ei ws (w_ar ws (n_v vs 0) 76) j = v_iv (n_v vs 15)) ∧ (j ≠ v_iv (n_v vs 6) → w_ei ws (w_ar ws (n_v vs 0) 76) j = w_ei w1 (w_ar ws (n_v vs 0) 76) j) := fun j hj => ⟨fun h => by unfold w_ei; rw [s1.1, if_pos ⟨ad_16.symm, by rw [h]⟩], fun h => by unfold w_ei; rw [s1.1, if_neg (fun e => h (by have := e.2; omega))]⟩
  have hK_0_76 : ∀ j : Int, 0 ≤ j → j < 48 → 0 ≤ w_ei ws (w_ar ws (n_v vs 0) 76) j ∧ w_ei ws (w_ar ws (n_v vs 0) 76) j ≤ 24 := fun j h0 h1 => th_el hD hth cr_0_76 (kd := 0) (n := 48) (m := 48) (lo := 0) (hi := 24) (rs := []) (L := []) rfl (by decide) (j := j.toNat) (by omega)
  have hE_0_82_1 : ∀ j : Int, w_ei ws (w_ar ws (n_v vs 0) 82) j = w_ei w1 (w_ar ws (n_v vs 0) 82) j := fun j => by unfold w_ei; rw [s1.1, if_neg (fun e => by have e1 := e.1; rw [← e1] at r16; rw [cr_0_82] at r16; exact absurd (Option.some.inj r16) (by decide))]
  have hK_0_82 : ∀ j : Int, 0 ≤ j → j < 76 → 0 ≤ w_ei ws (w_ar ws (n_v vs 0) 82) j ∧ w_ei ws (w_ar ws (n_v vs 0) 82) j ≤ 221100000 := fun j h0 h1 => th_el hD hth cr_0_82 (kd := 0) (n := 76) (m := 76) (lo := 0) (hi := 221100000) (rs := []) (L := []) rfl (by decide) (j := j.toNat) (by omega)
  have hE_0_83_1 : ∀ j : Int, w_ei ws (w_ar ws (n_v vs 0) 83) j = w_ei w1 (w_ar ws (n_v vs 0) 83) j := fun j => by unfold w_ei; rw [s1.1, if_neg (fun e => by have e1 := e.1; rw [← e1] at r16; rw [cr_0_83] at r16; exact absurd (Option.some.inj r16) (by decide))]
  have hK_0_83 : ∀ j : Int, 0 ≤ j → j < 200 → 0 ≤ w_ei ws (w_ar ws (n_v vs 0) 83) j ∧ w_ei ws (w_ar ws (n_v vs 0) 83) j ≤ 75 := fun j h0 h1 => th_el hD hth cr_0_83 (kd := 0) (n := 200) (m := 200) (lo := 0) (hi := 75) (rs := []) (L := []) rfl (by decide) (j := j.toNat) (by omega)
  have hE_0_84_1 : ∀ j : Int, w_ei ws (w_ar ws (n_v vs 0) 84) j = w_ei w1 (w_ar ws (n_v vs 0) 84) j := fun j => by unfold w_ei; rw [s1.1, if_neg (fun e => by have e1 := e.1; rw [← e1] at r16; rw [cr_0_84] at r16; exact absurd (Option.some.inj r16) (by decide))]
  have hK_0_84 : ∀ j : Int, 0 ≤ j → j < 200 → 0 ≤ w_ei ws (w_ar ws (n_v vs 0) 84) j ∧ w_ei ws (w_ar ws (n_v vs 0) 84) j ≤ 75 := fun j h0 h1 => th_el hD hth cr_0_84 (kd := 0) (n := 200) (m := 200) (lo := 0) (hi := 75) (rs := []) (L := []) rfl (by decide) (j := j.toNat) (by omega)
  have hE_0_85_1 : ∀ j : Int, w_ei ws (w_ar ws (n_v vs 0) 85) j = w_ei w1 (w_ar ws (n_v vs 0) 85) j := fun j => by unfold w_ei; rw [s1.1, if_neg (fun e => by have e1 := e.1; rw [← e1] at r16; rw [cr_0_85] at r16; exact absurd (Option.some.inj r16) (by decide))]
  have hK_0_85 : ∀ j : Int, 0 ≤ j → j < 200 → 0 ≤ w_ei ws (w_ar ws (n_v vs 0) 85) j ∧ w_ei ws (w_ar ws (n_v vs 0) 85) j ≤ 72 := fun j h0 h1 => th_el hD hth cr_0_85 (kd := 0) (n := 200) (m := 200) (lo := 0) (hi := 72) (rs := []) (L := []) rfl (by decide) (j := j.toNat) (by omega)
  have hE_0_86_1 : ∀ j : Int, w_ei ws (w_ar ws (n_v vs 0) 86) j = w_ei w1 (w_ar ws (n_v vs 0) 86) j := fun j => by unfold w_ei; rw [s1.1, if_neg (fun e => by have e1 := e.1; rw [← e1] at r16; rw [cr_0_86] at r16; exact absurd (Option.some.inj r16) (by decide))]
  have hK_0_86 : ∀ j : Int, 0 ≤ j → j < 200 → 0 ≤ w_ei ws (w_ar ws (n_v vs 0) 86) j ∧ w_ei ws (w_ar ws (n_v vs 0) 86) j ≤ 1 := fun j h0 h1 => th_el hD hth cr_0_86 (kd := 2) (n := 200) (m := 200) (lo := 0) (hi := 1) (rs := []) (L := []) rfl (by decide) (j := j.toNat) (by omega)
  have hE_0_87_1 : ∀ j : Int, w_ei ws (w_ar ws (n_v vs 0) 87) j = w_ei w1 (w_ar ws (n_v vs 0) 87) j := fun j => by unfold w_ei; rw [s1.1, if_neg (fun e => by have e1 := e.1; rw [← e1] at r16; rw [cr_0_87] at r16; exact absurd (Option.some.inj r16) (by decide))]
  have hK_0_87 : ∀ j : Int, 0 ≤ j → j < 200 → 0 ≤ w_ei ws (w_ar ws (n_v vs 0) 87) j ∧ w_ei ws (w_ar ws (n_v vs 0) 87) j ≤ 75 := fun j h0 h1 => th_el hD hth cr_0_87 (kd := 0) (n := 200) (m := 200) (lo := 0) (hi := 75) (rs := []) (L := []) rfl (by decide) (j := j.toNat) (by omega)
  have hE_0_88_1 : ∀ j : Int, w_ei ws (w_ar ws (n_v vs 0) 88) j = w_ei w1 (w_ar ws (n_v vs 0) 88) j := fun j => by unfold w_ei; rw [s1.1, if_neg (fun e => by have e1 := e.1; rw [← e1] at r16; rw [cr_0_88] at r16; exact absurd (Option.some.inj r16) (by decide))]
  have hK_0_88 : ∀ j : Int, 0 ≤ j → j < 200 → 0 ≤ w_ei ws (w_ar ws (n_v vs 0) 88) j ∧ w_ei ws (w_ar ws (n_v vs 0) 88) j ≤ 75 := fun j h0 h1 => th_el hD hth cr_0_88 (kd := 0) (n := 200) (m := 200) (lo := 0) (hi := 75) (rs := []) (L := []) rfl (by decide) (j := j.toNat) (by omega)
  have hE_0_89_1 : ∀ j : Int, w_ei ws (w_ar ws (n_v vs 0) 89) j = w_ei w1 (w_ar ws (n_v vs 0) 89) j := fun j => by unfold w_ei; rw [s1.1, if_neg (fun e => by have e1 := e.1; rw [← e1] at r16; rw [cr_0_89] at r16; exact absurd (Option.some.inj r16) (by decide))]
  have hK_0_89 : ∀ j : Int, 0 ≤ j → j < 200 → 0 ≤ w_ei ws (w_ar ws (n_v vs 0) 89) j ∧ w_ei ws (w_ar ws (n_v vs 0) 89) j ≤ 202 := fun j h0 h1 => th_el hD hth cr_0_89 (kd := 0) (n := 200) (m := 200) (lo := 0) (hi := 202) (rs := []) (L := []) rfl (by decide) (j := j.toNat) (by omega)
  have hE_0_95_1 : ∀ j : Int, w_ei ws (w_ar ws (n_v vs 0) 95) j = w_ei w1 (w_ar ws (n_v vs 0) 95) j := fun j => by unfold w_ei; rw [s1.1, if_neg (fun e => by have e1 := e.1; rw [← e1] at r16; rw [cr_0_95] at r16; exact absurd (Option.some.inj r16) (by decide))]
  have hK_0_95 : ∀ j : Int, 0 ≤ j → j < 48 → 0 ≤ w_ei ws (w_ar ws (n_v vs 0) 95) j ∧ w_ei ws (w_ar ws (n_v vs 0) 95) j ≤ 1 := fun j h0 h1 => th_el hD hth cr_0_95 (kd := 2) (n := 48) (m := 48) (lo := 0) (hi := 1) (rs := []) (L := []) rfl (by decide) (j := j.toNat) (by omega)
  have hE_0_102_1 : ∀ j : Int, w_ei ws (w_ar ws (n_v vs 0) 102) j = w_ei w1 (w_ar ws (n_v vs 0) 102) j := fun j => by unfold w_ei; rw [s1.1, if_neg (fun e => by have e1 := e.1; rw [← e1] at r16; rw [cr_0_102] at r16; exact absurd (Option.some.inj r16) (by decide))]
  have hK_0_102 : ∀ j : Int, 0 ≤ j → j < 76 → 0 ≤ w_ei ws (w_ar ws (n_v vs 0) 102) j ∧ w_ei ws (w_ar ws (n_v vs 0) 102) j ≤ 75 := fun j h0 h1 => th_el hD hth cr_0_102 (kd := 0) (n := 76) (m := 76) (lo := 0) (hi := 75) (rs := []) (L := []) rfl (by decide) (j := j.toNat) (by omega)
  have hE_0_104_1 : ∀ j : Int, w_ei ws (w_ar ws (n_v vs 0) 104) j = w_ei w1 (w_ar ws (n_v vs 0) 104) j := fun j => by unfold w_ei; rw [s1.1, if_neg (fun e => by have e1 := e.1; rw [← e1] at r16; rw [cr_0_104] at r16; exact absurd (Option.some.inj r16) (by decide))]
  have hK_0_104 : ∀ j : Int, 0 ≤ j → j < 48 → 0 ≤ w_ei ws (w_ar ws (n_v vs 0) 104) j ∧ w_ei ws (w_ar ws (n_v vs 0) 104) j ≤ 76 := fun j h0 h1 => th_el hD hth cr_0_104 (kd := 0) (n := 48) (m := 48) (lo := 0) (hi := 76) (rs := []) (L := []) rfl (by decide) (j := j.toNat) (by omega)
  have hE_0_108_1 : ∀ j : Int, w_ei ws (w_ar ws (n_v vs 0) 108) j = w_ei w1 (w_ar ws (n_v vs 0) 108) j := fun j => by unfold w_ei; rw [s1.1, if_neg (fun e => by have e1 := e.1; rw [← e1] at r16; rw [cr_0_108] at r16; exact absurd (Option.some.inj r16) (by decide))]
  have hK_0_108 : ∀ j : Int, 0 ≤ j → j < 130 → 0 ≤ w_ei ws (w_ar ws (n_v vs 0) 108) j ∧ w_ei ws (w_ar ws (n_v vs 0) 108) j ≤ 75 := fun j h0 h1 => th_el hD hth cr_0_108 (kd := 0) (n := 130) (m := 130) (lo := 0) (hi := 75) (rs := []) (L := []) rfl (by decide) (j := j.toNat) (by omega)
  have hE_0_109_1 : ∀ j : Int, w_ei ws (w_ar ws (n_v vs 0) 109) j = w_ei w1 (w_ar ws (n_v vs 0) 109) j := fun j => by unfold w_ei; rw [s1.1, if_neg (fun e => by have e1 := e.1; rw [← e1] at r16; rw [cr_0_109] at r16; exact absurd (Option.some.inj r16) (by decide))]
  have hK_0_109 : ∀ j : Int, 0 ≤ j → j < 130 → 0 ≤ w_ei ws (w_ar ws (n_v vs 0) 109) j ∧ w_ei ws (w_ar ws (n_v vs 0) 109) j ≤ 75 := fun j h0 h1 => th_el hD hth cr_0_109 (kd := 0) (n := 130) (m := 130) (lo := 0) (hi := 75) (rs := []) (L := []) rfl (by decide) (j := j.toNat) (by omega)
  have kz_0_79 : 0 ≤ w_fi ws (n_v vs 0) 79 ∧ w_fi ws (n_v vs 0) 79 ≤ 76 := tv_rng (th_fd hD hth r0 (g := GG_150) rfl (k := 79) (t := (0, 0, 76, [])) rfl rfl)
  have kz_0_80 : 0 ≤ w_fi ws (n_v vs 0) 80 ∧ w_fi ws (n_v vs 0) 80 ≤ 200 := tv_rng (th_fd hD hth r0 (g := GG_150) rfl (k := 80) (t := (0, 0, 200, [])) rfl rfl)
  have kz_0_81 : 0 ≤ w_fi ws (n_v vs 0) 81 ∧ w_fi ws (n_v vs 0) 81 ≤ 200 := tv_rng (th_fd hD hth r0 (g := GG_150) rfl (k := 81) (t := (0, 0, 200, [])) rfl rfl)
  have kz_0_100 : 0 ≤ w_fi ws (n_v vs 0) 100 ∧ w_fi ws (n_v vs 0) 100 ≤ 76 := tv_rng (th_fd hD hth r0 (g := GG_150) rfl (k := 100) (t := (0, 0, 76, [])) rfl rfl)
  have kz_0_101 : 0 ≤ w_fi ws (n_v vs 0) 101 ∧ w_fi ws (n_v vs 0) 101 ≤ 76 := tv_rng (th_fd hD hth r0 (g := GG_150) rfl (k := 101) (t := (0, 0, 76, [])) rfl rfl)
  have kz_0_107 : 0 ≤ w_fi ws (n_v vs 0) 107 ∧ w_fi ws (n_v vs 0) 107 ≤ 130 := tv_rng (th_fd hD hth r0 (g := GG_150) rfl (k := 107) (t := (0, 0, 130, [])) rfl rfl)
  have nf0 : fc_1 PRD (20, [0, 6, 15], [60, 2, 4, 417, 5, 100, 2, 95, 102, 104]) ws (vs) := by
    refine ⟨fun n hn => ?_, ?_⟩
    · have hn : n ∈ [0, 6, 15] := hn
      rw [hl]
      simp only [List.mem_cons, List.not_mem_nil, or_false] at hn
      show n < 18; omega
    · show JMX (w_fi ws (n_v vs 0) 5) (w_fi ws (n_v vs 0) 100) (w_ei ws (w_ar ws (n_v vs 0) 2)) (w_ei ws (w_ar ws (n_v vs 0) 95)) (w_ei ws (w_ar ws (n_v vs 0) 102)) (w_ei ws (w_ar ws (n_v vs 0) 104)) (v_iv (n_v vs 6)) (v_iv (n_v vs 15))
      exact vc_Mo_layers_19_0 (v_iv (n_v vs 2)) (v_iv (n_v vs 6)) (v_iv (n_v vs 7)) (v_iv (n_v vs 9)) (v_iv (n_v vs 10)) (v_iv (n_v vs 11)) (v_iv (n_v vs 12)) (v_iv (n_v vs 13)) (v_iv (n_v vs 14)) (v_iv (n_v vs 15)) (w_ei ws (w_ar ws (n_v vs 0) 2)) (w_ei ws (w_ar ws (n_v vs 0) 95)) (w_fi ws (n_v vs 0) 5) (w_ei ws (w_ar ws (n_v vs 0) 102)) (w_ei ws (w_ar ws (n_v vs 0) 104)) (w_ei ws (w_ar ws (n_v vs 0) 108)) (w_ei ws (w_ar ws (n_v vs 0) 109)) (w_fi ws (n_v vs 0) 100) (w_fi ws (n_v vs 0) 101) (w_fi ws (n_v vs 0) 107) (w_ei ws (w_ar ws (n_v vs 0) 82)) (w_ei ws (w_ar ws (n_v vs 0) 83)) (w_ei ws (w_ar ws (n_v vs 0) 84)) (w_ei ws (w_ar ws (n_v vs 0) 85)) (w_ei ws (w_ar ws (n_v vs 0) 86)) (w_ei ws (w_ar ws (n_v vs 0) 87)) (w_ei ws (w_ar ws (n_v vs 0) 88)) (w_ei ws (w_ar ws (n_v vs 0) 89)) (w_fi ws (n_v vs 0) 79) (w_fi ws (n_v vs 0) 80) (w_fi ws (n_v vs 0) 81) (w_ei w1 (w_ar ws (n_v vs 0) 102)) (w_ei w1 (w_ar ws (n_v vs 0) 2)) (w_ei w1 (w_ar ws (n_v vs 0) 95)) (w_fi w1 (n_v vs 0) 5) (w_ei w1 (w_ar ws (n_v vs 0) 104)) (w_ei w1 (w_ar ws (n_v vs 0) 108)) (w_ei w1 (w_ar ws (n_v vs 0) 109)) (w_fi w1 (n_v vs 0) 100) (w_fi w1 (n_v vs 0) 101) (w_fi w1 (n_v vs 0) 107) (w_ei w1 (w_ar ws (n_v vs 0) 82)) (w_ei w1 (w_ar ws (n_v vs 0) 83)) (w_ei w1 (w_ar ws (n_v vs 0) 84)) (w_ei w1 (w_ar ws (n_v vs 0) 85)) (w_ei w1 (w_ar ws (n_v vs 0) 86)) (w_ei w1 (w_ar ws (n_v vs 0) 87)) (w_ei w1 (w_ar ws (n_v vs 0) 88)) (w_ei w1 (w_ar ws (n_v vs 0) 89)) (w_fi w1 (n_v vs 0) 79) (w_fi w1 (n_v vs 0) 80) (w_fi w1 (n_v vs 0) 81) (w_ei ws (w_ar ws (n_v vs 0) 76)) (w_ei w1 (w_ar ws (n_v vs 0) 76)) k2 k6 k7 k9 k10 k11 k12 k13 k14 k15 d0 d1 d2 d3 f0 f1 f2 f3 f4 f5 f6 f7 f8 f11 f12 h13 f14 h16 f17 f18 f19 f20 f21 f22 f23 f24 f25 fe_0_5_1 fe_0_79_1 fe_0_80_1 fe_0_81_1 fe_0_100_1 fe_0_101_1 fe_0_107_1 hE_0_2_1 hE_0_76_1 hK_0_76 hE_0_82_1 hK_0_82 hE_0_83_1 hK_0_83 hE_0_84_1 hK_0_84 hE_0_85_1 hK_0_85 hE_0_86_1 hK_0_86 hE_0_87_1 hK_0_87 hE_0_88_1 hK_0_88 hE_0_89_1 hK_0_89 hE_0_95_1 hK_0_95 hE_0_102_1 hK_0_102 hE_0_104_1 hK_0_104 hE_0_108_1 hK_0_108 hE_0_109_1 hK_0_109 kz_0_79 kz_0_80 kz_0_81 kz_0_100 kz_0_101 kz_0_107
  have nf1 : fc_1 PRD (20, [6, 0], [50, 1, 1, 1005, 1002, 0, 6, 4, 2, 1, 0, 0, 1, 3, 1, 2, 4, 3, 2, 1, 5, 0, 1]) ws (vs) := by
    refine ⟨fun n hn => ?_, ?_⟩
    · have hn : n ∈ [6, 0] := hn
      rw [hl]
      simp only [List.mem_cons, List.not_mem_nil, or_false] at hn
      show n < 18; omega
    · show (v_iv (n_v vs 6) + 1) ≤ w_ei ws (w_ar ws (n_v vs 0) 2) ((w_fi ws (n_v vs 0) 5 + 1))
      exact vc_Mo_layers_19_1 (v_iv (n_v vs 2)) (v_iv (n_v vs 6)) (v_iv (n_v vs 7)) (v_iv (n_v vs 9)) (v_iv (n_v vs 10)) (v_iv (n_v vs 11)) (v_iv (n_v vs 12)) (v_iv (n_v vs 13)) (v_iv (n_v vs 14)) (v_iv (n_v vs 15)) (w_ei ws (w_ar ws (n_v vs 0) 2)) (w_ei ws (w_ar ws (n_v vs 0) 95)) (w_fi ws (n_v vs 0) 5) (w_ei ws (w_ar ws (n_v vs 0) 102)) (w_ei ws (w_ar ws (n_v vs 0) 104)) (w_ei ws (w_ar ws (n_v vs 0) 108)) (w_ei ws (w_ar ws (n_v vs 0) 109)) (w_fi ws (n_v vs 0) 100) (w_fi ws (n_v vs 0) 101) (w_fi ws (n_v vs 0) 107) (w_ei ws (w_ar ws (n_v vs 0) 82)) (w_ei ws (w_ar ws (n_v vs 0) 83)) (w_ei ws (w_ar ws (n_v vs 0) 84)) (w_ei ws (w_ar ws (n_v vs 0) 85)) (w_ei ws (w_ar ws (n_v vs 0) 86)) (w_ei ws (w_ar ws (n_v vs 0) 87)) (w_ei ws (w_ar ws (n_v vs 0) 88)) (w_ei ws (w_ar ws (n_v vs 0) 89)) (w_fi ws (n_v vs 0) 79) (w_fi ws (n_v vs 0) 80) (w_fi ws (n_v vs 0) 81) (w_ei w1 (w_ar ws (n_v vs 0) 102)) (w_ei w1 (w_ar ws (n_v vs 0) 2)) (w_ei w1 (w_ar ws (n_v vs 0) 95)) (w_fi w1 (n_v vs 0) 5) (w_ei w1 (w_ar ws (n_v vs 0) 104)) (w_ei w1 (w_ar ws (n_v vs 0) 108)) (w_ei w1 (w_ar ws (n_v vs 0) 109)) (w_fi w1 (n_v vs 0) 100) (w_fi w1 (n_v vs 0) 101) (w_fi w1 (n_v vs 0) 107) (w_ei w1 (w_ar ws (n_v vs 0) 82)) (w_ei w1 (w_ar ws (n_v vs 0) 83)) (w_ei w1 (w_ar ws (n_v vs 0) 84)) (w_ei w1 (w_ar ws (n_v vs 0) 85)) (w_ei w1 (w_ar ws (n_v vs 0) 86)) (w_ei w1 (w_ar ws (n_v vs 0) 87)) (w_ei w1 (w_ar ws (n_v vs 0) 88)) (w_ei w1 (w_ar ws (n_v vs 0) 89)) (w_fi w1 (n_v vs 0) 79) (w_fi w1 (n_v vs 0) 80) (w_fi w1 (n_v vs 0) 81) (w_ei ws (w_ar ws (n_v vs 0) 76)) (w_ei w1 (w_ar ws (n_v vs 0) 76)) k2 k6 k7 k9 k10 k11 k12 k13 k14 k15 d0 d1 d2 d3 f0 f1 f2 f3 f4 f5 f6 f7 f8 f11 f12 h13 f14 h16 f17 f18 f19 f20 f21 f22 f23 f24 f25 fe_0_5_1 fe_0_79_1 fe_0_80_1 fe_0_81_1 fe_0_100_1 fe_0_101_1 fe_0_107_1 hE_0_2_1 hE_0_76_1 hK_0_76 hE_0_82_1 hK_0_82 hE_0_83_1 hK_0_83 hE_0_84_1 hK_0_84 hE_0_85_1 hK_0_85 hE_0_86_1 hK_0_86 hE_0_87_1 hK_0_87 hE_0_88_1 hK_0_88 hE_0_89_1 hK_0_89 hE_0_95_1 hK_0_95 hE_0_102_1 hK_0_102 hE_0_104_1 hK_0_104 hE_0_108_1 hK_0_108 hE_0_109_1 hK_0_109 kz_0_79 kz_0_80 kz_0_81 kz_0_100 kz_0_101 kz_0_107
  refine ⟨(fun _ h => (by cases h)), [], trivial, ?_, (fun _ h => (by cases h))⟩
  rw [List.append_nil]
  exact List.forall_mem_cons.mpr ⟨⟨show (20 : Nat) < 100 from by decide, nf0⟩, List.forall_mem_cons.mpr ⟨⟨show (20 : Nat) < 100 from by decide, nf1⟩, (fun _ h => (by cases h))⟩⟩
set_option maxHeartbeats 4000000 in
theorem vc_Mo_layers_20_r0 (x2 : Int) (x6 : Int) (x7 : Int) (x8 : Int) (x10 : Int) (x12 : Int) (x13 : Int) (turned_0 : Int → Int) (firstJoint_0 : Int → Int) (all_0 : Int → Int) (itemLayer_0 : Int → Int) (lineA_0 : Int → Int) (lineB_0 : Int → Int) (r_0 : Int) (items_0 : Int) (layerMany_0 : Int) (lines_0 : Int) (spot_0 : Int → Int) (costA_0 : Int → Int) (costB_0 : Int → Int) (costW_0 : Int → Int) (costPlain_0 : Int → Int) (apartA_0 : Int → Int) (apartB_0 : Int → Int) (apart_0 : Int → Int) (pointMany_0 : Int) (costMany_0 : Int) (apartMany_0 : Int) (k2 : 0 ≤ x2 ∧ x2 ≤ 24) (k6 : 0 ≤ x6 ∧ x6 ≤ 47) (k7 : 1 ≤ x7 ∧ x7 ≤ 22) (k8 : 0 ≤ x8 ∧ x8 ≤ 21) (k10 : 0 ≤ x10 ∧ x10 ≤ 76) (k12 : 0 ≤ x12 ∧ x12 ≤ 0) (k13 : 0 ≤ x13 ∧ x13 ≤ 97) (d0 : x8 + 0 ≤ x13 ∧ x13 ≤ x8 + 76) (d1 : x7 + (-4294967296) ≤ x13 ∧ x13 ≤ x7 + 75) (d2 : x7 + (-4294967296) ≤ x13 ∧ x13 ≤ x7 + 76) (d3 : x10 + 0 ≤ x13 ∧ x13 ≤ x10 + 21) (d4 : x7 + (-4294967296) ≤ x8 ∧ x8 ≤ x7 + (-1)) (d5 : x7 + (-4294967296) ≤ x8 ∧ x8 ≤ x7 + 0) (f0 : x13 = x10 + x8) (f1 : x12 = 0) (h2 : x12 = turned_0 (x6)) (h4 : x10 = firstJoint_0 (x6)) (f6 : x8 < x7) (f7 : LSA (r_0) (items_0) (layerMany_0) (lines_0) (all_0) (turned_0) (itemLayer_0) (firstJoint_0) (lineA_0) (lineB_0)) (f8 : RIP (pointMany_0) (costMany_0) (apartMany_0) (spot_0) (costA_0) (costB_0) (costW_0) (costPlain_0) (apartA_0) (apartB_0) (apart_0)) (f9 : pointMany_0 = items_0) (f10 : x2 = all_0 (r_0)) (f11 : SGR (r_0) (all_0)) (f12 : JMX (r_0) (items_0) (all_0) (turned_0) (itemLayer_0) (firstJoint_0) (x6) (x7)) (f13 : (x6 + 1) ≤ all_0 ((r_0 + 1))) (hK_0_82 : ∀ j : Int, 0 ≤ j → j < 76 → 0 ≤ spot_0 j ∧ spot_0 j ≤ 221100000) (hK_0_83 : ∀ j : Int, 0 ≤ j → j < 200 → 0 ≤ costA_0 j ∧ costA_0 j ≤ 75) (hK_0_84 : ∀ j : Int, 0 ≤ j → j < 200 → 0 ≤ costB_0 j ∧ costB_0 j ≤ 75) (hK_0_85 : ∀ j : Int, 0 ≤ j → j < 200 → 0 ≤ costW_0 j ∧ costW_0 j ≤ 72) (hK_0_86 : ∀ j : Int, 0 ≤ j → j < 200 → 0 ≤ costPlain_0 j ∧ costPlain_0 j ≤ 1) (hK_0_87 : ∀ j : Int, 0 ≤ j → j < 200 → 0 ≤ apartA_0 j ∧ apartA_0 j ≤ 75) (hK_0_88 : ∀ j : Int, 0 ≤ j → j < 200 → 0 ≤ apartB_0 j ∧ apartB_0 j ≤ 75) (hK_0_89 : ∀ j : Int, 0 ≤ j → j < 200 → 0 ≤ apart_0 j ∧ apart_0 j ≤ 202) (hK_0_95 : ∀ j : Int, 0 ≤ j → j < 48 → 0 ≤ turned_0 j ∧ turned_0 j ≤ 1) (hK_0_102 : ∀ j : Int, 0 ≤ j → j < 76 → 0 ≤ itemLayer_0 j ∧ itemLayer_0 j ≤ 75) (hK_0_104 : ∀ j : Int, 0 ≤ j → j < 48 → 0 ≤ firstJoint_0 j ∧ firstJoint_0 j ≤ 76) (hK_0_108 : ∀ j : Int, 0 ≤ j → j < 130 → 0 ≤ lineA_0 j ∧ lineA_0 j ≤ 75) (hK_0_109 : ∀ j : Int, 0 ≤ j → j < 130 → 0 ≤ lineB_0 j ∧ lineB_0 j ≤ 75) (kz_0_79 : 0 ≤ pointMany_0 ∧ pointMany_0 ≤ 76) (kz_0_80 : 0 ≤ costMany_0 ∧ costMany_0 ≤ 200) (kz_0_81 : 0 ≤ apartMany_0 ∧ apartMany_0 ≤ 200) (kz_0_100 : 0 ≤ items_0 ∧ items_0 ≤ 76) (kz_0_101 : 0 ≤ layerMany_0 ∧ layerMany_0 ≤ 76) (kz_0_107 : 0 ≤ lines_0 ∧ lines_0 ≤ 130) : 0 ≤ x13 ∧ x13 ≤ 75 := by
  have h := ‹JMX _ _ _ _ _ _ _ _›
  have h1 := h.1
  have h2 := h.2
  omega
def o_Mo_layers_20 : or_T := (374, 14, [(0, (2, 0, 0, [150])), (2, (0, 0, 24, [])), (6, (0, 0, 47, [])), (7, (0, 1, 22, [])), (8, (0, 0, 21, [])), (9, (2, 0, 0, [222])), (10, (0, 0, 76, [])), (11, (2, 0, 0, [216])), (12, (0, 0, 0, [])), (13, (0, 0, 97, []))], [(1, [13, 10, 8], []), (8, [12], [0]), (10, [12, 11, 6], []), (9, [11, 0], [95]), (10, [10, 9, 6], []), (9, [9, 0], [104]), (7, [8, 7], [2]), (20, [0], [60, 4, 6, 369, 5, 100, 101, 107, 2, 95, 102, 104, 108, 109]), (20, [0], [60, 3, 8, 348, 79, 80, 81, 82, 83, 84, 85, 86, 87, 88, 89]), (20, [0], [50, 2, 0, 79, 100, 1, 3, 2, 0, 79, 2, 0, 100]), (20, [2, 0], [50, 1, 1, 1005, 1002, 1, 2, 1, 0, 3, 1, 2, 2, 1, 5]), (20, [0], [60, 1, 1, 122, 5, 2]), (20, [0, 6, 7], [60, 2, 4, 417, 5, 100, 2, 95, 102, 104]), (20, [6, 0], [50, 1, 1, 1005, 1002, 0, 6, 4, 2, 1, 0, 0, 1, 3, 1, 2, 4, 3, 2, 1, 5, 0, 1])], [(13, (0, 0, 75, []))], [], [], [], [(13, 8, 0, 76), (13, 7, -4294967296, 75), (13, 7, -4294967296, 76), (13, 10, 0, 21), (8, 7, -4294967296, -1), (8, 7, -4294967296, 0)])
theorem oo_Mo_layers_20 {kA : Nat → ClassId} : or_ok PRD kA GG o_Mo_layers_20 := by
  intro A ta ws vs hD hth hl hk hds hf
  have hl : vs.length = 14 := hl
  have hk : ∀ q ∈ ([(0, (2, 0, 0, [150])), (2, (0, 0, 24, [])), (6, (0, 0, 47, [])), (7, (0, 1, 22, [])), (8, (0, 0, 21, [])), (9, (2, 0, 0, [222])), (10, (0, 0, 76, [])), (11, (2, 0, 0, [216])), (12, (0, 0, 0, [])), (13, (0, 0, 97, []))] : List (Nat × tv_T)), tv_ok ta q.2 (n_v vs q.1) := hk
  obtain ⟨t0, hk⟩ := List.forall_mem_cons.mp hk
  have t0 : tv_ok ta (2, 0, 0, [150]) (n_v vs 0) := t0
  have r0 : ta (v_ad (n_v vs 0)) = some 150 := tv_rg t0
  obtain ⟨t2, hk⟩ := List.forall_mem_cons.mp hk
  have t2 : tv_ok ta (0, 0, 24, []) (n_v vs 2) := t2
  have k2 : 0 ≤ v_iv (n_v vs 2) ∧ v_iv (n_v vs 2) ≤ 24 := tv_rng t2
  obtain ⟨t6, hk⟩ := List.forall_mem_cons.mp hk
  have t6 : tv_ok ta (0, 0, 47, []) (n_v vs 6) := t6
  have k6 : 0 ≤ v_iv (n_v vs 6) ∧ v_iv (n_v vs 6) ≤ 47 := tv_rng t6
  obtain ⟨t7, hk⟩ := List.forall_mem_cons.mp hk
  have t7 : tv_ok ta (0, 1, 22, []) (n_v vs 7) := t7
  have k7 : 1 ≤ v_iv (n_v vs 7) ∧ v_iv (n_v vs 7) ≤ 22 := tv_rng t7
  obtain ⟨t8, hk⟩ := List.forall_mem_cons.mp hk
  have t8 : tv_ok ta (0, 0, 21, []) (n_v vs 8) := t8
  have k8 : 0 ≤ v_iv (n_v vs 8) ∧ v_iv (n_v vs 8) ≤ 21 := tv_rng t8
  obtain ⟨t9, hk⟩ := List.forall_mem_cons.mp hk
  have t9 : tv_ok ta (2, 0, 0, [222]) (n_v vs 9) := t9
  have r9 : ta (v_ad (n_v vs 9)) = some 222 := tv_rg t9
  obtain ⟨t10, hk⟩ := List.forall_mem_cons.mp hk
  have t10 : tv_ok ta (0, 0, 76, []) (n_v vs 10) := t10
  have k10 : 0 ≤ v_iv (n_v vs 10) ∧ v_iv (n_v vs 10) ≤ 76 := tv_rng t10
  obtain ⟨t11, hk⟩ := List.forall_mem_cons.mp hk
  have t11 : tv_ok ta (2, 0, 0, [216]) (n_v vs 11) := t11
  have r11 : ta (v_ad (n_v vs 11)) = some 216 := tv_rg t11
  obtain ⟨t12, hk⟩ := List.forall_mem_cons.mp hk
  have t12 : tv_ok ta (0, 0, 0, []) (n_v vs 12) := t12
  have k12 : 0 ≤ v_iv (n_v vs 12) ∧ v_iv (n_v vs 12) ≤ 0 := tv_rng t12
  obtain ⟨t13, hk⟩ := List.forall_mem_cons.mp hk
  have t13 : tv_ok ta (0, 0, 97, []) (n_v vs 13) := t13
  have k13 : 0 ≤ v_iv (n_v vs 13) ∧ v_iv (n_v vs 13) ≤ 97 := tv_rng t13
  have hds : ∀ q ∈ ([(13, 8, 0, 76), (13, 7, -4294967296, 75), (13, 7, -4294967296, 76), (13, 10, 0, 21), (8, 7, -4294967296, -1), (8, 7, -4294967296, 0)] : List of_T), n_iv vs q.2.1 + q.2.2.1 ≤ n_iv vs q.1 ∧ n_iv vs q.1 ≤ n_iv vs q.2.1 + q.2.2.2 := hds
  obtain ⟨d0, hds⟩ := List.forall_mem_cons.mp hds
  have d0 : v_iv (n_v vs 8) + 0 ≤ v_iv (n_v vs 13) ∧ v_iv (n_v vs 13) ≤ v_iv (n_v vs 8) + 76 := d0
  obtain ⟨d1, hds⟩ := List.forall_mem_cons.mp hds
  have d1 : v_iv (n_v vs 7) + (-4294967296) ≤ v_iv (n_v vs 13) ∧ v_iv (n_v vs 13) ≤ v_iv (n_v vs 7) + 75 := d1
  obtain ⟨d2, hds⟩ := List.forall_mem_cons.mp hds
  have d2 : v_iv (n_v vs 7) + (-4294967296) ≤ v_iv (n_v vs 13) ∧ v_iv (n_v vs 13) ≤ v_iv (n_v vs 7) + 76 := d2
  obtain ⟨d3, hds⟩ := List.forall_mem_cons.mp hds
  have d3 : v_iv (n_v vs 10) + 0 ≤ v_iv (n_v vs 13) ∧ v_iv (n_v vs 13) ≤ v_iv (n_v vs 10) + 21 := d3
  obtain ⟨d4, hds⟩ := List.forall_mem_cons.mp hds
  have d4 : v_iv (n_v vs 7) + (-4294967296) ≤ v_iv (n_v vs 8) ∧ v_iv (n_v vs 8) ≤ v_iv (n_v vs 7) + (-1) := d4
  obtain ⟨d5, hds⟩ := List.forall_mem_cons.mp hds
  have d5 : v_iv (n_v vs 7) + (-4294967296) ≤ v_iv (n_v vs 8) ∧ v_iv (n_v vs 8) ≤ v_iv (n_v vs 7) + 0 := d5
  have hf : fc_ok PRD [(1, [13, 10, 8], []), (8, [12], [0]), (10, [12, 11, 6], []), (9, [11, 0], [95]), (10, [10, 9, 6], []), (9, [9, 0], [104]), (7, [8, 7], [2]), (20, [0], [60, 4, 6, 369, 5, 100, 101, 107, 2, 95, 102, 104, 108, 109]), (20, [0], [60, 3, 8, 348, 79, 80, 81, 82, 83, 84, 85, 86, 87, 88, 89]), (20, [0], [50, 2, 0, 79, 100, 1, 3, 2, 0, 79, 2, 0, 100]), (20, [2, 0], [50, 1, 1, 1005, 1002, 1, 2, 1, 0, 3, 1, 2, 2, 1, 5]), (20, [0], [60, 1, 1, 122, 5, 2]), (20, [0, 6, 7], [60, 2, 4, 417, 5, 100, 2, 95, 102, 104]), (20, [6, 0], [50, 1, 1, 1005, 1002, 0, 6, 4, 2, 1, 0, 0, 1, 3, 1, 2, 4, 3, 2, 1, 5, 0, 1])] ta ws vs := hf
  obtain ⟨f0, hf⟩ := fc_un (show (1 : Nat) < 100 from by decide) hf
  have f0 : v_iv (n_v vs 13) = v_iv (n_v vs 10) + v_iv (n_v vs 8) := f0
  obtain ⟨f1, hf⟩ := fc_un (show (8 : Nat) < 100 from by decide) hf
  have f1 : v_iv (n_v vs 12) = 0 := f1
  obtain ⟨f2, hf⟩ := fc_un (show (10 : Nat) < 100 from by decide) hf
  have f2 : v_iv (n_v vs 12) = w_el ws (v_ad (n_v vs 11)) (v_iv (n_v vs 6)).toNat := f2
  obtain ⟨f3, hf⟩ := fc_un (show (9 : Nat) < 100 from by decide) hf
  have f3 : n_v vs 11 = w_fd ws (v_ad (n_v vs 0)) 95 := f3
  obtain ⟨f4, hf⟩ := fc_un (show (10 : Nat) < 100 from by decide) hf
  have f4 : v_iv (n_v vs 10) = w_el ws (v_ad (n_v vs 9)) (v_iv (n_v vs 6)).toNat := f4
  obtain ⟨f5, hf⟩ := fc_un (show (9 : Nat) < 100 from by decide) hf
  have f5 : n_v vs 9 = w_fd ws (v_ad (n_v vs 0)) 104 := f5
  obtain ⟨f6, hf⟩ := fc_un (show (7 : Nat) < 100 from by decide) hf
  have f6 : v_iv (n_v vs 8) < v_iv (n_v vs 7) := f6
  obtain ⟨f7, hf⟩ := fc_un (show (20 : Nat) < 100 from by decide) hf
  have f7 : LSA (w_fi ws (n_v vs 0) 5) (w_fi ws (n_v vs 0) 100) (w_fi ws (n_v vs 0) 101) (w_fi ws (n_v vs 0) 107) (w_ei ws (w_ar ws (n_v vs 0) 2)) (w_ei ws (w_ar ws (n_v vs 0) 95)) (w_ei ws (w_ar ws (n_v vs 0) 102)) (w_ei ws (w_ar ws (n_v vs 0) 104)) (w_ei ws (w_ar ws (n_v vs 0) 108)) (w_ei ws (w_ar ws (n_v vs 0) 109)) := f7
  obtain ⟨f8, hf⟩ := fc_un (show (20 : Nat) < 100 from by decide) hf
  have f8 : RIP (w_fi ws (n_v vs 0) 79) (w_fi ws (n_v vs 0) 80) (w_fi ws (n_v vs 0) 81) (w_ei ws (w_ar ws (n_v vs 0) 82)) (w_ei ws (w_ar ws (n_v vs 0) 83)) (w_ei ws (w_ar ws (n_v vs 0) 84)) (w_ei ws (w_ar ws (n_v vs 0) 85)) (w_ei ws (w_ar ws (n_v vs 0) 86)) (w_ei ws (w_ar ws (n_v vs 0) 87)) (w_ei ws (w_ar ws (n_v vs 0) 88)) (w_ei ws (w_ar ws (n_v vs 0) 89)) := f8
  obtain ⟨f9, hf⟩ := fc_un (show (20 : Nat) < 100 from by decide) hf
  have f9 : w_fi ws (n_v vs 0) 79 = w_fi ws (n_v vs 0) 100 := f9
  obtain ⟨f10, hf⟩ := fc_un (show (20 : Nat) < 100 from by decide) hf
  have f10 : v_iv (n_v vs 2) = w_ei ws (w_ar ws (n_v vs 0) 2) (w_fi ws (n_v vs 0) 5) := f10
  obtain ⟨f11, hf⟩ := fc_un (show (20 : Nat) < 100 from by decide) hf
  have f11 : SGR (w_fi ws (n_v vs 0) 5) (w_ei ws (w_ar ws (n_v vs 0) 2)) := f11
  obtain ⟨f12, hf⟩ := fc_un (show (20 : Nat) < 100 from by decide) hf
  have f12 : JMX (w_fi ws (n_v vs 0) 5) (w_fi ws (n_v vs 0) 100) (w_ei ws (w_ar ws (n_v vs 0) 2)) (w_ei ws (w_ar ws (n_v vs 0) 95)) (w_ei ws (w_ar ws (n_v vs 0) 102)) (w_ei ws (w_ar ws (n_v vs 0) 104)) (v_iv (n_v vs 6)) (v_iv (n_v vs 7)) := f12
  obtain ⟨f13, hf⟩ := fc_un (show (20 : Nat) < 100 from by decide) hf
  have f13 : (v_iv (n_v vs 6) + 1) ≤ w_ei ws (w_ar ws (n_v vs 0) 2) ((w_fi ws (n_v vs 0) 5 + 1)) := f13
  have cr_0_2 : ta (w_ar ws (n_v vs 0) 2) = some 152 := tv_rg (th_fd hD hth r0 (g := GG_150) rfl (k := 2) (t := (2, 0, 0, [152])) rfl rfl)
  have cr_0_82 : ta (w_ar ws (n_v vs 0) 82) = some 204 := tv_rg (th_fd hD hth r0 (g := GG_150) rfl (k := 82) (t := (2, 0, 0, [204])) rfl rfl)
  have cr_0_83 : ta (w_ar ws (n_v vs 0) 83) = some 205 := tv_rg (th_fd hD hth r0 (g := GG_150) rfl (k := 83) (t := (2, 0, 0, [205])) rfl rfl)
  have cr_0_84 : ta (w_ar ws (n_v vs 0) 84) = some 206 := tv_rg (th_fd hD hth r0 (g := GG_150) rfl (k := 84) (t := (2, 0, 0, [206])) rfl rfl)
  have cr_0_85 : ta (w_ar ws (n_v vs 0) 85) = some 207 := tv_rg (th_fd hD hth r0 (g := GG_150) rfl (k := 85) (t := (2, 0, 0, [207])) rfl rfl)
  have cr_0_86 : ta (w_ar ws (n_v vs 0) 86) = some 208 := tv_rg (th_fd hD hth r0 (g := GG_150) rfl (k := 86) (t := (2, 0, 0, [208])) rfl rfl)
  have cr_0_87 : ta (w_ar ws (n_v vs 0) 87) = some 209 := tv_rg (th_fd hD hth r0 (g := GG_150) rfl (k := 87) (t := (2, 0, 0, [209])) rfl rfl)
  have cr_0_88 : ta (w_ar ws (n_v vs 0) 88) = some 210 := tv_rg (th_fd hD hth r0 (g := GG_150) rfl (k := 88) (t := (2, 0, 0, [210])) rfl rfl)
  have cr_0_89 : ta (w_ar ws (n_v vs 0) 89) = some 211 := tv_rg (th_fd hD hth r0 (g := GG_150) rfl (k := 89) (t := (2, 0, 0, [211])) rfl rfl)
  have cr_0_95 : ta (w_ar ws (n_v vs 0) 95) = some 216 := tv_rg (th_fd hD hth r0 (g := GG_150) rfl (k := 95) (t := (2, 0, 0, [216])) rfl rfl)
  have cr_0_102 : ta (w_ar ws (n_v vs 0) 102) = some 220 := tv_rg (th_fd hD hth r0 (g := GG_150) rfl (k := 102) (t := (2, 0, 0, [220])) rfl rfl)
  have cr_0_104 : ta (w_ar ws (n_v vs 0) 104) = some 222 := tv_rg (th_fd hD hth r0 (g := GG_150) rfl (k := 104) (t := (2, 0, 0, [222])) rfl rfl)
  have cr_0_108 : ta (w_ar ws (n_v vs 0) 108) = some 225 := tv_rg (th_fd hD hth r0 (g := GG_150) rfl (k := 108) (t := (2, 0, 0, [225])) rfl rfl)
  have cr_0_109 : ta (w_ar ws (n_v vs 0) 109) = some 226 := tv_rg (th_fd hD hth r0 (g := GG_150) rfl (k := 109) (t := (2, 0, 0, [226])) rfl rfl)
  have ad_11 : v_ad (n_v vs 11) = w_ar ws (n_v vs 0) 95 := congrArg v_ad f3
  have ad_9 : v_ad (n_v vs 9) = w_ar ws (n_v vs 0) 104 := congrArg v_ad f5
  rw [ad_11] at f2
  have h2 : v_iv (n_v vs 12) = w_ei ws (w_ar ws (n_v vs 0) 95) (v_iv (n_v vs 6)) := f2
  rw [ad_9] at f4
  have h4 : v_iv (n_v vs 10) = w_ei ws (w_ar ws (n_v vs 0) 104) (v_iv (n_v vs 6)) := f4
  have hK_0_82 : ∀ j : Int, 0 ≤ j → j < 76 → 0 ≤ w_ei ws (w_ar ws (n_v vs 0) 82) j ∧ w_ei ws (w_ar ws (n_v vs 0) 82) j ≤ 221100000 := fun j h0 h1 => th_el hD hth cr_0_82 (kd := 0) (n := 76) (m := 76) (lo := 0) (hi := 221100000) (rs := []) (L := []) rfl (by decide) (j := j.toNat) (by omega)
  have hK_0_83 : ∀ j : Int, 0 ≤ j → j < 200 → 0 ≤ w_ei ws (w_ar ws (n_v vs 0) 83) j ∧ w_ei ws (w_ar ws (n_v vs 0) 83) j ≤ 75 := fun j h0 h1 => th_el hD hth cr_0_83 (kd := 0) (n := 200) (m := 200) (lo := 0) (hi := 75) (rs := []) (L := []) rfl (by decide) (j := j.toNat) (by omega)
  have hK_0_84 : ∀ j : Int, 0 ≤ j → j < 200 → 0 ≤ w_ei ws (w_ar ws (n_v vs 0) 84) j ∧ w_ei ws (w_ar ws (n_v vs 0) 84) j ≤ 75 := fun j h0 h1 => th_el hD hth cr_0_84 (kd := 0) (n := 200) (m := 200) (lo := 0) (hi := 75) (rs := []) (L := []) rfl (by decide) (j := j.toNat) (by omega)
  have hK_0_85 : ∀ j : Int, 0 ≤ j → j < 200 → 0 ≤ w_ei ws (w_ar ws (n_v vs 0) 85) j ∧ w_ei ws (w_ar ws (n_v vs 0) 85) j ≤ 72 := fun j h0 h1 => th_el hD hth cr_0_85 (kd := 0) (n := 200) (m := 200) (lo := 0) (hi := 72) (rs := []) (L := []) rfl (by decide) (j := j.toNat) (by omega)
  have hK_0_86 : ∀ j : Int, 0 ≤ j → j < 200 → 0 ≤ w_ei ws (w_ar ws (n_v vs 0) 86) j ∧ w_ei ws (w_ar ws (n_v vs 0) 86) j ≤ 1 := fun j h0 h1 => th_el hD hth cr_0_86 (kd := 2) (n := 200) (m := 200) (lo := 0) (hi := 1) (rs := []) (L := []) rfl (by decide) (j := j.toNat) (by omega)
  have hK_0_87 : ∀ j : Int, 0 ≤ j → j < 200 → 0 ≤ w_ei ws (w_ar ws (n_v vs 0) 87) j ∧ w_ei ws (w_ar ws (n_v vs 0) 87) j ≤ 75 := fun j h0 h1 => th_el hD hth cr_0_87 (kd := 0) (n := 200) (m := 200) (lo := 0) (hi := 75) (rs := []) (L := []) rfl (by decide) (j := j.toNat) (by omega)
  have hK_0_88 : ∀ j : Int, 0 ≤ j → j < 200 → 0 ≤ w_ei ws (w_ar ws (n_v vs 0) 88) j ∧ w_ei ws (w_ar ws (n_v vs 0) 88) j ≤ 75 := fun j h0 h1 => th_el hD hth cr_0_88 (kd := 0) (n := 200) (m := 200) (lo := 0) (hi := 75) (rs := []) (L := []) rfl (by decide) (j := j.toNat) (by omega)
  have hK_0_89 : ∀ j : Int, 0 ≤ j → j < 200 → 0 ≤ w_ei ws (w_ar ws (n_v vs 0) 89) j ∧ w_ei ws (w_ar ws (n_v vs 0) 89) j ≤ 202 := fun j h0 h1 => th_el hD hth cr_0_89 (kd := 0) (n := 200) (m := 200) (lo := 0) (hi := 202) (rs := []) (L := []) rfl (by decide) (j := j.toNat) (by omega)
  have hK_0_95 : ∀ j : Int, 0 ≤ j → j < 48 → 0 ≤ w_ei ws (w_ar ws (n_v vs 0) 95) j ∧ w_ei ws (w_ar ws (n_v vs 0) 95) j ≤ 1 := fun j h0 h1 => th_el hD hth cr_0_95 (kd := 2) (n := 48) (m := 48) (lo := 0) (hi := 1) (rs := []) (L := []) rfl (by decide) (j := j.toNat) (by omega)
  have hK_0_102 : ∀ j : Int, 0 ≤ j → j < 76 → 0 ≤ w_ei ws (w_ar ws (n_v vs 0) 102) j ∧ w_ei ws (w_ar ws (n_v vs 0) 102) j ≤ 75 := fun j h0 h1 => th_el hD hth cr_0_102 (kd := 0) (n := 76) (m := 76) (lo := 0) (hi := 75) (rs := []) (L := []) rfl (by decide) (j := j.toNat) (by omega)
  have hK_0_104 : ∀ j : Int, 0 ≤ j → j < 48 → 0 ≤ w_ei ws (w_ar ws (n_v vs 0) 104) j ∧ w_ei ws (w_ar ws (n_v vs 0) 104) j ≤ 76 := fun j h0 h1 => th_el hD hth cr_0_104 (kd := 0) (n := 48) (m := 48) (lo := 0) (hi := 76) (rs := []) (L := []) rfl (by decide) (j := j.toNat) (by omega)
  have hK_0_108 : ∀ j : Int, 0 ≤ j → j < 130 → 0 ≤ w_ei ws (w_ar ws (n_v vs 0) 108) j ∧ w_ei ws (w_ar ws (n_v vs 0) 108) j ≤ 75 := fun j h0 h1 => th_el hD hth cr_0_108 (kd := 0) (n := 130) (m := 130) (lo := 0) (hi := 75) (rs := []) (L := []) rfl (by decide) (j := j.toNat) (by omega)
  have hK_0_109 : ∀ j : Int, 0 ≤ j → j < 130 → 0 ≤ w_ei ws (w_ar ws (n_v vs 0) 109) j ∧ w_ei ws (w_ar ws (n_v vs 0) 109) j ≤ 75 := fun j h0 h1 => th_el hD hth cr_0_109 (kd := 0) (n := 130) (m := 130) (lo := 0) (hi := 75) (rs := []) (L := []) rfl (by decide) (j := j.toNat) (by omega)
  have kz_0_79 : 0 ≤ w_fi ws (n_v vs 0) 79 ∧ w_fi ws (n_v vs 0) 79 ≤ 76 := tv_rng (th_fd hD hth r0 (g := GG_150) rfl (k := 79) (t := (0, 0, 76, [])) rfl rfl)
  have kz_0_80 : 0 ≤ w_fi ws (n_v vs 0) 80 ∧ w_fi ws (n_v vs 0) 80 ≤ 200 := tv_rng (th_fd hD hth r0 (g := GG_150) rfl (k := 80) (t := (0, 0, 200, [])) rfl rfl)
  have kz_0_81 : 0 ≤ w_fi ws (n_v vs 0) 81 ∧ w_fi ws (n_v vs 0) 81 ≤ 200 := tv_rng (th_fd hD hth r0 (g := GG_150) rfl (k := 81) (t := (0, 0, 200, [])) rfl rfl)
  have kz_0_100 : 0 ≤ w_fi ws (n_v vs 0) 100 ∧ w_fi ws (n_v vs 0) 100 ≤ 76 := tv_rng (th_fd hD hth r0 (g := GG_150) rfl (k := 100) (t := (0, 0, 76, [])) rfl rfl)
  have kz_0_101 : 0 ≤ w_fi ws (n_v vs 0) 101 ∧ w_fi ws (n_v vs 0) 101 ≤ 76 := tv_rng (th_fd hD hth r0 (g := GG_150) rfl (k := 101) (t := (0, 0, 76, [])) rfl rfl)
  have kz_0_107 : 0 ≤ w_fi ws (n_v vs 0) 107 ∧ w_fi ws (n_v vs 0) 107 ≤ 130 := tv_rng (th_fd hD hth r0 (g := GG_150) rfl (k := 107) (t := (0, 0, 130, [])) rfl rfl)
  have hrf0 : 0 ≤ v_iv (n_v vs 13) ∧ v_iv (n_v vs 13) ≤ 75 := vc_Mo_layers_20_r0 (v_iv (n_v vs 2)) (v_iv (n_v vs 6)) (v_iv (n_v vs 7)) (v_iv (n_v vs 8)) (v_iv (n_v vs 10)) (v_iv (n_v vs 12)) (v_iv (n_v vs 13)) (w_ei ws (w_ar ws (n_v vs 0) 95)) (w_ei ws (w_ar ws (n_v vs 0) 104)) (w_ei ws (w_ar ws (n_v vs 0) 2)) (w_ei ws (w_ar ws (n_v vs 0) 102)) (w_ei ws (w_ar ws (n_v vs 0) 108)) (w_ei ws (w_ar ws (n_v vs 0) 109)) (w_fi ws (n_v vs 0) 5) (w_fi ws (n_v vs 0) 100) (w_fi ws (n_v vs 0) 101) (w_fi ws (n_v vs 0) 107) (w_ei ws (w_ar ws (n_v vs 0) 82)) (w_ei ws (w_ar ws (n_v vs 0) 83)) (w_ei ws (w_ar ws (n_v vs 0) 84)) (w_ei ws (w_ar ws (n_v vs 0) 85)) (w_ei ws (w_ar ws (n_v vs 0) 86)) (w_ei ws (w_ar ws (n_v vs 0) 87)) (w_ei ws (w_ar ws (n_v vs 0) 88)) (w_ei ws (w_ar ws (n_v vs 0) 89)) (w_fi ws (n_v vs 0) 79) (w_fi ws (n_v vs 0) 80) (w_fi ws (n_v vs 0) 81) k2 k6 k7 k8 k10 k12 k13 d0 d1 d2 d3 d4 d5 f0 f1 h2 h4 f6 f7 f8 f9 f10 f11 f12 f13 hK_0_82 hK_0_83 hK_0_84 hK_0_85 hK_0_86 hK_0_87 hK_0_88 hK_0_89 hK_0_95 hK_0_102 hK_0_104 hK_0_108 hK_0_109 kz_0_79 kz_0_80 kz_0_81 kz_0_100 kz_0_101 kz_0_107
  have rf13 : tv_ok ta (0, 0, 75, []) (n_v vs 13) := tv_in t13 (by first | omega | grind) (by first | omega | grind)
  refine ⟨List.forall_mem_cons.mpr ⟨rf13, (fun _ h => (by cases h))⟩, [], trivial, ?_, (fun _ h => (by cases h))⟩
  rw [List.append_nil]
  exact (fun _ h => (by cases h))
set_option maxHeartbeats 4000000 in
theorem vc_Mo_layers_21_r0 (x2 : Int) (x6 : Int) (x7 : Int) (x8 : Int) (x10 : Int) (x12 : Int) (x13 : Int) (x14 : Int) (x15 : Int) (x16 : Int) (turned_0 : Int → Int) (firstJoint_0 : Int → Int) (all_0 : Int → Int) (itemLayer_0 : Int → Int) (lineA_0 : Int → Int) (lineB_0 : Int → Int) (r_0 : Int) (items_0 : Int) (layerMany_0 : Int) (lines_0 : Int) (spot_0 : Int → Int) (costA_0 : Int → Int) (costB_0 : Int → Int) (costW_0 : Int → Int) (costPlain_0 : Int → Int) (apartA_0 : Int → Int) (apartB_0 : Int → Int) (apart_0 : Int → Int) (pointMany_0 : Int) (costMany_0 : Int) (apartMany_0 : Int) (k2 : 0 ≤ x2 ∧ x2 ≤ 24) (k6 : 0 ≤ x6 ∧ x6 ≤ 47) (k7 : 1 ≤ x7 ∧ x7 ≤ 22) (k8 : 0 ≤ x8 ∧ x8 ≤ 21) (k10 : 0 ≤ x10 ∧ x10 ≤ 76) (k12 : 1 ≤ x12 ∧ x12 ≤ 1) (k13 : 1 ≤ x13 ∧ x13 ≤ 1) (k14 : 0 ≤ x14 ∧ x14 ≤ 21) (k15 : (-21) ≤ x15 ∧ x15 ≤ 21) (k16 : (-21) ≤ x16 ∧ x16 ≤ 97) (d0 : x15 + 0 ≤ x16 ∧ x16 ≤ x15 + 76) (d1 : x14 + (-21) ≤ x16 ∧ x16 ≤ x14 + 76) (d2 : x7 + (-22) ≤ x16 ∧ x16 ≤ x7 + 75) (d3 : x10 + (-21) ≤ x16 ∧ x16 ≤ x10 + 21) (d4 : x14 + (-21) ≤ x15 ∧ x15 ≤ x14 + 0) (d5 : x7 + (-22) ≤ x15 ∧ x15 ≤ x7 + (-1)) (d6 : x7 + (-1) ≤ x14 ∧ x14 ≤ x7 + (-1)) (d7 : x7 + (-4294967296) ≤ x8 ∧ x8 ≤ x7 + (-1)) (d8 : x7 + (-4294967296) ≤ x8 ∧ x8 ≤ x7 + 0) (f0 : x16 = x10 + x15) (f1 : x15 = x14 - x8) (f2 : x14 = x7 - x13) (f3 : x12 ≠ 0) (h4 : x12 = turned_0 (x6)) (h6 : x10 = firstJoint_0 (x6)) (f8 : x8 < x7) (f9 : LSA (r_0) (items_0) (layerMany_0) (lines_0) (all_0) (turned_0) (itemLayer_0) (firstJoint_0) (lineA_0) (lineB_0)) (f10 : RIP (pointMany_0) (costMany_0) (apartMany_0) (spot_0) (costA_0) (costB_0) (costW_0) (costPlain_0) (apartA_0) (apartB_0) (apart_0)) (f11 : pointMany_0 = items_0) (f12 : x2 = all_0 (r_0)) (f13 : SGR (r_0) (all_0)) (f14 : JMX (r_0) (items_0) (all_0) (turned_0) (itemLayer_0) (firstJoint_0) (x6) (x7)) (f15 : (x6 + 1) ≤ all_0 ((r_0 + 1))) (hK_0_82 : ∀ j : Int, 0 ≤ j → j < 76 → 0 ≤ spot_0 j ∧ spot_0 j ≤ 221100000) (hK_0_83 : ∀ j : Int, 0 ≤ j → j < 200 → 0 ≤ costA_0 j ∧ costA_0 j ≤ 75) (hK_0_84 : ∀ j : Int, 0 ≤ j → j < 200 → 0 ≤ costB_0 j ∧ costB_0 j ≤ 75) (hK_0_85 : ∀ j : Int, 0 ≤ j → j < 200 → 0 ≤ costW_0 j ∧ costW_0 j ≤ 72) (hK_0_86 : ∀ j : Int, 0 ≤ j → j < 200 → 0 ≤ costPlain_0 j ∧ costPlain_0 j ≤ 1) (hK_0_87 : ∀ j : Int, 0 ≤ j → j < 200 → 0 ≤ apartA_0 j ∧ apartA_0 j ≤ 75) (hK_0_88 : ∀ j : Int, 0 ≤ j → j < 200 → 0 ≤ apartB_0 j ∧ apartB_0 j ≤ 75) (hK_0_89 : ∀ j : Int, 0 ≤ j → j < 200 → 0 ≤ apart_0 j ∧ apart_0 j ≤ 202) (hK_0_95 : ∀ j : Int, 0 ≤ j → j < 48 → 0 ≤ turned_0 j ∧ turned_0 j ≤ 1) (hK_0_102 : ∀ j : Int, 0 ≤ j → j < 76 → 0 ≤ itemLayer_0 j ∧ itemLayer_0 j ≤ 75) (hK_0_104 : ∀ j : Int, 0 ≤ j → j < 48 → 0 ≤ firstJoint_0 j ∧ firstJoint_0 j ≤ 76) (hK_0_108 : ∀ j : Int, 0 ≤ j → j < 130 → 0 ≤ lineA_0 j ∧ lineA_0 j ≤ 75) (hK_0_109 : ∀ j : Int, 0 ≤ j → j < 130 → 0 ≤ lineB_0 j ∧ lineB_0 j ≤ 75) (kz_0_79 : 0 ≤ pointMany_0 ∧ pointMany_0 ≤ 76) (kz_0_80 : 0 ≤ costMany_0 ∧ costMany_0 ≤ 200) (kz_0_81 : 0 ≤ apartMany_0 ∧ apartMany_0 ≤ 200) (kz_0_100 : 0 ≤ items_0 ∧ items_0 ≤ 76) (kz_0_101 : 0 ≤ layerMany_0 ∧ layerMany_0 ≤ 76) (kz_0_107 : 0 ≤ lines_0 ∧ lines_0 ≤ 130) : 0 ≤ x16 ∧ x16 ≤ 75 := by
  have h := ‹JMX _ _ _ _ _ _ _ _›
  have h1 := h.1
  have h2 := h.2
  omega
def o_Mo_layers_21 : or_T := (374, 17, [(0, (2, 0, 0, [150])), (2, (0, 0, 24, [])), (6, (0, 0, 47, [])), (7, (0, 1, 22, [])), (8, (0, 0, 21, [])), (9, (2, 0, 0, [222])), (10, (0, 0, 76, [])), (11, (2, 0, 0, [216])), (12, (0, 1, 1, [])), (13, (0, 1, 1, [])), (14, (0, 0, 21, [])), (15, (0, -21, 21, [])), (16, (0, -21, 97, []))], [(1, [16, 10, 15], []), (2, [15, 14, 8], []), (2, [14, 7, 13], []), (8, [12], [1]), (10, [12, 11, 6], []), (9, [11, 0], [95]), (10, [10, 9, 6], []), (9, [9, 0], [104]), (7, [8, 7], [2]), (20, [0], [60, 4, 6, 369, 5, 100, 101, 107, 2, 95, 102, 104, 108, 109]), (20, [0], [60, 3, 8, 348, 79, 80, 81, 82, 83, 84, 85, 86, 87, 88, 89]), (20, [0], [50, 2, 0, 79, 100, 1, 3, 2, 0, 79, 2, 0, 100]), (20, [2, 0], [50, 1, 1, 1005, 1002, 1, 2, 1, 0, 3, 1, 2, 2, 1, 5]), (20, [0], [60, 1, 1, 122, 5, 2]), (20, [0, 6, 7], [60, 2, 4, 417, 5, 100, 2, 95, 102, 104]), (20, [6, 0], [50, 1, 1, 1005, 1002, 0, 6, 4, 2, 1, 0, 0, 1, 3, 1, 2, 4, 3, 2, 1, 5, 0, 1])], [(16, (0, 0, 75, []))], [], [], [], [(16, 15, 0, 76), (16, 14, -21, 76), (16, 7, -22, 75), (16, 10, -21, 21), (15, 14, -21, 0), (15, 7, -22, -1), (14, 7, -1, -1), (8, 7, -4294967296, -1), (8, 7, -4294967296, 0)])
theorem oo_Mo_layers_21 {kA : Nat → ClassId} : or_ok PRD kA GG o_Mo_layers_21 := by
  intro A ta ws vs hD hth hl hk hds hf
  have hl : vs.length = 17 := hl
  have hk : ∀ q ∈ ([(0, (2, 0, 0, [150])), (2, (0, 0, 24, [])), (6, (0, 0, 47, [])), (7, (0, 1, 22, [])), (8, (0, 0, 21, [])), (9, (2, 0, 0, [222])), (10, (0, 0, 76, [])), (11, (2, 0, 0, [216])), (12, (0, 1, 1, [])), (13, (0, 1, 1, [])), (14, (0, 0, 21, [])), (15, (0, -21, 21, [])), (16, (0, -21, 97, []))] : List (Nat × tv_T)), tv_ok ta q.2 (n_v vs q.1) := hk
  obtain ⟨t0, hk⟩ := List.forall_mem_cons.mp hk
  have t0 : tv_ok ta (2, 0, 0, [150]) (n_v vs 0) := t0
  have r0 : ta (v_ad (n_v vs 0)) = some 150 := tv_rg t0
  obtain ⟨t2, hk⟩ := List.forall_mem_cons.mp hk
  have t2 : tv_ok ta (0, 0, 24, []) (n_v vs 2) := t2
  have k2 : 0 ≤ v_iv (n_v vs 2) ∧ v_iv (n_v vs 2) ≤ 24 := tv_rng t2
  obtain ⟨t6, hk⟩ := List.forall_mem_cons.mp hk
  have t6 : tv_ok ta (0, 0, 47, []) (n_v vs 6) := t6
  have k6 : 0 ≤ v_iv (n_v vs 6) ∧ v_iv (n_v vs 6) ≤ 47 := tv_rng t6
  obtain ⟨t7, hk⟩ := List.forall_mem_cons.mp hk
  have t7 : tv_ok ta (0, 1, 22, []) (n_v vs 7) := t7
  have k7 : 1 ≤ v_iv (n_v vs 7) ∧ v_iv (n_v vs 7) ≤ 22 := tv_rng t7
  obtain ⟨t8, hk⟩ := List.forall_mem_cons.mp hk
  have t8 : tv_ok ta (0, 0, 21, []) (n_v vs 8) := t8
  have k8 : 0 ≤ v_iv (n_v vs 8) ∧ v_iv (n_v vs 8) ≤ 21 := tv_rng t8
  obtain ⟨t9, hk⟩ := List.forall_mem_cons.mp hk
  have t9 : tv_ok ta (2, 0, 0, [222]) (n_v vs 9) := t9
  have r9 : ta (v_ad (n_v vs 9)) = some 222 := tv_rg t9
  obtain ⟨t10, hk⟩ := List.forall_mem_cons.mp hk
  have t10 : tv_ok ta (0, 0, 76, []) (n_v vs 10) := t10
  have k10 : 0 ≤ v_iv (n_v vs 10) ∧ v_iv (n_v vs 10) ≤ 76 := tv_rng t10
  obtain ⟨t11, hk⟩ := List.forall_mem_cons.mp hk
  have t11 : tv_ok ta (2, 0, 0, [216]) (n_v vs 11) := t11
  have r11 : ta (v_ad (n_v vs 11)) = some 216 := tv_rg t11
  obtain ⟨t12, hk⟩ := List.forall_mem_cons.mp hk
  have t12 : tv_ok ta (0, 1, 1, []) (n_v vs 12) := t12
  have k12 : 1 ≤ v_iv (n_v vs 12) ∧ v_iv (n_v vs 12) ≤ 1 := tv_rng t12
  obtain ⟨t13, hk⟩ := List.forall_mem_cons.mp hk
  have t13 : tv_ok ta (0, 1, 1, []) (n_v vs 13) := t13
  have k13 : 1 ≤ v_iv (n_v vs 13) ∧ v_iv (n_v vs 13) ≤ 1 := tv_rng t13
  obtain ⟨t14, hk⟩ := List.forall_mem_cons.mp hk
  have t14 : tv_ok ta (0, 0, 21, []) (n_v vs 14) := t14
  have k14 : 0 ≤ v_iv (n_v vs 14) ∧ v_iv (n_v vs 14) ≤ 21 := tv_rng t14
  obtain ⟨t15, hk⟩ := List.forall_mem_cons.mp hk
  have t15 : tv_ok ta (0, -21, 21, []) (n_v vs 15) := t15
  have k15 : (-21) ≤ v_iv (n_v vs 15) ∧ v_iv (n_v vs 15) ≤ 21 := tv_rng t15
  obtain ⟨t16, hk⟩ := List.forall_mem_cons.mp hk
  have t16 : tv_ok ta (0, -21, 97, []) (n_v vs 16) := t16
  have k16 : (-21) ≤ v_iv (n_v vs 16) ∧ v_iv (n_v vs 16) ≤ 97 := tv_rng t16
  have hds : ∀ q ∈ ([(16, 15, 0, 76), (16, 14, -21, 76), (16, 7, -22, 75), (16, 10, -21, 21), (15, 14, -21, 0), (15, 7, -22, -1), (14, 7, -1, -1), (8, 7, -4294967296, -1), (8, 7, -4294967296, 0)] : List of_T), n_iv vs q.2.1 + q.2.2.1 ≤ n_iv vs q.1 ∧ n_iv vs q.1 ≤ n_iv vs q.2.1 + q.2.2.2 := hds
  obtain ⟨d0, hds⟩ := List.forall_mem_cons.mp hds
  have d0 : v_iv (n_v vs 15) + 0 ≤ v_iv (n_v vs 16) ∧ v_iv (n_v vs 16) ≤ v_iv (n_v vs 15) + 76 := d0
  obtain ⟨d1, hds⟩ := List.forall_mem_cons.mp hds
  have d1 : v_iv (n_v vs 14) + (-21) ≤ v_iv (n_v vs 16) ∧ v_iv (n_v vs 16) ≤ v_iv (n_v vs 14) + 76 := d1
  obtain ⟨d2, hds⟩ := List.forall_mem_cons.mp hds
  have d2 : v_iv (n_v vs 7) + (-22) ≤ v_iv (n_v vs 16) ∧ v_iv (n_v vs 16) ≤ v_iv (n_v vs 7) + 75 := d2
  obtain ⟨d3, hds⟩ := List.forall_mem_cons.mp hds
  have d3 : v_iv (n_v vs 10) + (-21) ≤ v_iv (n_v vs 16) ∧ v_iv (n_v vs 16) ≤ v_iv (n_v vs 10) + 21 := d3
  obtain ⟨d4, hds⟩ := List.forall_mem_cons.mp hds
  have d4 : v_iv (n_v vs 14) + (-21) ≤ v_iv (n_v vs 15) ∧ v_iv (n_v vs 15) ≤ v_iv (n_v vs 14) + 0 := d4
  obtain ⟨d5, hds⟩ := List.forall_mem_cons.mp hds
  have d5 : v_iv (n_v vs 7) + (-22) ≤ v_iv (n_v vs 15) ∧ v_iv (n_v vs 15) ≤ v_iv (n_v vs 7) + (-1) := d5
  obtain ⟨d6, hds⟩ := List.forall_mem_cons.mp hds
  have d6 : v_iv (n_v vs 7) + (-1) ≤ v_iv (n_v vs 14) ∧ v_iv (n_v vs 14) ≤ v_iv (n_v vs 7) + (-1) := d6
  obtain ⟨d7, hds⟩ := List.forall_mem_cons.mp hds
  have d7 : v_iv (n_v vs 7) + (-4294967296) ≤ v_iv (n_v vs 8) ∧ v_iv (n_v vs 8) ≤ v_iv (n_v vs 7) + (-1) := d7
  obtain ⟨d8, hds⟩ := List.forall_mem_cons.mp hds
  have d8 : v_iv (n_v vs 7) + (-4294967296) ≤ v_iv (n_v vs 8) ∧ v_iv (n_v vs 8) ≤ v_iv (n_v vs 7) + 0 := d8
  have hf : fc_ok PRD [(1, [16, 10, 15], []), (2, [15, 14, 8], []), (2, [14, 7, 13], []), (8, [12], [1]), (10, [12, 11, 6], []), (9, [11, 0], [95]), (10, [10, 9, 6], []), (9, [9, 0], [104]), (7, [8, 7], [2]), (20, [0], [60, 4, 6, 369, 5, 100, 101, 107, 2, 95, 102, 104, 108, 109]), (20, [0], [60, 3, 8, 348, 79, 80, 81, 82, 83, 84, 85, 86, 87, 88, 89]), (20, [0], [50, 2, 0, 79, 100, 1, 3, 2, 0, 79, 2, 0, 100]), (20, [2, 0], [50, 1, 1, 1005, 1002, 1, 2, 1, 0, 3, 1, 2, 2, 1, 5]), (20, [0], [60, 1, 1, 122, 5, 2]), (20, [0, 6, 7], [60, 2, 4, 417, 5, 100, 2, 95, 102, 104]), (20, [6, 0], [50, 1, 1, 1005, 1002, 0, 6, 4, 2, 1, 0, 0, 1, 3, 1, 2, 4, 3, 2, 1, 5, 0, 1])] ta ws vs := hf
  obtain ⟨f0, hf⟩ := fc_un (show (1 : Nat) < 100 from by decide) hf
  have f0 : v_iv (n_v vs 16) = v_iv (n_v vs 10) + v_iv (n_v vs 15) := f0
  obtain ⟨f1, hf⟩ := fc_un (show (2 : Nat) < 100 from by decide) hf
  have f1 : v_iv (n_v vs 15) = v_iv (n_v vs 14) - v_iv (n_v vs 8) := f1
  obtain ⟨f2, hf⟩ := fc_un (show (2 : Nat) < 100 from by decide) hf
  have f2 : v_iv (n_v vs 14) = v_iv (n_v vs 7) - v_iv (n_v vs 13) := f2
  obtain ⟨f3, hf⟩ := fc_un (show (8 : Nat) < 100 from by decide) hf
  have f3 : v_iv (n_v vs 12) ≠ 0 := f3
  obtain ⟨f4, hf⟩ := fc_un (show (10 : Nat) < 100 from by decide) hf
  have f4 : v_iv (n_v vs 12) = w_el ws (v_ad (n_v vs 11)) (v_iv (n_v vs 6)).toNat := f4
  obtain ⟨f5, hf⟩ := fc_un (show (9 : Nat) < 100 from by decide) hf
  have f5 : n_v vs 11 = w_fd ws (v_ad (n_v vs 0)) 95 := f5
  obtain ⟨f6, hf⟩ := fc_un (show (10 : Nat) < 100 from by decide) hf
  have f6 : v_iv (n_v vs 10) = w_el ws (v_ad (n_v vs 9)) (v_iv (n_v vs 6)).toNat := f6
  obtain ⟨f7, hf⟩ := fc_un (show (9 : Nat) < 100 from by decide) hf
  have f7 : n_v vs 9 = w_fd ws (v_ad (n_v vs 0)) 104 := f7
  obtain ⟨f8, hf⟩ := fc_un (show (7 : Nat) < 100 from by decide) hf
  have f8 : v_iv (n_v vs 8) < v_iv (n_v vs 7) := f8
  obtain ⟨f9, hf⟩ := fc_un (show (20 : Nat) < 100 from by decide) hf
  have f9 : LSA (w_fi ws (n_v vs 0) 5) (w_fi ws (n_v vs 0) 100) (w_fi ws (n_v vs 0) 101) (w_fi ws (n_v vs 0) 107) (w_ei ws (w_ar ws (n_v vs 0) 2)) (w_ei ws (w_ar ws (n_v vs 0) 95)) (w_ei ws (w_ar ws (n_v vs 0) 102)) (w_ei ws (w_ar ws (n_v vs 0) 104)) (w_ei ws (w_ar ws (n_v vs 0) 108)) (w_ei ws (w_ar ws (n_v vs 0) 109)) := f9
  obtain ⟨f10, hf⟩ := fc_un (show (20 : Nat) < 100 from by decide) hf
  have f10 : RIP (w_fi ws (n_v vs 0) 79) (w_fi ws (n_v vs 0) 80) (w_fi ws (n_v vs 0) 81) (w_ei ws (w_ar ws (n_v vs 0) 82)) (w_ei ws (w_ar ws (n_v vs 0) 83)) (w_ei ws (w_ar ws (n_v vs 0) 84)) (w_ei ws (w_ar ws (n_v vs 0) 85)) (w_ei ws (w_ar ws (n_v vs 0) 86)) (w_ei ws (w_ar ws (n_v vs 0) 87)) (w_ei ws (w_ar ws (n_v vs 0) 88)) (w_ei ws (w_ar ws (n_v vs 0) 89)) := f10
  obtain ⟨f11, hf⟩ := fc_un (show (20 : Nat) < 100 from by decide) hf
  have f11 : w_fi ws (n_v vs 0) 79 = w_fi ws (n_v vs 0) 100 := f11
  obtain ⟨f12, hf⟩ := fc_un (show (20 : Nat) < 100 from by decide) hf
  have f12 : v_iv (n_v vs 2) = w_ei ws (w_ar ws (n_v vs 0) 2) (w_fi ws (n_v vs 0) 5) := f12
  obtain ⟨f13, hf⟩ := fc_un (show (20 : Nat) < 100 from by decide) hf
  have f13 : SGR (w_fi ws (n_v vs 0) 5) (w_ei ws (w_ar ws (n_v vs 0) 2)) := f13
  obtain ⟨f14, hf⟩ := fc_un (show (20 : Nat) < 100 from by decide) hf
  have f14 : JMX (w_fi ws (n_v vs 0) 5) (w_fi ws (n_v vs 0) 100) (w_ei ws (w_ar ws (n_v vs 0) 2)) (w_ei ws (w_ar ws (n_v vs 0) 95)) (w_ei ws (w_ar ws (n_v vs 0) 102)) (w_ei ws (w_ar ws (n_v vs 0) 104)) (v_iv (n_v vs 6)) (v_iv (n_v vs 7)) := f14
  obtain ⟨f15, hf⟩ := fc_un (show (20 : Nat) < 100 from by decide) hf
  have f15 : (v_iv (n_v vs 6) + 1) ≤ w_ei ws (w_ar ws (n_v vs 0) 2) ((w_fi ws (n_v vs 0) 5 + 1)) := f15
  have cr_0_2 : ta (w_ar ws (n_v vs 0) 2) = some 152 := tv_rg (th_fd hD hth r0 (g := GG_150) rfl (k := 2) (t := (2, 0, 0, [152])) rfl rfl)
  have cr_0_82 : ta (w_ar ws (n_v vs 0) 82) = some 204 := tv_rg (th_fd hD hth r0 (g := GG_150) rfl (k := 82) (t := (2, 0, 0, [204])) rfl rfl)
  have cr_0_83 : ta (w_ar ws (n_v vs 0) 83) = some 205 := tv_rg (th_fd hD hth r0 (g := GG_150) rfl (k := 83) (t := (2, 0, 0, [205])) rfl rfl)
  have cr_0_84 : ta (w_ar ws (n_v vs 0) 84) = some 206 := tv_rg (th_fd hD hth r0 (g := GG_150) rfl (k := 84) (t := (2, 0, 0, [206])) rfl rfl)
  have cr_0_85 : ta (w_ar ws (n_v vs 0) 85) = some 207 := tv_rg (th_fd hD hth r0 (g := GG_150) rfl (k := 85) (t := (2, 0, 0, [207])) rfl rfl)
  have cr_0_86 : ta (w_ar ws (n_v vs 0) 86) = some 208 := tv_rg (th_fd hD hth r0 (g := GG_150) rfl (k := 86) (t := (2, 0, 0, [208])) rfl rfl)
  have cr_0_87 : ta (w_ar ws (n_v vs 0) 87) = some 209 := tv_rg (th_fd hD hth r0 (g := GG_150) rfl (k := 87) (t := (2, 0, 0, [209])) rfl rfl)
  have cr_0_88 : ta (w_ar ws (n_v vs 0) 88) = some 210 := tv_rg (th_fd hD hth r0 (g := GG_150) rfl (k := 88) (t := (2, 0, 0, [210])) rfl rfl)
  have cr_0_89 : ta (w_ar ws (n_v vs 0) 89) = some 211 := tv_rg (th_fd hD hth r0 (g := GG_150) rfl (k := 89) (t := (2, 0, 0, [211])) rfl rfl)
  have cr_0_95 : ta (w_ar ws (n_v vs 0) 95) = some 216 := tv_rg (th_fd hD hth r0 (g := GG_150) rfl (k := 95) (t := (2, 0, 0, [216])) rfl rfl)
  have cr_0_102 : ta (w_ar ws (n_v vs 0) 102) = some 220 := tv_rg (th_fd hD hth r0 (g := GG_150) rfl (k := 102) (t := (2, 0, 0, [220])) rfl rfl)
  have cr_0_104 : ta (w_ar ws (n_v vs 0) 104) = some 222 := tv_rg (th_fd hD hth r0 (g := GG_150) rfl (k := 104) (t := (2, 0, 0, [222])) rfl rfl)
  have cr_0_108 : ta (w_ar ws (n_v vs 0) 108) = some 225 := tv_rg (th_fd hD hth r0 (g := GG_150) rfl (k := 108) (t := (2, 0, 0, [225])) rfl rfl)
  have cr_0_109 : ta (w_ar ws (n_v vs 0) 109) = some 226 := tv_rg (th_fd hD hth r0 (g := GG_150) rfl (k := 109) (t := (2, 0, 0, [226])) rfl rfl)
  have ad_11 : v_ad (n_v vs 11) = w_ar ws (n_v vs 0) 95 := congrArg v_ad f5
  have ad_9 : v_ad (n_v vs 9) = w_ar ws (n_v vs 0) 104 := congrArg v_ad f7
  rw [ad_11] at f4
  have h4 : v_iv (n_v vs 12) = w_ei ws (w_ar ws (n_v vs 0) 95) (v_iv (n_v vs 6)) := f4
  rw [ad_9] at f6
  have h6 : v_iv (n_v vs 10) = w_ei ws (w_ar ws (n_v vs 0) 104) (v_iv (n_v vs 6)) := f6
  have hK_0_82 : ∀ j : Int, 0 ≤ j → j < 76 → 0 ≤ w_ei ws (w_ar ws (n_v vs 0) 82) j ∧ w_ei ws (w_ar ws (n_v vs 0) 82) j ≤ 221100000 := fun j h0 h1 => th_el hD hth cr_0_82 (kd := 0) (n := 76) (m := 76) (lo := 0) (hi := 221100000) (rs := []) (L := []) rfl (by decide) (j := j.toNat) (by omega)
  have hK_0_83 : ∀ j : Int, 0 ≤ j → j < 200 → 0 ≤ w_ei ws (w_ar ws (n_v vs 0) 83) j ∧ w_ei ws (w_ar ws (n_v vs 0) 83) j ≤ 75 := fun j h0 h1 => th_el hD hth cr_0_83 (kd := 0) (n := 200) (m := 200) (lo := 0) (hi := 75) (rs := []) (L := []) rfl (by decide) (j := j.toNat) (by omega)
  have hK_0_84 : ∀ j : Int, 0 ≤ j → j < 200 → 0 ≤ w_ei ws (w_ar ws (n_v vs 0) 84) j ∧ w_ei ws (w_ar ws (n_v vs 0) 84) j ≤ 75 := fun j h0 h1 => th_el hD hth cr_0_84 (kd := 0) (n := 200) (m := 200) (lo := 0) (hi := 75) (rs := []) (L := []) rfl (by decide) (j := j.toNat) (by omega)
  have hK_0_85 : ∀ j : Int, 0 ≤ j → j < 200 → 0 ≤ w_ei ws (w_ar ws (n_v vs 0) 85) j ∧ w_ei ws (w_ar ws (n_v vs 0) 85) j ≤ 72 := fun j h0 h1 => th_el hD hth cr_0_85 (kd := 0) (n := 200) (m := 200) (lo := 0) (hi := 72) (rs := []) (L := []) rfl (by decide) (j := j.toNat) (by omega)
  have hK_0_86 : ∀ j : Int, 0 ≤ j → j < 200 → 0 ≤ w_ei ws (w_ar ws (n_v vs 0) 86) j ∧ w_ei ws (w_ar ws (n_v vs 0) 86) j ≤ 1 := fun j h0 h1 => th_el hD hth cr_0_86 (kd := 2) (n := 200) (m := 200) (lo := 0) (hi := 1) (rs := []) (L := []) rfl (by decide) (j := j.toNat) (by omega)
  have hK_0_87 : ∀ j : Int, 0 ≤ j → j < 200 → 0 ≤ w_ei ws (w_ar ws (n_v vs 0) 87) j ∧ w_ei ws (w_ar ws (n_v vs 0) 87) j ≤ 75 := fun j h0 h1 => th_el hD hth cr_0_87 (kd := 0) (n := 200) (m := 200) (lo := 0) (hi := 75) (rs := []) (L := []) rfl (by decide) (j := j.toNat) (by omega)
  have hK_0_88 : ∀ j : Int, 0 ≤ j → j < 200 → 0 ≤ w_ei ws (w_ar ws (n_v vs 0) 88) j ∧ w_ei ws (w_ar ws (n_v vs 0) 88) j ≤ 75 := fun j h0 h1 => th_el hD hth cr_0_88 (kd := 0) (n := 200) (m := 200) (lo := 0) (hi := 75) (rs := []) (L := []) rfl (by decide) (j := j.toNat) (by omega)
  have hK_0_89 : ∀ j : Int, 0 ≤ j → j < 200 → 0 ≤ w_ei ws (w_ar ws (n_v vs 0) 89) j ∧ w_ei ws (w_ar ws (n_v vs 0) 89) j ≤ 202 := fun j h0 h1 => th_el hD hth cr_0_89 (kd := 0) (n := 200) (m := 200) (lo := 0) (hi := 202) (rs := []) (L := []) rfl (by decide) (j := j.toNat) (by omega)
  have hK_0_95 : ∀ j : Int, 0 ≤ j → j < 48 → 0 ≤ w_ei ws (w_ar ws (n_v vs 0) 95) j ∧ w_ei ws (w_ar ws (n_v vs 0) 95) j ≤ 1 := fun j h0 h1 => th_el hD hth cr_0_95 (kd := 2) (n := 48) (m := 48) (lo := 0) (hi := 1) (rs := []) (L := []) rfl (by decide) (j := j.toNat) (by omega)
  have hK_0_102 : ∀ j : Int, 0 ≤ j → j < 76 → 0 ≤ w_ei ws (w_ar ws (n_v vs 0) 102) j ∧ w_ei ws (w_ar ws (n_v vs 0) 102) j ≤ 75 := fun j h0 h1 => th_el hD hth cr_0_102 (kd := 0) (n := 76) (m := 76) (lo := 0) (hi := 75) (rs := []) (L := []) rfl (by decide) (j := j.toNat) (by omega)
  have hK_0_104 : ∀ j : Int, 0 ≤ j → j < 48 → 0 ≤ w_ei ws (w_ar ws (n_v vs 0) 104) j ∧ w_ei ws (w_ar ws (n_v vs 0) 104) j ≤ 76 := fun j h0 h1 => th_el hD hth cr_0_104 (kd := 0) (n := 48) (m := 48) (lo := 0) (hi := 76) (rs := []) (L := []) rfl (by decide) (j := j.toNat) (by omega)
  have hK_0_108 : ∀ j : Int, 0 ≤ j → j < 130 → 0 ≤ w_ei ws (w_ar ws (n_v vs 0) 108) j ∧ w_ei ws (w_ar ws (n_v vs 0) 108) j ≤ 75 := fun j h0 h1 => th_el hD hth cr_0_108 (kd := 0) (n := 130) (m := 130) (lo := 0) (hi := 75) (rs := []) (L := []) rfl (by decide) (j := j.toNat) (by omega)
  have hK_0_109 : ∀ j : Int, 0 ≤ j → j < 130 → 0 ≤ w_ei ws (w_ar ws (n_v vs 0) 109) j ∧ w_ei ws (w_ar ws (n_v vs 0) 109) j ≤ 75 := fun j h0 h1 => th_el hD hth cr_0_109 (kd := 0) (n := 130) (m := 130) (lo := 0) (hi := 75) (rs := []) (L := []) rfl (by decide) (j := j.toNat) (by omega)
  have kz_0_79 : 0 ≤ w_fi ws (n_v vs 0) 79 ∧ w_fi ws (n_v vs 0) 79 ≤ 76 := tv_rng (th_fd hD hth r0 (g := GG_150) rfl (k := 79) (t := (0, 0, 76, [])) rfl rfl)
  have kz_0_80 : 0 ≤ w_fi ws (n_v vs 0) 80 ∧ w_fi ws (n_v vs 0) 80 ≤ 200 := tv_rng (th_fd hD hth r0 (g := GG_150) rfl (k := 80) (t := (0, 0, 200, [])) rfl rfl)
  have kz_0_81 : 0 ≤ w_fi ws (n_v vs 0) 81 ∧ w_fi ws (n_v vs 0) 81 ≤ 200 := tv_rng (th_fd hD hth r0 (g := GG_150) rfl (k := 81) (t := (0, 0, 200, [])) rfl rfl)
  have kz_0_100 : 0 ≤ w_fi ws (n_v vs 0) 100 ∧ w_fi ws (n_v vs 0) 100 ≤ 76 := tv_rng (th_fd hD hth r0 (g := GG_150) rfl (k := 100) (t := (0, 0, 76, [])) rfl rfl)
  have kz_0_101 : 0 ≤ w_fi ws (n_v vs 0) 101 ∧ w_fi ws (n_v vs 0) 101 ≤ 76 := tv_rng (th_fd hD hth r0 (g := GG_150) rfl (k := 101) (t := (0, 0, 76, [])) rfl rfl)
  have kz_0_107 : 0 ≤ w_fi ws (n_v vs 0) 107 ∧ w_fi ws (n_v vs 0) 107 ≤ 130 := tv_rng (th_fd hD hth r0 (g := GG_150) rfl (k := 107) (t := (0, 0, 130, [])) rfl rfl)
  have hrf0 : 0 ≤ v_iv (n_v vs 16) ∧ v_iv (n_v vs 16) ≤ 75 := vc_Mo_layers_21_r0 (v_iv (n_v vs 2)) (v_iv (n_v vs 6)) (v_iv (n_v vs 7)) (v_iv (n_v vs 8)) (v_iv (n_v vs 10)) (v_iv (n_v vs 12)) (v_iv (n_v vs 13)) (v_iv (n_v vs 14)) (v_iv (n_v vs 15)) (v_iv (n_v vs 16)) (w_ei ws (w_ar ws (n_v vs 0) 95)) (w_ei ws (w_ar ws (n_v vs 0) 104)) (w_ei ws (w_ar ws (n_v vs 0) 2)) (w_ei ws (w_ar ws (n_v vs 0) 102)) (w_ei ws (w_ar ws (n_v vs 0) 108)) (w_ei ws (w_ar ws (n_v vs 0) 109)) (w_fi ws (n_v vs 0) 5) (w_fi ws (n_v vs 0) 100) (w_fi ws (n_v vs 0) 101) (w_fi ws (n_v vs 0) 107) (w_ei ws (w_ar ws (n_v vs 0) 82)) (w_ei ws (w_ar ws (n_v vs 0) 83)) (w_ei ws (w_ar ws (n_v vs 0) 84)) (w_ei ws (w_ar ws (n_v vs 0) 85)) (w_ei ws (w_ar ws (n_v vs 0) 86)) (w_ei ws (w_ar ws (n_v vs 0) 87)) (w_ei ws (w_ar ws (n_v vs 0) 88)) (w_ei ws (w_ar ws (n_v vs 0) 89)) (w_fi ws (n_v vs 0) 79) (w_fi ws (n_v vs 0) 80) (w_fi ws (n_v vs 0) 81) k2 k6 k7 k8 k10 k12 k13 k14 k15 k16 d0 d1 d2 d3 d4 d5 d6 d7 d8 f0 f1 f2 f3 h4 h6 f8 f9 f10 f11 f12 f13 f14 f15 hK_0_82 hK_0_83 hK_0_84 hK_0_85 hK_0_86 hK_0_87 hK_0_88 hK_0_89 hK_0_95 hK_0_102 hK_0_104 hK_0_108 hK_0_109 kz_0_79 kz_0_80 kz_0_81 kz_0_100 kz_0_101 kz_0_107
  have rf16 : tv_ok ta (0, 0, 75, []) (n_v vs 16) := tv_in t16 (by first | omega | grind) (by first | omega | grind)
  refine ⟨List.forall_mem_cons.mpr ⟨rf16, (fun _ h => (by cases h))⟩, [], trivial, ?_, (fun _ h => (by cases h))⟩
  rw [List.append_nil]
  exact (fun _ h => (by cases h))
def n_Mo_layers_an : List an_T := [(24, [(0, (2, 0, 0, [150])), (1, (0, 0, 3, [])), (2, (0, 0, 48, []))], [], (0, 0), [(0, 0, 99976), (1, 2, 48), (0, 0, 100000), (0, 0, 0), (0, 0, 0)], [(1, 2, -1000000000000, 3)], [], [], 0, [], [(20, [0], [60, 0, 3, 291, 110, 111, 112]), (20, [0], [60, 1, 1, 122, 5, 2]), (20, [0], [50, 1, 1, 5, 2, 0, 2, 0, 1, 3, 0, 2, 2, 0, 5]), (20, [2, 0], [50, 1, 1, 1005, 1002, 0, 2, 1, 0, 3, 1, 2, 4, 3, 2, 1, 5, 0, 1]), (20, [0], [60, 1, 2, 290, 5, 2, 95]), (20, [0], [60, 3, 9, 358, 5, 80, 81, 2, 95, 83, 84, 85, 86, 87, 88, 89]), (20, [0], [50, 2, 1, 79, 5, 2, 1, 3, 2, 0, 79, 3, 0, 2, 2, 0, 5]), (20, [0, 2], [50, 1, 0, 80, 1, 3, 2, 0, 80, 1, 1]), (20, [0, 2], [50, 1, 0, 81, 1, 3, 2, 0, 81, 1, 1])]), (90, [(0, (2, 0, 0, [150])), (1, (0, 0, 3, [])), (2, (0, 0, 24, [])), (3, (0, 0, 0, [])), (4, (0, 0, 0, [])), (5, (0, 0, 24, []))], [], (0, 0), [(0, 0, 99910), (1, 5, 24), (0, 0, 100000), (0, 0, 0), (0, 0, 0)], [(1, 2, -1000000000000, 3), (1, 3, -1000000000000, 3), (1, 4, -1000000000000, 3), (1, 5, -1000000000000, 3), (2, 1, -1000000000000, 24), (2, 3, -1000000000000, 24), (2, 4, -1000000000000, 24), (2, 5, -1000000000000, 24), (3, 1, -1000000000000, 0), (3, 2, -1000000000000, 0), (3, 4, -1000000000000, 0), (3, 5, -1000000000000, 0), (4, 1, -1000000000000, 0), (4, 2, -1000000000000, 0), (4, 3, -1000000000000, 0), (4, 5, -1000000000000, 0), (5, 2, -1000000000000, 0)], [], [], 0, [], [(20, [0], [60, 0, 3, 291, 110, 111, 112]), (20, [0], [60, 1, 1, 122, 5, 2]), (20, [0], [50, 1, 1, 5, 2, 0, 2, 0, 1, 3, 0, 2, 2, 0, 5]), (20, [0], [60, 1, 3, 359, 5, 2, 95, 82]), (20, [0, 5], [60, 0, 2, 360, 102, 82]), (20, [2, 0], [50, 1, 1, 1005, 1002, 1, 2, 1, 0, 3, 1, 2, 2, 1, 5])]), (119, [(0, (2, 0, 0, [150])), (1, (0, 0, 3, [])), (2, (0, 0, 24, [])), (3, (0, 0, 1056, [])), (4, (0, 0, 9936, [])), (5, (0, 0, 48, []))], [], (0, 0), [(0, 0, 99881), (1, 5, 48), (0, 0, 100000), (0, 0, 0), (0, 0, 0)], [(1, 2, -1000000000000, 3), (1, 3, -1000000000000, 3), (1, 4, -1000000000000, 3), (1, 5, -1000000000000, 3)], [], [], 0, [], [(20, [0], [60, 0, 3, 291, 110, 111, 112]), (20, [0], [60, 1, 1, 122, 5, 2]), (20, [0], [50, 1, 1, 5, 2, 0, 2, 0, 1, 3, 0, 2, 2, 0, 5]), (20, [5, 0], [50, 1, 1, 1005, 1002, 0, 2, 1, 0, 3, 1, 2, 4, 3, 2, 1, 5, 0, 1]), (20, [0], [60, 1, 3, 359, 5, 2, 95, 82]), (20, [0], [60, 1, 3, 416, 5, 2, 102, 82]), (20, [2, 0], [50, 1, 1, 1005, 1002, 1, 2, 1, 0, 3, 1, 2, 2, 1, 5]), (20, [0, 5, 3], [60, 1, 3, 361, 5, 2, 95, 82]), (20, [3, 5], [50, 0, 0, 2, 6, 0, 2, 0, 0, 1, 0, 0, 2, 1, 0, 6, 2, 0, 22, 1, 1]), (20, [4, 5], [50, 0, 0, 2, 6, 0, 2, 0, 0, 1, 0, 0, 2, 1, 0, 6, 2, 0, 207, 1, 1])]), (223, [(0, (2, 0, 0, [150])), (1, (0, 0, 3, [])), (2, (0, 0, 24, [])), (3, (0, 0, 72, [])), (4, (0, 0, 9936, [])), (5, (0, -2147483648, 2147483647, [])), (6, (0, 0, 24, []))], [], (0, 0), [(0, 0, 99777), (1, 6, 24), (0, 0, 100000), (0, 0, 0), (0, 0, 0)], [(1, 2, -1000000000000, 3), (1, 3, -1000000000000, 3), (1, 4, -1000000000000, 3), (1, 6, -1000000000000, 3), (6, 2, -1000000000000, 0)], [], [], 0, [], [(20, [0], [60, 4, 6, 369, 5, 100, 101, 107, 2, 95, 102, 104, 108, 109]), (20, [0], [60, 3, 8, 348, 79, 80, 81, 82, 83, 84, 85, 86, 87, 88, 89]), (20, [0], [50, 2, 0, 79, 100, 1, 3, 2, 0, 79, 2, 0, 100]), (20, [2, 0], [50, 1, 1, 1005, 1002, 1, 2, 1, 0, 3, 1, 2, 2, 1, 5]), (20, [0], [60, 1, 1, 122, 5, 2])]), (287, [(0, (2, 0, 0, [150])), (1, (0, 0, 3, [])), (2, (0, 0, 24, [])), (3, (0, 0, 72, [])), (4, (0, 0, 16383, [])), (5, (0, -2147483648, 2147483647, [])), (6, (0, 0, 48, []))], [], (0, 0), [(0, 0, 99713), (1, 6, 48), (0, 0, 100000), (0, 0, 0), (0, 0, 0)], [(1, 2, -1000000000000, 3), (1, 3, -1000000000000, 3), (1, 4, -1000000000000, 3), (1, 6, -1000000000000, 3)], [], [], 0, [], [(20, [0], [60, 4, 6, 369, 5, 100, 101, 107, 2, 95, 102, 104, 108, 109]), (20, [0], [60, 3, 8, 348, 79, 80, 81, 82, 83, 84, 85, 86, 87, 88, 89]), (20, [0], [50, 2, 0, 79, 100, 1, 3, 2, 0, 79, 2, 0, 100]), (20, [2, 0], [50, 1, 1, 1005, 1002, 1, 2, 1, 0, 3, 1, 2, 2, 1, 5]), (20, [0], [60, 1, 1, 122, 5, 2])]), (335, [(0, (2, 0, 0, [150])), (1, (0, 0, 3, [])), (2, (0, 0, 24, [])), (3, (0, 0, 72, [])), (4, (0, 0, 16383, [])), (5, (0, -2147483648, 2147483647, [])), (6, (0, 0, 47, [])), (7, (0, 0, 22, [])), (8, (0, 0, 22, []))], [], (0, 0), [(0, 0, 99713), (1, 6, 48), (0, 0, 99665), (1, 8, 22), (0, 0, 100000)], [(1, 2, -1000000000000, 3), (1, 3, -1000000000000, 3), (1, 4, -1000000000000, 3), (1, 6, -1000000000000, 3), (1, 7, -1000000000000, 3), (1, 8, -1000000000000, 3), (7, 1, -1000000000000, 22), (7, 2, -1000000000000, 22), (7, 3, -1000000000000, 22), (7, 4, -1000000000000, 22), (7, 6, -1000000000000, 22), (7, 8, -1000000000000, 22), (8, 7, -1000000000000, 0)], [], [], 0, [], [(20, [0], [60, 4, 6, 369, 5, 100, 101, 107, 2, 95, 102, 104, 108, 109]), (20, [0], [60, 3, 8, 348, 79, 80, 81, 82, 83, 84, 85, 86, 87, 88, 89]), (20, [0], [50, 2, 0, 79, 100, 1, 3, 2, 0, 79, 2, 0, 100]), (20, [2, 0], [50, 1, 1, 1005, 1002, 1, 2, 1, 0, 3, 1, 2, 2, 1, 5]), (20, [0], [60, 1, 1, 122, 5, 2]), (20, [0, 6, 7], [60, 2, 4, 417, 5, 100, 2, 95, 102, 104]), (20, [6, 0], [50, 1, 1, 1005, 1002, 0, 6, 4, 2, 1, 0, 0, 1, 3, 1, 2, 4, 3, 2, 1, 5, 0, 1])])]
def t_Mo_layers_ct : ct_L := [(1, 401, e_Mo_edges), (1, 475, e_Mo_nodes), (1, 737, e_Mo_weight), (1, 813, e_Mo_turnEdges), (1, 816, e_Mo_from), (1, 818, e_Mo_to), (1, 827, e_Mo_rise), (1, 830, e_Mo_list), (1, 833, e_Mo_isSmall), (1, 836, e_Mo_exactOrders), (1, 839, e_Mo_sweeps), (1, 842, e_Mo_across2), (151, 821, e_Mo_cost_at_gl), (196, 825, e_Mo_apart_at_gl)]
set_option maxRecDepth 100000 in
theorem c_Mo_layers {l : Launch} {D : va_G} {kA : Nat → ClassId} (h_Mo_across2 : ct_ok PRD l D kA GG y_Mo_across2 z_Mo_across2 e_Mo_across2) (h_Mo_apart_at_gl : ct_ok PRD l D kA GG y_Mo_apart_at_gl z_Mo_apart_at_gl e_Mo_apart_at_gl) (h_Mo_cost_at_gl : ct_ok PRD l D kA GG y_Mo_cost_at_gl z_Mo_cost_at_gl e_Mo_cost_at_gl) (h_Mo_edges : ct_ok PRD l D kA GG y_Mo_edges z_Mo_edges e_Mo_edges) (h_Mo_exactOrders : ct_ok PRD l D kA GG y_Mo_exactOrders z_Mo_exactOrders e_Mo_exactOrders) (h_Mo_from : ct_ok PRD l D kA GG y_Mo_from z_Mo_from e_Mo_from) (h_Mo_isSmall : ct_ok PRD l D kA GG y_Mo_isSmall z_Mo_isSmall e_Mo_isSmall) (h_Mo_list : ct_ok PRD l D kA GG y_Mo_list z_Mo_list e_Mo_list) (h_Mo_nodes : ct_ok PRD l D kA GG y_Mo_nodes z_Mo_nodes e_Mo_nodes) (h_Mo_rise : ct_ok PRD l D kA GG y_Mo_rise z_Mo_rise e_Mo_rise) (h_Mo_sweeps : ct_ok PRD l D kA GG y_Mo_sweeps z_Mo_sweeps e_Mo_sweeps) (h_Mo_to : ct_ok PRD l D kA GG y_Mo_to z_Mo_to e_Mo_to) (h_Mo_turnEdges : ct_ok PRD l D kA GG y_Mo_turnEdges z_Mo_turnEdges e_Mo_turnEdges) (h_Mo_weight : ct_ok PRD l D kA GG y_Mo_weight z_Mo_weight e_Mo_weight) : ct_ok PRD l D kA GG y_Mo_layers z_Mo_layers e_Mo_layers := chk_all_ok (FT := [(138, 13, 67), (141, 13, 68), (144, 13, 69), (147, 13, 70), (159, 13, 74), (162, 13, 75), (165, 13, 76), (168, 13, 77), (171, 13, 78), (174, 13, 82), (210, 13, 95), (222, 13, 102), (228, 13, 104)]) (PT := [(777, 13, 80, .int), (780, 13, 81, .int), (783, 13, 79, .int)]) (CT := t_Mo_layers_ct) (KT := []) (NT := []) (AN := n_Mo_layers_an) (OT := [o_Mo_layers_0, o_Mo_layers_1, o_Mo_layers_2, o_Mo_layers_3, o_Mo_layers_4, o_Mo_layers_5, o_Mo_layers_6, o_Mo_layers_7, o_Mo_layers_8, o_Mo_layers_9, o_Mo_layers_10, o_Mo_layers_11, o_Mo_layers_12, o_Mo_layers_13, o_Mo_layers_14, o_Mo_layers_15, o_Mo_layers_16, o_Mo_layers_17, o_Mo_layers_18, o_Mo_layers_19, o_Mo_layers_20, o_Mo_layers_21]) 5 1220 (List.forall_mem_cons.mpr ⟨oo_Mo_layers_0, List.forall_mem_cons.mpr ⟨oo_Mo_layers_1, List.forall_mem_cons.mpr ⟨oo_Mo_layers_2, List.forall_mem_cons.mpr ⟨oo_Mo_layers_3, List.forall_mem_cons.mpr ⟨oo_Mo_layers_4, List.forall_mem_cons.mpr ⟨oo_Mo_layers_5, List.forall_mem_cons.mpr ⟨oo_Mo_layers_6, List.forall_mem_cons.mpr ⟨oo_Mo_layers_7, List.forall_mem_cons.mpr ⟨oo_Mo_layers_8, List.forall_mem_cons.mpr ⟨oo_Mo_layers_9, List.forall_mem_cons.mpr ⟨oo_Mo_layers_10, List.forall_mem_cons.mpr ⟨oo_Mo_layers_11, List.forall_mem_cons.mpr ⟨oo_Mo_layers_12, List.forall_mem_cons.mpr ⟨oo_Mo_layers_13, List.forall_mem_cons.mpr ⟨oo_Mo_layers_14, List.forall_mem_cons.mpr ⟨oo_Mo_layers_15, List.forall_mem_cons.mpr ⟨oo_Mo_layers_16, List.forall_mem_cons.mpr ⟨oo_Mo_layers_17, List.forall_mem_cons.mpr ⟨oo_Mo_layers_18, List.forall_mem_cons.mpr ⟨oo_Mo_layers_19, List.forall_mem_cons.mpr ⟨oo_Mo_layers_20, List.forall_mem_cons.mpr ⟨oo_Mo_layers_21, List.forall_mem_nil _⟩⟩⟩⟩⟩⟩⟩⟩⟩⟩⟩⟩⟩⟩⟩⟩⟩⟩⟩⟩⟩⟩) (by decide +kernel) ⟨List.forall_mem_cons.mpr ⟨gf_Mo_138, List.forall_mem_cons.mpr ⟨gf_Mo_141, List.forall_mem_cons.mpr ⟨gf_Mo_144, List.forall_mem_cons.mpr ⟨gf_Mo_147, List.forall_mem_cons.mpr ⟨gf_Mo_159, List.forall_mem_cons.mpr ⟨gf_Mo_162, List.forall_mem_cons.mpr ⟨gf_Mo_165, List.forall_mem_cons.mpr ⟨gf_Mo_168, List.forall_mem_cons.mpr ⟨gf_Mo_171, List.forall_mem_cons.mpr ⟨gf_Mo_174, List.forall_mem_cons.mpr ⟨gf_Mo_210, List.forall_mem_cons.mpr ⟨gf_Mo_222, List.forall_mem_cons.mpr ⟨gf_Mo_228, List.forall_mem_nil _⟩⟩⟩⟩⟩⟩⟩⟩⟩⟩⟩⟩⟩, List.forall_mem_cons.mpr ⟨pf_Mo_777, List.forall_mem_cons.mpr ⟨pf_Mo_780, List.forall_mem_cons.mpr ⟨pf_Mo_783, List.forall_mem_nil _⟩⟩⟩, List.forall_mem_cons.mpr ⟨cl_virtual (y := y_Mo_edges) (ci := 13) rfl rfl ⟨_, _, rfl⟩ (by decide +kernel) h_Mo_edges wm_3037 wm_9 wm_3034 wm_3036 wv_13_6 ⟨by decide, by decide, by decide +kernel⟩ (by decide), List.forall_mem_cons.mpr ⟨cl_virtual (y := y_Mo_nodes) (ci := 13) rfl rfl ⟨_, _, rfl⟩ (by decide +kernel) h_Mo_nodes wm_3025 wm_9 wm_3022 wm_3024 wv_13_3 ⟨by decide, by decide, by decide +kernel⟩ (by decide), List.forall_mem_cons.mpr ⟨cl_virtual (y := y_Mo_weight) (ci := 13) rfl rfl ⟨_, _, rfl⟩ (by decide +kernel) h_Mo_weight wm_3339 wm_9 wm_3336 wm_3338 wv_17_7 ⟨by decide, by decide, by decide +kernel⟩ (by decide), List.forall_mem_cons.mpr ⟨cl_virtual (y := y_Mo_turnEdges) (ci := 13) rfl rfl ⟨_, _, rfl⟩ (by decide +kernel) h_Mo_turnEdges wm_3375 wm_9 wm_3372 wm_3374 wv_17_12 ⟨by decide, by decide, by decide +kernel⟩ (by decide), List.forall_mem_cons.mpr ⟨cl_virtual (y := y_Mo_from) (ci := 13) rfl rfl ⟨_, _, rfl⟩ (by decide +kernel) h_Mo_from wm_3395 wm_9 wm_3392 wm_3394 wv_18_1 ⟨by decide, by decide, by decide +kernel⟩ (by decide), List.forall_mem_cons.mpr ⟨cl_virtual (y := y_Mo_to) (ci := 13) rfl rfl ⟨_, _, rfl⟩ (by decide +kernel) h_Mo_to wm_3399 wm_9 wm_3396 wm_3398 wv_18_2 ⟨by decide, by decide, by decide +kernel⟩ (by decide), List.forall_mem_cons.mpr ⟨cl_virtual (y := y_Mo_rise) (ci := 13) rfl rfl ⟨_, _, rfl⟩ (by decide +kernel) h_Mo_rise wm_3411 wm_9 wm_3408 wm_3410 wv_18_5 ⟨by decide, by decide, by decide +kernel⟩ (by decide), List.forall_mem_cons.mpr ⟨cl_virtual (y := y_Mo_list) (ci := 13) rfl rfl ⟨_, _, rfl⟩ (by decide +kernel) h_Mo_list wm_3423 wm_9 wm_3420 wm_3422 wv_18_8 ⟨by decide, by decide, by decide +kernel⟩ (by decide), List.forall_mem_cons.mpr ⟨cl_virtual (y := y_Mo_isSmall) (ci := 13) rfl rfl ⟨_, _, rfl⟩ (by decide +kernel) h_Mo_isSmall wm_3434 wm_9 wm_3431 wm_3433 wv_18_10 ⟨by decide, by decide, by decide +kernel⟩ (by decide), List.forall_mem_cons.mpr ⟨cl_virtual (y := y_Mo_exactOrders) (ci := 13) rfl rfl ⟨_, _, rfl⟩ (by decide +kernel) h_Mo_exactOrders wm_3438 wm_9 wm_3435 wm_3437 wv_18_11 ⟨by decide, by decide, by decide +kernel⟩ (by decide), List.forall_mem_cons.mpr ⟨cl_virtual (y := y_Mo_sweeps) (ci := 13) rfl rfl ⟨_, _, rfl⟩ (by decide +kernel) h_Mo_sweeps wm_3458 wm_9 wm_3455 wm_3457 wv_19_0 ⟨by decide, by decide, by decide +kernel⟩ (by decide), List.forall_mem_cons.mpr ⟨cl_virtual (y := y_Mo_across2) (ci := 13) rfl rfl ⟨_, _, rfl⟩ (by decide +kernel) h_Mo_across2 wm_3470 wm_9 wm_3467 wm_3469 wv_19_3 ⟨by decide, by decide, by decide +kernel⟩ (by decide), List.forall_mem_cons.mpr ⟨cl_virtual (y := y_Mo_cost_at_gl) (ci := 13) rfl rfl ⟨_, _, rfl⟩ (by decide +kernel) h_Mo_cost_at_gl wm_3403 wm_9 wm_3400 wm_3402 wv_18_3 ⟨by decide, by decide, by decide +kernel⟩ (by decide), List.forall_mem_cons.mpr ⟨cl_virtual (y := y_Mo_apart_at_gl) (ci := 13) rfl rfl ⟨_, _, rfl⟩ (by decide +kernel) h_Mo_apart_at_gl wm_3407 wm_9 wm_3404 wm_3406 wv_18_4 ⟨by decide, by decide, by decide +kernel⟩ (by decide), List.forall_mem_nil _⟩⟩⟩⟩⟩⟩⟩⟩⟩⟩⟩⟩⟩⟩, List.forall_mem_nil _, List.forall_mem_nil _, GG_pl⟩ (by decide +kernel)
