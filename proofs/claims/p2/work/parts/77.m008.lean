set_option maxHeartbeats 4000000 in
theorem vc_Mo_across2_0_0 (x1 : Int) (x2 : Int) (x3 : Int) (x4 : Int) (all_0 : Int → Int) (turned_0 : Int → Int) (itemLayer_0 : Int → Int) (firstJoint_0 : Int → Int) (lineA_0 : Int → Int) (lineB_0 : Int → Int) (r_0 : Int) (items_0 : Int) (layerMany_0 : Int) (lines_0 : Int) (layerSize_0 : Int → Int) (layerItem_0 : Int → Int) (all_1 : Int → Int) (turned_1 : Int → Int) (itemLayer_1 : Int → Int) (firstJoint_1 : Int → Int) (lineA_1 : Int → Int) (lineB_1 : Int → Int) (r_1 : Int) (items_1 : Int) (layerMany_1 : Int) (lines_1 : Int) (layerSize_1 : Int → Int) (layerItem_1 : Int → Int) (all_2 : Int → Int) (turned_2 : Int → Int) (itemLayer_2 : Int → Int) (firstJoint_2 : Int → Int) (lineA_2 : Int → Int) (lineB_2 : Int → Int) (r_2 : Int) (items_2 : Int) (layerMany_2 : Int) (lines_2 : Int) (layerSize_2 : Int → Int) (layerItem_2 : Int → Int) (items_3 : Int) (all_3 : Int → Int) (turned_3 : Int → Int) (itemLayer_3 : Int → Int) (firstJoint_3 : Int → Int) (lineA_3 : Int → Int) (lineB_3 : Int → Int) (r_3 : Int) (layerMany_3 : Int) (lines_3 : Int) (layerSize_3 : Int → Int) (layerItem_3 : Int → Int) (pointMany_0 : Int) (pointMany_1 : Int) (costMany_0 : Int) (costMany_1 : Int) (apartMany_0 : Int) (pointMany_2 : Int) (apartMany_1 : Int) (apartMany_2 : Int) (costMany_2 : Int) (costMany_3 : Int) (apartMany_3 : Int) (costA_0 : Int → Int) (costA_1 : Int → Int) (costA_2 : Int → Int) (costA_3 : Int → Int) (costB_0 : Int → Int) (costB_1 : Int → Int) (costB_2 : Int → Int) (costB_3 : Int → Int) (costW_0 : Int → Int) (costW_1 : Int → Int) (costW_2 : Int → Int) (costW_3 : Int → Int) (costPlain_0 : Int → Int) (costPlain_1 : Int → Int) (costPlain_2 : Int → Int) (costPlain_3 : Int → Int) (k1 : 0 ≤ x1 ∧ x1 ≤ 76) (k2 : 0 ≤ x2 ∧ x2 ≤ 0) (k3 : 0 ≤ x3 ∧ x3 ≤ 0) (k4 : 0 ≤ x4 ∧ x4 ≤ 0) (f0 : LSA (r_0) (items_0) (layerMany_0) (lines_0) (all_0) (turned_0) (itemLayer_0) (firstJoint_0) (lineA_0) (lineB_0)) (f1 : LSB (items_0) (layerMany_0) (itemLayer_0) (layerSize_0) (layerItem_0)) (f2 : SGR (r_0) (all_0)) (f4 : LSA (r_1) (items_1) (layerMany_1) (lines_1) (all_1) (turned_1) (itemLayer_1) (firstJoint_1) (lineA_1) (lineB_1)) (f5 : LSB (items_1) (layerMany_1) (itemLayer_1) (layerSize_1) (layerItem_1)) (f6 : SGR (r_1) (all_1)) (f8 : LSA (r_2) (items_2) (layerMany_2) (lines_2) (all_2) (turned_2) (itemLayer_2) (firstJoint_2) (lineA_2) (lineB_2)) (f9 : LSB (items_2) (layerMany_2) (itemLayer_2) (layerSize_2) (layerItem_2)) (f10 : SGR (r_2) (all_2)) (g12 : x1 = items_3) (f13 : LSA (r_3) (items_3) (layerMany_3) (lines_3) (all_3) (turned_3) (itemLayer_3) (firstJoint_3) (lineA_3) (lineB_3)) (f14 : LSB (items_3) (layerMany_3) (itemLayer_3) (layerSize_3) (layerItem_3)) (f15 : SGR (r_3) (all_3)) (fe_0_5_1 : r_0 = r_1) (fe_0_79_1 : pointMany_0 = pointMany_1) (fe_0_80_1 : costMany_0 = costMany_1) (fe_0_81_1 : apartMany_0 = x3) (fe_0_100_1 : items_0 = items_1) (fe_0_101_1 : layerMany_0 = layerMany_1) (fe_0_107_1 : lines_0 = lines_1) (fe_0_5_2 : r_1 = r_2) (fe_0_79_2 : pointMany_1 = pointMany_2) (fe_0_80_2 : costMany_1 = x2) (fe_0_81_2 : apartMany_1 = apartMany_2) (fe_0_100_2 : items_1 = items_2) (fe_0_101_2 : layerMany_1 = layerMany_2) (fe_0_107_2 : lines_1 = lines_2) (fe_0_5_3 : r_2 = r_3) (fe_0_79_3 : pointMany_2 = x1) (fe_0_80_3 : costMany_2 = costMany_3) (fe_0_81_3 : apartMany_2 = apartMany_3) (fe_0_100_3 : items_2 = items_3) (fe_0_101_3 : layerMany_2 = layerMany_3) (fe_0_107_3 : lines_2 = lines_3) (hE_0_2_1 : ∀ j : Int, all_0 j = all_1 j) (hE_0_2_2 : ∀ j : Int, all_1 j = all_2 j) (hE_0_2_3 : ∀ j : Int, all_2 j = all_3 j) (hE_0_83_1 : ∀ j : Int, costA_0 j = costA_1 j) (hE_0_83_2 : ∀ j : Int, costA_1 j = costA_2 j) (hE_0_83_3 : ∀ j : Int, costA_2 j = costA_3 j) (hK_0_83 : ∀ j : Int, 0 ≤ j → j < 200 → 0 ≤ costA_0 j ∧ costA_0 j ≤ 75) (hE_0_84_1 : ∀ j : Int, costB_0 j = costB_1 j) (hE_0_84_2 : ∀ j : Int, costB_1 j = costB_2 j) (hE_0_84_3 : ∀ j : Int, costB_2 j = costB_3 j) (hK_0_84 : ∀ j : Int, 0 ≤ j → j < 200 → 0 ≤ costB_0 j ∧ costB_0 j ≤ 75) (hE_0_85_1 : ∀ j : Int, costW_0 j = costW_1 j) (hE_0_85_2 : ∀ j : Int, costW_1 j = costW_2 j) (hE_0_85_3 : ∀ j : Int, costW_2 j = costW_3 j) (hK_0_85 : ∀ j : Int, 0 ≤ j → j < 200 → 0 ≤ costW_0 j ∧ costW_0 j ≤ 72) (hE_0_86_1 : ∀ j : Int, costPlain_0 j = costPlain_1 j) (hE_0_86_2 : ∀ j : Int, costPlain_1 j = costPlain_2 j) (hE_0_86_3 : ∀ j : Int, costPlain_2 j = costPlain_3 j) (hK_0_86 : ∀ j : Int, 0 ≤ j → j < 200 → 0 ≤ costPlain_0 j ∧ costPlain_0 j ≤ 1) (hE_0_95_1 : ∀ j : Int, turned_0 j = turned_1 j) (hE_0_95_2 : ∀ j : Int, turned_1 j = turned_2 j) (hE_0_95_3 : ∀ j : Int, turned_2 j = turned_3 j) (hK_0_95 : ∀ j : Int, 0 ≤ j → j < 48 → 0 ≤ turned_0 j ∧ turned_0 j ≤ 1) (hE_0_102_1 : ∀ j : Int, itemLayer_0 j = itemLayer_1 j) (hE_0_102_2 : ∀ j : Int, itemLayer_1 j = itemLayer_2 j) (hE_0_102_3 : ∀ j : Int, itemLayer_2 j = itemLayer_3 j) (hK_0_102 : ∀ j : Int, 0 ≤ j → j < 76 → 0 ≤ itemLayer_0 j ∧ itemLayer_0 j ≤ 75) (hE_0_104_1 : ∀ j : Int, firstJoint_0 j = firstJoint_1 j) (hE_0_104_2 : ∀ j : Int, firstJoint_1 j = firstJoint_2 j) (hE_0_104_3 : ∀ j : Int, firstJoint_2 j = firstJoint_3 j) (hK_0_104 : ∀ j : Int, 0 ≤ j → j < 48 → 0 ≤ firstJoint_0 j ∧ firstJoint_0 j ≤ 76) (hE_0_105_1 : ∀ j : Int, layerSize_0 j = layerSize_1 j) (hE_0_105_2 : ∀ j : Int, layerSize_1 j = layerSize_2 j) (hE_0_105_3 : ∀ j : Int, layerSize_2 j = layerSize_3 j) (hK_0_105 : ∀ j : Int, 0 ≤ j → j < 76 → 0 ≤ layerSize_0 j ∧ layerSize_0 j ≤ 76) (hE_0_106_1 : ∀ j : Int, layerItem_0 j = layerItem_1 j) (hE_0_106_2 : ∀ j : Int, layerItem_1 j = layerItem_2 j) (hE_0_106_3 : ∀ j : Int, layerItem_2 j = layerItem_3 j) (hK_0_106 : ∀ j : Int, 0 ≤ j → j < 5776 → 0 ≤ layerItem_0 j ∧ layerItem_0 j ≤ 75) (hE_0_108_1 : ∀ j : Int, lineA_0 j = lineA_1 j) (hE_0_108_2 : ∀ j : Int, lineA_1 j = lineA_2 j) (hE_0_108_3 : ∀ j : Int, lineA_2 j = lineA_3 j) (hK_0_108 : ∀ j : Int, 0 ≤ j → j < 130 → 0 ≤ lineA_0 j ∧ lineA_0 j ≤ 75) (hE_0_109_1 : ∀ j : Int, lineB_0 j = lineB_1 j) (hE_0_109_2 : ∀ j : Int, lineB_1 j = lineB_2 j) (hE_0_109_3 : ∀ j : Int, lineB_2 j = lineB_3 j) (hK_0_109 : ∀ j : Int, 0 ≤ j → j < 130 → 0 ≤ lineB_0 j ∧ lineB_0 j ≤ 75) (kz_0_79 : 0 ≤ pointMany_0 ∧ pointMany_0 ≤ 76) (kz_0_80 : 0 ≤ costMany_0 ∧ costMany_0 ≤ 200) (kz_0_81 : 0 ≤ apartMany_0 ∧ apartMany_0 ≤ 200) (kz_0_100 : 0 ≤ items_0 ∧ items_0 ≤ 76) (kz_0_101 : 0 ≤ layerMany_0 ∧ layerMany_0 ≤ 76) (kz_0_107 : 0 ≤ lines_0 ∧ lines_0 ≤ 130) : pointMany_0 = items_0 := by
  subst fe_0_5_1
  subst fe_0_79_1
  subst fe_0_80_1
  subst fe_0_100_1
  subst fe_0_101_1
  subst fe_0_107_1
  subst fe_0_5_2
  subst fe_0_79_2
  subst fe_0_81_2
  subst fe_0_100_2
  subst fe_0_101_2
  subst fe_0_107_2
  subst fe_0_5_3
  subst fe_0_80_3
  subst fe_0_81_3
  subst fe_0_100_3
  subst fe_0_101_3
  subst fe_0_107_3
  have e_hE_0_2_1 := funext hE_0_2_1; subst e_hE_0_2_1
  have e_hE_0_2_2 := funext hE_0_2_2; subst e_hE_0_2_2
  have e_hE_0_2_3 := funext hE_0_2_3; subst e_hE_0_2_3
  have e_hE_0_83_1 := funext hE_0_83_1; subst e_hE_0_83_1
  have e_hE_0_83_2 := funext hE_0_83_2; subst e_hE_0_83_2
  have e_hE_0_83_3 := funext hE_0_83_3; subst e_hE_0_83_3
  have e_hE_0_84_1 := funext hE_0_84_1; subst e_hE_0_84_1
  have e_hE_0_84_2 := funext hE_0_84_2; subst e_hE_0_84_2
  have e_hE_0_84_3 := funext hE_0_84_3; subst e_hE_0_84_3
  have e_hE_0_85_1 := funext hE_0_85_1; subst e_hE_0_85_1
  have e_hE_0_85_2 := funext hE_0_85_2; subst e_hE_0_85_2
  have e_hE_0_85_3 := funext hE_0_85_3; subst e_hE_0_85_3
  have e_hE_0_86_1 := funext hE_0_86_1; subst e_hE_0_86_1
  have e_hE_0_86_2 := funext hE_0_86_2; subst e_hE_0_86_2
  have e_hE_0_86_3 := funext hE_0_86_3; subst e_hE_0_86_3
  have e_hE_0_95_1 := funext hE_0_95_1; subst e_hE_0_95_1
  have e_hE_0_95_2 := funext hE_0_95_2; subst e_hE_0_95_2
  have e_hE_0_95_3 := funext hE_0_95_3; subst e_hE_0_95_3
  have e_hE_0_102_1 := funext hE_0_102_1; subst e_hE_0_102_1
  have e_hE_0_102_2 := funext hE_0_102_2; subst e_hE_0_102_2
  have e_hE_0_102_3 := funext hE_0_102_3; subst e_hE_0_102_3
  have e_hE_0_104_1 := funext hE_0_104_1; subst e_hE_0_104_1
  have e_hE_0_104_2 := funext hE_0_104_2; subst e_hE_0_104_2
  have e_hE_0_104_3 := funext hE_0_104_3; subst e_hE_0_104_3
  have e_hE_0_105_1 := funext hE_0_105_1; subst e_hE_0_105_1
  have e_hE_0_105_2 := funext hE_0_105_2; subst e_hE_0_105_2
  have e_hE_0_105_3 := funext hE_0_105_3; subst e_hE_0_105_3
  have e_hE_0_106_1 := funext hE_0_106_1; subst e_hE_0_106_1
  have e_hE_0_106_2 := funext hE_0_106_2; subst e_hE_0_106_2
  have e_hE_0_106_3 := funext hE_0_106_3; subst e_hE_0_106_3
  have e_hE_0_108_1 := funext hE_0_108_1; subst e_hE_0_108_1
  have e_hE_0_108_2 := funext hE_0_108_2; subst e_hE_0_108_2
  have e_hE_0_108_3 := funext hE_0_108_3; subst e_hE_0_108_3
  have e_hE_0_109_1 := funext hE_0_109_1; subst e_hE_0_109_1
  have e_hE_0_109_2 := funext hE_0_109_2; subst e_hE_0_109_2
  have e_hE_0_109_3 := funext hE_0_109_3; subst e_hE_0_109_3
  try simp only [Int.add_zero] at *
  first
    | omega
    | (have h := ‹LSA _ _ _ _ _ _ _ _ _ _›.2.1; omega)
    | (have h := lsa_la (p := x2) (x := x15) ‹LSA _ _ _ _ _ _ _ _ _ _› (by omega) (by omega) (by assumption); omega)
    | (have h := lsa_lb (p := x2) (x := x16) ‹LSA _ _ _ _ _ _ _ _ _ _› (by omega) (by omega) (by assumption); omega)
set_option maxHeartbeats 4000000 in
theorem vc_Mo_across2_0_1 (x1 : Int) (x2 : Int) (x3 : Int) (x4 : Int) (all_0 : Int → Int) (turned_0 : Int → Int) (itemLayer_0 : Int → Int) (firstJoint_0 : Int → Int) (lineA_0 : Int → Int) (lineB_0 : Int → Int) (r_0 : Int) (items_0 : Int) (layerMany_0 : Int) (lines_0 : Int) (layerSize_0 : Int → Int) (layerItem_0 : Int → Int) (all_1 : Int → Int) (turned_1 : Int → Int) (itemLayer_1 : Int → Int) (firstJoint_1 : Int → Int) (lineA_1 : Int → Int) (lineB_1 : Int → Int) (r_1 : Int) (items_1 : Int) (layerMany_1 : Int) (lines_1 : Int) (layerSize_1 : Int → Int) (layerItem_1 : Int → Int) (all_2 : Int → Int) (turned_2 : Int → Int) (itemLayer_2 : Int → Int) (firstJoint_2 : Int → Int) (lineA_2 : Int → Int) (lineB_2 : Int → Int) (r_2 : Int) (items_2 : Int) (layerMany_2 : Int) (lines_2 : Int) (layerSize_2 : Int → Int) (layerItem_2 : Int → Int) (items_3 : Int) (all_3 : Int → Int) (turned_3 : Int → Int) (itemLayer_3 : Int → Int) (firstJoint_3 : Int → Int) (lineA_3 : Int → Int) (lineB_3 : Int → Int) (r_3 : Int) (layerMany_3 : Int) (lines_3 : Int) (layerSize_3 : Int → Int) (layerItem_3 : Int → Int) (pointMany_0 : Int) (pointMany_1 : Int) (costMany_0 : Int) (costMany_1 : Int) (apartMany_0 : Int) (pointMany_2 : Int) (apartMany_1 : Int) (apartMany_2 : Int) (costMany_2 : Int) (costMany_3 : Int) (apartMany_3 : Int) (costA_0 : Int → Int) (costA_1 : Int → Int) (costA_2 : Int → Int) (costA_3 : Int → Int) (costB_0 : Int → Int) (costB_1 : Int → Int) (costB_2 : Int → Int) (costB_3 : Int → Int) (costW_0 : Int → Int) (costW_1 : Int → Int) (costW_2 : Int → Int) (costW_3 : Int → Int) (costPlain_0 : Int → Int) (costPlain_1 : Int → Int) (costPlain_2 : Int → Int) (costPlain_3 : Int → Int) (k1 : 0 ≤ x1 ∧ x1 ≤ 76) (k2 : 0 ≤ x2 ∧ x2 ≤ 0) (k3 : 0 ≤ x3 ∧ x3 ≤ 0) (k4 : 0 ≤ x4 ∧ x4 ≤ 0) (f0 : LSA (r_0) (items_0) (layerMany_0) (lines_0) (all_0) (turned_0) (itemLayer_0) (firstJoint_0) (lineA_0) (lineB_0)) (f1 : LSB (items_0) (layerMany_0) (itemLayer_0) (layerSize_0) (layerItem_0)) (f2 : SGR (r_0) (all_0)) (f4 : LSA (r_1) (items_1) (layerMany_1) (lines_1) (all_1) (turned_1) (itemLayer_1) (firstJoint_1) (lineA_1) (lineB_1)) (f5 : LSB (items_1) (layerMany_1) (itemLayer_1) (layerSize_1) (layerItem_1)) (f6 : SGR (r_1) (all_1)) (f8 : LSA (r_2) (items_2) (layerMany_2) (lines_2) (all_2) (turned_2) (itemLayer_2) (firstJoint_2) (lineA_2) (lineB_2)) (f9 : LSB (items_2) (layerMany_2) (itemLayer_2) (layerSize_2) (layerItem_2)) (f10 : SGR (r_2) (all_2)) (g12 : x1 = items_3) (f13 : LSA (r_3) (items_3) (layerMany_3) (lines_3) (all_3) (turned_3) (itemLayer_3) (firstJoint_3) (lineA_3) (lineB_3)) (f14 : LSB (items_3) (layerMany_3) (itemLayer_3) (layerSize_3) (layerItem_3)) (f15 : SGR (r_3) (all_3)) (fe_0_5_1 : r_0 = r_1) (fe_0_79_1 : pointMany_0 = pointMany_1) (fe_0_80_1 : costMany_0 = costMany_1) (fe_0_81_1 : apartMany_0 = x3) (fe_0_100_1 : items_0 = items_1) (fe_0_101_1 : layerMany_0 = layerMany_1) (fe_0_107_1 : lines_0 = lines_1) (fe_0_5_2 : r_1 = r_2) (fe_0_79_2 : pointMany_1 = pointMany_2) (fe_0_80_2 : costMany_1 = x2) (fe_0_81_2 : apartMany_1 = apartMany_2) (fe_0_100_2 : items_1 = items_2) (fe_0_101_2 : layerMany_1 = layerMany_2) (fe_0_107_2 : lines_1 = lines_2) (fe_0_5_3 : r_2 = r_3) (fe_0_79_3 : pointMany_2 = x1) (fe_0_80_3 : costMany_2 = costMany_3) (fe_0_81_3 : apartMany_2 = apartMany_3) (fe_0_100_3 : items_2 = items_3) (fe_0_101_3 : layerMany_2 = layerMany_3) (fe_0_107_3 : lines_2 = lines_3) (hE_0_2_1 : ∀ j : Int, all_0 j = all_1 j) (hE_0_2_2 : ∀ j : Int, all_1 j = all_2 j) (hE_0_2_3 : ∀ j : Int, all_2 j = all_3 j) (hE_0_83_1 : ∀ j : Int, costA_0 j = costA_1 j) (hE_0_83_2 : ∀ j : Int, costA_1 j = costA_2 j) (hE_0_83_3 : ∀ j : Int, costA_2 j = costA_3 j) (hK_0_83 : ∀ j : Int, 0 ≤ j → j < 200 → 0 ≤ costA_0 j ∧ costA_0 j ≤ 75) (hE_0_84_1 : ∀ j : Int, costB_0 j = costB_1 j) (hE_0_84_2 : ∀ j : Int, costB_1 j = costB_2 j) (hE_0_84_3 : ∀ j : Int, costB_2 j = costB_3 j) (hK_0_84 : ∀ j : Int, 0 ≤ j → j < 200 → 0 ≤ costB_0 j ∧ costB_0 j ≤ 75) (hE_0_85_1 : ∀ j : Int, costW_0 j = costW_1 j) (hE_0_85_2 : ∀ j : Int, costW_1 j = costW_2 j) (hE_0_85_3 : ∀ j : Int, costW_2 j = costW_3 j) (hK_0_85 : ∀ j : Int, 0 ≤ j → j < 200 → 0 ≤ costW_0 j ∧ costW_0 j ≤ 72) (hE_0_86_1 : ∀ j : Int, costPlain_0 j = costPlain_1 j) (hE_0_86_2 : ∀ j : Int, costPlain_1 j = costPlain_2 j) (hE_0_86_3 : ∀ j : Int, costPlain_2 j = costPlain_3 j) (hK_0_86 : ∀ j : Int, 0 ≤ j → j < 200 → 0 ≤ costPlain_0 j ∧ costPlain_0 j ≤ 1) (hE_0_95_1 : ∀ j : Int, turned_0 j = turned_1 j) (hE_0_95_2 : ∀ j : Int, turned_1 j = turned_2 j) (hE_0_95_3 : ∀ j : Int, turned_2 j = turned_3 j) (hK_0_95 : ∀ j : Int, 0 ≤ j → j < 48 → 0 ≤ turned_0 j ∧ turned_0 j ≤ 1) (hE_0_102_1 : ∀ j : Int, itemLayer_0 j = itemLayer_1 j) (hE_0_102_2 : ∀ j : Int, itemLayer_1 j = itemLayer_2 j) (hE_0_102_3 : ∀ j : Int, itemLayer_2 j = itemLayer_3 j) (hK_0_102 : ∀ j : Int, 0 ≤ j → j < 76 → 0 ≤ itemLayer_0 j ∧ itemLayer_0 j ≤ 75) (hE_0_104_1 : ∀ j : Int, firstJoint_0 j = firstJoint_1 j) (hE_0_104_2 : ∀ j : Int, firstJoint_1 j = firstJoint_2 j) (hE_0_104_3 : ∀ j : Int, firstJoint_2 j = firstJoint_3 j) (hK_0_104 : ∀ j : Int, 0 ≤ j → j < 48 → 0 ≤ firstJoint_0 j ∧ firstJoint_0 j ≤ 76) (hE_0_105_1 : ∀ j : Int, layerSize_0 j = layerSize_1 j) (hE_0_105_2 : ∀ j : Int, layerSize_1 j = layerSize_2 j) (hE_0_105_3 : ∀ j : Int, layerSize_2 j = layerSize_3 j) (hK_0_105 : ∀ j : Int, 0 ≤ j → j < 76 → 0 ≤ layerSize_0 j ∧ layerSize_0 j ≤ 76) (hE_0_106_1 : ∀ j : Int, layerItem_0 j = layerItem_1 j) (hE_0_106_2 : ∀ j : Int, layerItem_1 j = layerItem_2 j) (hE_0_106_3 : ∀ j : Int, layerItem_2 j = layerItem_3 j) (hK_0_106 : ∀ j : Int, 0 ≤ j → j < 5776 → 0 ≤ layerItem_0 j ∧ layerItem_0 j ≤ 75) (hE_0_108_1 : ∀ j : Int, lineA_0 j = lineA_1 j) (hE_0_108_2 : ∀ j : Int, lineA_1 j = lineA_2 j) (hE_0_108_3 : ∀ j : Int, lineA_2 j = lineA_3 j) (hK_0_108 : ∀ j : Int, 0 ≤ j → j < 130 → 0 ≤ lineA_0 j ∧ lineA_0 j ≤ 75) (hE_0_109_1 : ∀ j : Int, lineB_0 j = lineB_1 j) (hE_0_109_2 : ∀ j : Int, lineB_1 j = lineB_2 j) (hE_0_109_3 : ∀ j : Int, lineB_2 j = lineB_3 j) (hK_0_109 : ∀ j : Int, 0 ≤ j → j < 130 → 0 ≤ lineB_0 j ∧ lineB_0 j ≤ 75) (kz_0_79 : 0 ≤ pointMany_0 ∧ pointMany_0 ≤ 76) (kz_0_80 : 0 ≤ costMany_0 ∧ costMany_0 ≤ 200) (kz_0_81 : 0 ≤ apartMany_0 ∧ apartMany_0 ≤ 200) (kz_0_100 : 0 ≤ items_0 ∧ items_0 ≤ 76) (kz_0_101 : 0 ≤ layerMany_0 ∧ layerMany_0 ≤ 76) (kz_0_107 : 0 ≤ lines_0 ∧ lines_0 ≤ 130) : PCQ (pointMany_0) (costMany_0) (costA_0) (costB_0) (costW_0) (costPlain_0) := by
  subst fe_0_5_1
  subst fe_0_79_1
  subst fe_0_80_1
  subst fe_0_100_1
  subst fe_0_101_1
  subst fe_0_107_1
  subst fe_0_5_2
  subst fe_0_79_2
  subst fe_0_81_2
  subst fe_0_100_2
  subst fe_0_101_2
  subst fe_0_107_2
  subst fe_0_5_3
  subst fe_0_80_3
  subst fe_0_81_3
  subst fe_0_100_3
  subst fe_0_101_3
  subst fe_0_107_3
  have e_hE_0_2_1 := funext hE_0_2_1; subst e_hE_0_2_1
  have e_hE_0_2_2 := funext hE_0_2_2; subst e_hE_0_2_2
  have e_hE_0_2_3 := funext hE_0_2_3; subst e_hE_0_2_3
  have e_hE_0_83_1 := funext hE_0_83_1; subst e_hE_0_83_1
  have e_hE_0_83_2 := funext hE_0_83_2; subst e_hE_0_83_2
  have e_hE_0_83_3 := funext hE_0_83_3; subst e_hE_0_83_3
  have e_hE_0_84_1 := funext hE_0_84_1; subst e_hE_0_84_1
  have e_hE_0_84_2 := funext hE_0_84_2; subst e_hE_0_84_2
  have e_hE_0_84_3 := funext hE_0_84_3; subst e_hE_0_84_3
  have e_hE_0_85_1 := funext hE_0_85_1; subst e_hE_0_85_1
  have e_hE_0_85_2 := funext hE_0_85_2; subst e_hE_0_85_2
  have e_hE_0_85_3 := funext hE_0_85_3; subst e_hE_0_85_3
  have e_hE_0_86_1 := funext hE_0_86_1; subst e_hE_0_86_1
  have e_hE_0_86_2 := funext hE_0_86_2; subst e_hE_0_86_2
  have e_hE_0_86_3 := funext hE_0_86_3; subst e_hE_0_86_3
  have e_hE_0_95_1 := funext hE_0_95_1; subst e_hE_0_95_1
  have e_hE_0_95_2 := funext hE_0_95_2; subst e_hE_0_95_2
  have e_hE_0_95_3 := funext hE_0_95_3; subst e_hE_0_95_3
  have e_hE_0_102_1 := funext hE_0_102_1; subst e_hE_0_102_1
  have e_hE_0_102_2 := funext hE_0_102_2; subst e_hE_0_102_2
  have e_hE_0_102_3 := funext hE_0_102_3; subst e_hE_0_102_3
  have e_hE_0_104_1 := funext hE_0_104_1; subst e_hE_0_104_1
  have e_hE_0_104_2 := funext hE_0_104_2; subst e_hE_0_104_2
  have e_hE_0_104_3 := funext hE_0_104_3; subst e_hE_0_104_3
  have e_hE_0_105_1 := funext hE_0_105_1; subst e_hE_0_105_1
  have e_hE_0_105_2 := funext hE_0_105_2; subst e_hE_0_105_2
  have e_hE_0_105_3 := funext hE_0_105_3; subst e_hE_0_105_3
  have e_hE_0_106_1 := funext hE_0_106_1; subst e_hE_0_106_1
  have e_hE_0_106_2 := funext hE_0_106_2; subst e_hE_0_106_2
  have e_hE_0_106_3 := funext hE_0_106_3; subst e_hE_0_106_3
  have e_hE_0_108_1 := funext hE_0_108_1; subst e_hE_0_108_1
  have e_hE_0_108_2 := funext hE_0_108_2; subst e_hE_0_108_2
  have e_hE_0_108_3 := funext hE_0_108_3; subst e_hE_0_108_3
  have e_hE_0_109_1 := funext hE_0_109_1; subst e_hE_0_109_1
  have e_hE_0_109_2 := funext hE_0_109_2; subst e_hE_0_109_2
  have e_hE_0_109_3 := funext hE_0_109_3; subst e_hE_0_109_3
  first
    | assumption
    | (intro j a b; exfalso; omega)
set_option maxHeartbeats 4000000 in
theorem vc_Mo_across2_0_2 (x1 : Int) (x2 : Int) (x3 : Int) (x4 : Int) (all_0 : Int → Int) (turned_0 : Int → Int) (itemLayer_0 : Int → Int) (firstJoint_0 : Int → Int) (lineA_0 : Int → Int) (lineB_0 : Int → Int) (r_0 : Int) (items_0 : Int) (layerMany_0 : Int) (lines_0 : Int) (layerSize_0 : Int → Int) (layerItem_0 : Int → Int) (all_1 : Int → Int) (turned_1 : Int → Int) (itemLayer_1 : Int → Int) (firstJoint_1 : Int → Int) (lineA_1 : Int → Int) (lineB_1 : Int → Int) (r_1 : Int) (items_1 : Int) (layerMany_1 : Int) (lines_1 : Int) (layerSize_1 : Int → Int) (layerItem_1 : Int → Int) (all_2 : Int → Int) (turned_2 : Int → Int) (itemLayer_2 : Int → Int) (firstJoint_2 : Int → Int) (lineA_2 : Int → Int) (lineB_2 : Int → Int) (r_2 : Int) (items_2 : Int) (layerMany_2 : Int) (lines_2 : Int) (layerSize_2 : Int → Int) (layerItem_2 : Int → Int) (items_3 : Int) (all_3 : Int → Int) (turned_3 : Int → Int) (itemLayer_3 : Int → Int) (firstJoint_3 : Int → Int) (lineA_3 : Int → Int) (lineB_3 : Int → Int) (r_3 : Int) (layerMany_3 : Int) (lines_3 : Int) (layerSize_3 : Int → Int) (layerItem_3 : Int → Int) (pointMany_0 : Int) (pointMany_1 : Int) (costMany_0 : Int) (costMany_1 : Int) (apartMany_0 : Int) (pointMany_2 : Int) (apartMany_1 : Int) (apartMany_2 : Int) (costMany_2 : Int) (costMany_3 : Int) (apartMany_3 : Int) (costA_0 : Int → Int) (costA_1 : Int → Int) (costA_2 : Int → Int) (costA_3 : Int → Int) (costB_0 : Int → Int) (costB_1 : Int → Int) (costB_2 : Int → Int) (costB_3 : Int → Int) (costW_0 : Int → Int) (costW_1 : Int → Int) (costW_2 : Int → Int) (costW_3 : Int → Int) (costPlain_0 : Int → Int) (costPlain_1 : Int → Int) (costPlain_2 : Int → Int) (costPlain_3 : Int → Int) (k1 : 0 ≤ x1 ∧ x1 ≤ 76) (k2 : 0 ≤ x2 ∧ x2 ≤ 0) (k3 : 0 ≤ x3 ∧ x3 ≤ 0) (k4 : 0 ≤ x4 ∧ x4 ≤ 0) (f0 : LSA (r_0) (items_0) (layerMany_0) (lines_0) (all_0) (turned_0) (itemLayer_0) (firstJoint_0) (lineA_0) (lineB_0)) (f1 : LSB (items_0) (layerMany_0) (itemLayer_0) (layerSize_0) (layerItem_0)) (f2 : SGR (r_0) (all_0)) (f4 : LSA (r_1) (items_1) (layerMany_1) (lines_1) (all_1) (turned_1) (itemLayer_1) (firstJoint_1) (lineA_1) (lineB_1)) (f5 : LSB (items_1) (layerMany_1) (itemLayer_1) (layerSize_1) (layerItem_1)) (f6 : SGR (r_1) (all_1)) (f8 : LSA (r_2) (items_2) (layerMany_2) (lines_2) (all_2) (turned_2) (itemLayer_2) (firstJoint_2) (lineA_2) (lineB_2)) (f9 : LSB (items_2) (layerMany_2) (itemLayer_2) (layerSize_2) (layerItem_2)) (f10 : SGR (r_2) (all_2)) (g12 : x1 = items_3) (f13 : LSA (r_3) (items_3) (layerMany_3) (lines_3) (all_3) (turned_3) (itemLayer_3) (firstJoint_3) (lineA_3) (lineB_3)) (f14 : LSB (items_3) (layerMany_3) (itemLayer_3) (layerSize_3) (layerItem_3)) (f15 : SGR (r_3) (all_3)) (fe_0_5_1 : r_0 = r_1) (fe_0_79_1 : pointMany_0 = pointMany_1) (fe_0_80_1 : costMany_0 = costMany_1) (fe_0_81_1 : apartMany_0 = x3) (fe_0_100_1 : items_0 = items_1) (fe_0_101_1 : layerMany_0 = layerMany_1) (fe_0_107_1 : lines_0 = lines_1) (fe_0_5_2 : r_1 = r_2) (fe_0_79_2 : pointMany_1 = pointMany_2) (fe_0_80_2 : costMany_1 = x2) (fe_0_81_2 : apartMany_1 = apartMany_2) (fe_0_100_2 : items_1 = items_2) (fe_0_101_2 : layerMany_1 = layerMany_2) (fe_0_107_2 : lines_1 = lines_2) (fe_0_5_3 : r_2 = r_3) (fe_0_79_3 : pointMany_2 = x1) (fe_0_80_3 : costMany_2 = costMany_3) (fe_0_81_3 : apartMany_2 = apartMany_3) (fe_0_100_3 : items_2 = items_3) (fe_0_101_3 : layerMany_2 = layerMany_3) (fe_0_107_3 : lines_2 = lines_3) (hE_0_2_1 : ∀ j : Int, all_0 j = all_1 j) (hE_0_2_2 : ∀ j : Int, all_1 j = all_2 j) (hE_0_2_3 : ∀ j : Int, all_2 j = all_3 j) (hE_0_83_1 : ∀ j : Int, costA_0 j = costA_1 j) (hE_0_83_2 : ∀ j : Int, costA_1 j = costA_2 j) (hE_0_83_3 : ∀ j : Int, costA_2 j = costA_3 j) (hK_0_83 : ∀ j : Int, 0 ≤ j → j < 200 → 0 ≤ costA_0 j ∧ costA_0 j ≤ 75) (hE_0_84_1 : ∀ j : Int, costB_0 j = costB_1 j) (hE_0_84_2 : ∀ j : Int, costB_1 j = costB_2 j) (hE_0_84_3 : ∀ j : Int, costB_2 j = costB_3 j) (hK_0_84 : ∀ j : Int, 0 ≤ j → j < 200 → 0 ≤ costB_0 j ∧ costB_0 j ≤ 75) (hE_0_85_1 : ∀ j : Int, costW_0 j = costW_1 j) (hE_0_85_2 : ∀ j : Int, costW_1 j = costW_2 j) (hE_0_85_3 : ∀ j : Int, costW_2 j = costW_3 j) (hK_0_85 : ∀ j : Int, 0 ≤ j → j < 200 → 0 ≤ costW_0 j ∧ costW_0 j ≤ 72) (hE_0_86_1 : ∀ j : Int, costPlain_0 j = costPlain_1 j) (hE_0_86_2 : ∀ j : Int, costPlain_1 j = costPlain_2 j) (hE_0_86_3 : ∀ j : Int, costPlain_2 j = costPlain_3 j) (hK_0_86 : ∀ j : Int, 0 ≤ j → j < 200 → 0 ≤ costPlain_0 j ∧ costPlain_0 j ≤ 1) (hE_0_95_1 : ∀ j : Int, turned_0 j = turned_1 j) (hE_0_95_2 : ∀ j : Int, turned_1 j = turned_2 j) (hE_0_95_3 : ∀ j : Int, turned_2 j = turned_3 j) (hK_0_95 : ∀ j : Int, 0 ≤ j → j < 48 → 0 ≤ turned_0 j ∧ turned_0 j ≤ 1) (hE_0_102_1 : ∀ j : Int, itemLayer_0 j = itemLayer_1 j) (hE_0_102_2 : ∀ j : Int, itemLayer_1 j = itemLayer_2 j) (hE_0_102_3 : ∀ j : Int, itemLayer_2 j = itemLayer_3 j) (hK_0_102 : ∀ j : Int, 0 ≤ j → j < 76 → 0 ≤ itemLayer_0 j ∧ itemLayer_0 j ≤ 75) (hE_0_104_1 : ∀ j : Int, firstJoint_0 j = firstJoint_1 j) (hE_0_104_2 : ∀ j : Int, firstJoint_1 j = firstJoint_2 j) (hE_0_104_3 : ∀ j : Int, firstJoint_2 j = firstJoint_3 j) (hK_0_104 : ∀ j : Int, 0 ≤ j → j < 48 → 0 ≤ firstJoint_0 j ∧ firstJoint_0 j ≤ 76) (hE_0_105_1 : ∀ j : Int, layerSize_0 j = layerSize_1 j) (hE_0_105_2 : ∀ j : Int, layerSize_1 j = layerSize_2 j) (hE_0_105_3 : ∀ j : Int, layerSize_2 j = layerSize_3 j) (hK_0_105 : ∀ j : Int, 0 ≤ j → j < 76 → 0 ≤ layerSize_0 j ∧ layerSize_0 j ≤ 76) (hE_0_106_1 : ∀ j : Int, layerItem_0 j = layerItem_1 j) (hE_0_106_2 : ∀ j : Int, layerItem_1 j = layerItem_2 j) (hE_0_106_3 : ∀ j : Int, layerItem_2 j = layerItem_3 j) (hK_0_106 : ∀ j : Int, 0 ≤ j → j < 5776 → 0 ≤ layerItem_0 j ∧ layerItem_0 j ≤ 75) (hE_0_108_1 : ∀ j : Int, lineA_0 j = lineA_1 j) (hE_0_108_2 : ∀ j : Int, lineA_1 j = lineA_2 j) (hE_0_108_3 : ∀ j : Int, lineA_2 j = lineA_3 j) (hK_0_108 : ∀ j : Int, 0 ≤ j → j < 130 → 0 ≤ lineA_0 j ∧ lineA_0 j ≤ 75) (hE_0_109_1 : ∀ j : Int, lineB_0 j = lineB_1 j) (hE_0_109_2 : ∀ j : Int, lineB_1 j = lineB_2 j) (hE_0_109_3 : ∀ j : Int, lineB_2 j = lineB_3 j) (hK_0_109 : ∀ j : Int, 0 ≤ j → j < 130 → 0 ≤ lineB_0 j ∧ lineB_0 j ≤ 75) (kz_0_79 : 0 ≤ pointMany_0 ∧ pointMany_0 ≤ 76) (kz_0_80 : 0 ≤ costMany_0 ∧ costMany_0 ≤ 200) (kz_0_81 : 0 ≤ apartMany_0 ∧ apartMany_0 ≤ 200) (kz_0_100 : 0 ≤ items_0 ∧ items_0 ≤ 76) (kz_0_101 : 0 ≤ layerMany_0 ∧ layerMany_0 ≤ 76) (kz_0_107 : 0 ≤ lines_0 ∧ lines_0 ≤ 130) : costMany_0 = x4 := by
  subst fe_0_5_1
  subst fe_0_79_1
  subst fe_0_80_1
  subst fe_0_100_1
  subst fe_0_101_1
  subst fe_0_107_1
  subst fe_0_5_2
  subst fe_0_79_2
  subst fe_0_81_2
  subst fe_0_100_2
  subst fe_0_101_2
  subst fe_0_107_2
  subst fe_0_5_3
  subst fe_0_80_3
  subst fe_0_81_3
  subst fe_0_100_3
  subst fe_0_101_3
  subst fe_0_107_3
  have e_hE_0_2_1 := funext hE_0_2_1; subst e_hE_0_2_1
  have e_hE_0_2_2 := funext hE_0_2_2; subst e_hE_0_2_2
  have e_hE_0_2_3 := funext hE_0_2_3; subst e_hE_0_2_3
  have e_hE_0_83_1 := funext hE_0_83_1; subst e_hE_0_83_1
  have e_hE_0_83_2 := funext hE_0_83_2; subst e_hE_0_83_2
  have e_hE_0_83_3 := funext hE_0_83_3; subst e_hE_0_83_3
  have e_hE_0_84_1 := funext hE_0_84_1; subst e_hE_0_84_1
  have e_hE_0_84_2 := funext hE_0_84_2; subst e_hE_0_84_2
  have e_hE_0_84_3 := funext hE_0_84_3; subst e_hE_0_84_3
  have e_hE_0_85_1 := funext hE_0_85_1; subst e_hE_0_85_1
  have e_hE_0_85_2 := funext hE_0_85_2; subst e_hE_0_85_2
  have e_hE_0_85_3 := funext hE_0_85_3; subst e_hE_0_85_3
  have e_hE_0_86_1 := funext hE_0_86_1; subst e_hE_0_86_1
  have e_hE_0_86_2 := funext hE_0_86_2; subst e_hE_0_86_2
  have e_hE_0_86_3 := funext hE_0_86_3; subst e_hE_0_86_3
  have e_hE_0_95_1 := funext hE_0_95_1; subst e_hE_0_95_1
  have e_hE_0_95_2 := funext hE_0_95_2; subst e_hE_0_95_2
  have e_hE_0_95_3 := funext hE_0_95_3; subst e_hE_0_95_3
  have e_hE_0_102_1 := funext hE_0_102_1; subst e_hE_0_102_1
  have e_hE_0_102_2 := funext hE_0_102_2; subst e_hE_0_102_2
  have e_hE_0_102_3 := funext hE_0_102_3; subst e_hE_0_102_3
  have e_hE_0_104_1 := funext hE_0_104_1; subst e_hE_0_104_1
  have e_hE_0_104_2 := funext hE_0_104_2; subst e_hE_0_104_2
  have e_hE_0_104_3 := funext hE_0_104_3; subst e_hE_0_104_3
  have e_hE_0_105_1 := funext hE_0_105_1; subst e_hE_0_105_1
  have e_hE_0_105_2 := funext hE_0_105_2; subst e_hE_0_105_2
  have e_hE_0_105_3 := funext hE_0_105_3; subst e_hE_0_105_3
  have e_hE_0_106_1 := funext hE_0_106_1; subst e_hE_0_106_1
  have e_hE_0_106_2 := funext hE_0_106_2; subst e_hE_0_106_2
  have e_hE_0_106_3 := funext hE_0_106_3; subst e_hE_0_106_3
  have e_hE_0_108_1 := funext hE_0_108_1; subst e_hE_0_108_1
  have e_hE_0_108_2 := funext hE_0_108_2; subst e_hE_0_108_2
  have e_hE_0_108_3 := funext hE_0_108_3; subst e_hE_0_108_3
  have e_hE_0_109_1 := funext hE_0_109_1; subst e_hE_0_109_1
  have e_hE_0_109_2 := funext hE_0_109_2; subst e_hE_0_109_2
  have e_hE_0_109_3 := funext hE_0_109_3; subst e_hE_0_109_3
  try simp only [Int.add_zero] at *
  first
    | omega
    | (have h := ‹LSA _ _ _ _ _ _ _ _ _ _›.2.1; omega)
    | (have h := lsa_la (p := x2) (x := x15) ‹LSA _ _ _ _ _ _ _ _ _ _› (by omega) (by omega) (by assumption); omega)
    | (have h := lsa_lb (p := x2) (x := x16) ‹LSA _ _ _ _ _ _ _ _ _ _› (by omega) (by omega) (by assumption); omega)
set_option maxHeartbeats 4000000 in
theorem vc_Mo_across2_0_3 (x1 : Int) (x2 : Int) (x3 : Int) (x4 : Int) (all_0 : Int → Int) (turned_0 : Int → Int) (itemLayer_0 : Int → Int) (firstJoint_0 : Int → Int) (lineA_0 : Int → Int) (lineB_0 : Int → Int) (r_0 : Int) (items_0 : Int) (layerMany_0 : Int) (lines_0 : Int) (layerSize_0 : Int → Int) (layerItem_0 : Int → Int) (all_1 : Int → Int) (turned_1 : Int → Int) (itemLayer_1 : Int → Int) (firstJoint_1 : Int → Int) (lineA_1 : Int → Int) (lineB_1 : Int → Int) (r_1 : Int) (items_1 : Int) (layerMany_1 : Int) (lines_1 : Int) (layerSize_1 : Int → Int) (layerItem_1 : Int → Int) (all_2 : Int → Int) (turned_2 : Int → Int) (itemLayer_2 : Int → Int) (firstJoint_2 : Int → Int) (lineA_2 : Int → Int) (lineB_2 : Int → Int) (r_2 : Int) (items_2 : Int) (layerMany_2 : Int) (lines_2 : Int) (layerSize_2 : Int → Int) (layerItem_2 : Int → Int) (items_3 : Int) (all_3 : Int → Int) (turned_3 : Int → Int) (itemLayer_3 : Int → Int) (firstJoint_3 : Int → Int) (lineA_3 : Int → Int) (lineB_3 : Int → Int) (r_3 : Int) (layerMany_3 : Int) (lines_3 : Int) (layerSize_3 : Int → Int) (layerItem_3 : Int → Int) (pointMany_0 : Int) (pointMany_1 : Int) (costMany_0 : Int) (costMany_1 : Int) (apartMany_0 : Int) (pointMany_2 : Int) (apartMany_1 : Int) (apartMany_2 : Int) (costMany_2 : Int) (costMany_3 : Int) (apartMany_3 : Int) (costA_0 : Int → Int) (costA_1 : Int → Int) (costA_2 : Int → Int) (costA_3 : Int → Int) (costB_0 : Int → Int) (costB_1 : Int → Int) (costB_2 : Int → Int) (costB_3 : Int → Int) (costW_0 : Int → Int) (costW_1 : Int → Int) (costW_2 : Int → Int) (costW_3 : Int → Int) (costPlain_0 : Int → Int) (costPlain_1 : Int → Int) (costPlain_2 : Int → Int) (costPlain_3 : Int → Int) (k1 : 0 ≤ x1 ∧ x1 ≤ 76) (k2 : 0 ≤ x2 ∧ x2 ≤ 0) (k3 : 0 ≤ x3 ∧ x3 ≤ 0) (k4 : 0 ≤ x4 ∧ x4 ≤ 0) (f0 : LSA (r_0) (items_0) (layerMany_0) (lines_0) (all_0) (turned_0) (itemLayer_0) (firstJoint_0) (lineA_0) (lineB_0)) (f1 : LSB (items_0) (layerMany_0) (itemLayer_0) (layerSize_0) (layerItem_0)) (f2 : SGR (r_0) (all_0)) (f4 : LSA (r_1) (items_1) (layerMany_1) (lines_1) (all_1) (turned_1) (itemLayer_1) (firstJoint_1) (lineA_1) (lineB_1)) (f5 : LSB (items_1) (layerMany_1) (itemLayer_1) (layerSize_1) (layerItem_1)) (f6 : SGR (r_1) (all_1)) (f8 : LSA (r_2) (items_2) (layerMany_2) (lines_2) (all_2) (turned_2) (itemLayer_2) (firstJoint_2) (lineA_2) (lineB_2)) (f9 : LSB (items_2) (layerMany_2) (itemLayer_2) (layerSize_2) (layerItem_2)) (f10 : SGR (r_2) (all_2)) (g12 : x1 = items_3) (f13 : LSA (r_3) (items_3) (layerMany_3) (lines_3) (all_3) (turned_3) (itemLayer_3) (firstJoint_3) (lineA_3) (lineB_3)) (f14 : LSB (items_3) (layerMany_3) (itemLayer_3) (layerSize_3) (layerItem_3)) (f15 : SGR (r_3) (all_3)) (fe_0_5_1 : r_0 = r_1) (fe_0_79_1 : pointMany_0 = pointMany_1) (fe_0_80_1 : costMany_0 = costMany_1) (fe_0_81_1 : apartMany_0 = x3) (fe_0_100_1 : items_0 = items_1) (fe_0_101_1 : layerMany_0 = layerMany_1) (fe_0_107_1 : lines_0 = lines_1) (fe_0_5_2 : r_1 = r_2) (fe_0_79_2 : pointMany_1 = pointMany_2) (fe_0_80_2 : costMany_1 = x2) (fe_0_81_2 : apartMany_1 = apartMany_2) (fe_0_100_2 : items_1 = items_2) (fe_0_101_2 : layerMany_1 = layerMany_2) (fe_0_107_2 : lines_1 = lines_2) (fe_0_5_3 : r_2 = r_3) (fe_0_79_3 : pointMany_2 = x1) (fe_0_80_3 : costMany_2 = costMany_3) (fe_0_81_3 : apartMany_2 = apartMany_3) (fe_0_100_3 : items_2 = items_3) (fe_0_101_3 : layerMany_2 = layerMany_3) (fe_0_107_3 : lines_2 = lines_3) (hE_0_2_1 : ∀ j : Int, all_0 j = all_1 j) (hE_0_2_2 : ∀ j : Int, all_1 j = all_2 j) (hE_0_2_3 : ∀ j : Int, all_2 j = all_3 j) (hE_0_83_1 : ∀ j : Int, costA_0 j = costA_1 j) (hE_0_83_2 : ∀ j : Int, costA_1 j = costA_2 j) (hE_0_83_3 : ∀ j : Int, costA_2 j = costA_3 j) (hK_0_83 : ∀ j : Int, 0 ≤ j → j < 200 → 0 ≤ costA_0 j ∧ costA_0 j ≤ 75) (hE_0_84_1 : ∀ j : Int, costB_0 j = costB_1 j) (hE_0_84_2 : ∀ j : Int, costB_1 j = costB_2 j) (hE_0_84_3 : ∀ j : Int, costB_2 j = costB_3 j) (hK_0_84 : ∀ j : Int, 0 ≤ j → j < 200 → 0 ≤ costB_0 j ∧ costB_0 j ≤ 75) (hE_0_85_1 : ∀ j : Int, costW_0 j = costW_1 j) (hE_0_85_2 : ∀ j : Int, costW_1 j = costW_2 j) (hE_0_85_3 : ∀ j : Int, costW_2 j = costW_3 j) (hK_0_85 : ∀ j : Int, 0 ≤ j → j < 200 → 0 ≤ costW_0 j ∧ costW_0 j ≤ 72) (hE_0_86_1 : ∀ j : Int, costPlain_0 j = costPlain_1 j) (hE_0_86_2 : ∀ j : Int, costPlain_1 j = costPlain_2 j) (hE_0_86_3 : ∀ j : Int, costPlain_2 j = costPlain_3 j) (hK_0_86 : ∀ j : Int, 0 ≤ j → j < 200 → 0 ≤ costPlain_0 j ∧ costPlain_0 j ≤ 1) (hE_0_95_1 : ∀ j : Int, turned_0 j = turned_1 j) (hE_0_95_2 : ∀ j : Int, turned_1 j = turned_2 j) (hE_0_95_3 : ∀ j : Int, turned_2 j = turned_3 j) (hK_0_95 : ∀ j : Int, 0 ≤ j → j < 48 → 0 ≤ turned_0 j ∧ turned_0 j ≤ 1) (hE_0_102_1 : ∀ j : Int, itemLayer_0 j = itemLayer_1 j) (hE_0_102_2 : ∀ j : Int, itemLayer_1 j = itemLayer_2 j) (hE_0_102_3 : ∀ j : Int, itemLayer_2 j = itemLayer_3 j) (hK_0_102 : ∀ j : Int, 0 ≤ j → j < 76 → 0 ≤ itemLayer_0 j ∧ itemLayer_0 j ≤ 75) (hE_0_104_1 : ∀ j : Int, firstJoint_0 j = firstJoint_1 j) (hE_0_104_2 : ∀ j : Int, firstJoint_1 j = firstJoint_2 j) (hE_0_104_3 : ∀ j : Int, firstJoint_2 j = firstJoint_3 j) (hK_0_104 : ∀ j : Int, 0 ≤ j → j < 48 → 0 ≤ firstJoint_0 j ∧ firstJoint_0 j ≤ 76) (hE_0_105_1 : ∀ j : Int, layerSize_0 j = layerSize_1 j) (hE_0_105_2 : ∀ j : Int, layerSize_1 j = layerSize_2 j) (hE_0_105_3 : ∀ j : Int, layerSize_2 j = layerSize_3 j) (hK_0_105 : ∀ j : Int, 0 ≤ j → j < 76 → 0 ≤ layerSize_0 j ∧ layerSize_0 j ≤ 76) (hE_0_106_1 : ∀ j : Int, layerItem_0 j = layerItem_1 j) (hE_0_106_2 : ∀ j : Int, layerItem_1 j = layerItem_2 j) (hE_0_106_3 : ∀ j : Int, layerItem_2 j = layerItem_3 j) (hK_0_106 : ∀ j : Int, 0 ≤ j → j < 5776 → 0 ≤ layerItem_0 j ∧ layerItem_0 j ≤ 75) (hE_0_108_1 : ∀ j : Int, lineA_0 j = lineA_1 j) (hE_0_108_2 : ∀ j : Int, lineA_1 j = lineA_2 j) (hE_0_108_3 : ∀ j : Int, lineA_2 j = lineA_3 j) (hK_0_108 : ∀ j : Int, 0 ≤ j → j < 130 → 0 ≤ lineA_0 j ∧ lineA_0 j ≤ 75) (hE_0_109_1 : ∀ j : Int, lineB_0 j = lineB_1 j) (hE_0_109_2 : ∀ j : Int, lineB_1 j = lineB_2 j) (hE_0_109_3 : ∀ j : Int, lineB_2 j = lineB_3 j) (hK_0_109 : ∀ j : Int, 0 ≤ j → j < 130 → 0 ≤ lineB_0 j ∧ lineB_0 j ≤ 75) (kz_0_79 : 0 ≤ pointMany_0 ∧ pointMany_0 ≤ 76) (kz_0_80 : 0 ≤ costMany_0 ∧ costMany_0 ≤ 200) (kz_0_81 : 0 ≤ apartMany_0 ∧ apartMany_0 ≤ 200) (kz_0_100 : 0 ≤ items_0 ∧ items_0 ≤ 76) (kz_0_101 : 0 ≤ layerMany_0 ∧ layerMany_0 ≤ 76) (kz_0_107 : 0 ≤ lines_0 ∧ lines_0 ≤ 130) : apartMany_0 = 0 := by
  subst fe_0_5_1
  subst fe_0_79_1
  subst fe_0_80_1
  subst fe_0_100_1
  subst fe_0_101_1
  subst fe_0_107_1
  subst fe_0_5_2
  subst fe_0_79_2
  subst fe_0_81_2
  subst fe_0_100_2
  subst fe_0_101_2
  subst fe_0_107_2
  subst fe_0_5_3
  subst fe_0_80_3
  subst fe_0_81_3
  subst fe_0_100_3
  subst fe_0_101_3
  subst fe_0_107_3
  have e_hE_0_2_1 := funext hE_0_2_1; subst e_hE_0_2_1
  have e_hE_0_2_2 := funext hE_0_2_2; subst e_hE_0_2_2
  have e_hE_0_2_3 := funext hE_0_2_3; subst e_hE_0_2_3
  have e_hE_0_83_1 := funext hE_0_83_1; subst e_hE_0_83_1
  have e_hE_0_83_2 := funext hE_0_83_2; subst e_hE_0_83_2
  have e_hE_0_83_3 := funext hE_0_83_3; subst e_hE_0_83_3
  have e_hE_0_84_1 := funext hE_0_84_1; subst e_hE_0_84_1
  have e_hE_0_84_2 := funext hE_0_84_2; subst e_hE_0_84_2
  have e_hE_0_84_3 := funext hE_0_84_3; subst e_hE_0_84_3
  have e_hE_0_85_1 := funext hE_0_85_1; subst e_hE_0_85_1
  have e_hE_0_85_2 := funext hE_0_85_2; subst e_hE_0_85_2
  have e_hE_0_85_3 := funext hE_0_85_3; subst e_hE_0_85_3
  have e_hE_0_86_1 := funext hE_0_86_1; subst e_hE_0_86_1
  have e_hE_0_86_2 := funext hE_0_86_2; subst e_hE_0_86_2
  have e_hE_0_86_3 := funext hE_0_86_3; subst e_hE_0_86_3
  have e_hE_0_95_1 := funext hE_0_95_1; subst e_hE_0_95_1
  have e_hE_0_95_2 := funext hE_0_95_2; subst e_hE_0_95_2
  have e_hE_0_95_3 := funext hE_0_95_3; subst e_hE_0_95_3
  have e_hE_0_102_1 := funext hE_0_102_1; subst e_hE_0_102_1
  have e_hE_0_102_2 := funext hE_0_102_2; subst e_hE_0_102_2
  have e_hE_0_102_3 := funext hE_0_102_3; subst e_hE_0_102_3
  have e_hE_0_104_1 := funext hE_0_104_1; subst e_hE_0_104_1
  have e_hE_0_104_2 := funext hE_0_104_2; subst e_hE_0_104_2
  have e_hE_0_104_3 := funext hE_0_104_3; subst e_hE_0_104_3
  have e_hE_0_105_1 := funext hE_0_105_1; subst e_hE_0_105_1
  have e_hE_0_105_2 := funext hE_0_105_2; subst e_hE_0_105_2
  have e_hE_0_105_3 := funext hE_0_105_3; subst e_hE_0_105_3
  have e_hE_0_106_1 := funext hE_0_106_1; subst e_hE_0_106_1
  have e_hE_0_106_2 := funext hE_0_106_2; subst e_hE_0_106_2
  have e_hE_0_106_3 := funext hE_0_106_3; subst e_hE_0_106_3
  have e_hE_0_108_1 := funext hE_0_108_1; subst e_hE_0_108_1
  have e_hE_0_108_2 := funext hE_0_108_2; subst e_hE_0_108_2
  have e_hE_0_108_3 := funext hE_0_108_3; subst e_hE_0_108_3
  have e_hE_0_109_1 := funext hE_0_109_1; subst e_hE_0_109_1
  have e_hE_0_109_2 := funext hE_0_109_2; subst e_hE_0_109_2
  have e_hE_0_109_3 := funext hE_0_109_3; subst e_hE_0_109_3
  try simp only [Int.add_zero] at *
  first
    | omega
    | (have h := ‹LSA _ _ _ _ _ _ _ _ _ _›.2.1; omega)
    | (have h := lsa_la (p := x2) (x := x15) ‹LSA _ _ _ _ _ _ _ _ _ _› (by omega) (by omega) (by assumption); omega)
    | (have h := lsa_lb (p := x2) (x := x16) ‹LSA _ _ _ _ _ _ _ _ _ _› (by omega) (by omega) (by assumption); omega)
def o_Mo_across2_0 : or_T := (20, 5, [(0, (2, 0, 0, [150])), (1, (0, 0, 76, [])), (2, (0, 0, 0, [])), (3, (0, 0, 0, [])), (4, (0, 0, 0, []))], [(20, [0], [60, 4, 6, 369, 5, 100, 101, 107, 2, 95, 102, 104, 108, 109]), (20, [0], [60, 2, 3, 372, 100, 101, 102, 105, 106]), (20, [0], [60, 1, 1, 122, 5, 2]), (101, [0, 3], [81]), (20, [0], [60, 4, 6, 369, 5, 100, 101, 107, 2, 95, 102, 104, 108, 109]), (20, [0], [60, 2, 3, 372, 100, 101, 102, 105, 106]), (20, [0], [60, 1, 1, 122, 5, 2]), (101, [0, 2], [80]), (20, [0], [60, 4, 6, 369, 5, 100, 101, 107, 2, 95, 102, 104, 108, 109]), (20, [0], [60, 2, 3, 372, 100, 101, 102, 105, 106]), (20, [0], [60, 1, 1, 122, 5, 2]), (101, [0, 1], [79]), (9, [1, 0], [100]), (20, [0], [60, 4, 6, 369, 5, 100, 101, 107, 2, 95, 102, 104, 108, 109]), (20, [0], [60, 2, 3, 372, 100, 101, 102, 105, 106]), (20, [0], [60, 1, 1, 122, 5, 2])], [], [], [(20, [0], [50, 2, 0, 79, 100, 1, 3, 2, 0, 79, 2, 0, 100]), (20, [0], [60, 2, 4, 380, 79, 80, 83, 84, 85, 86]), (20, [0, 4], [50, 1, 0, 80, 1, 3, 2, 0, 80, 1, 1]), (20, [0], [50, 1, 0, 81, 1, 3, 2, 0, 81, 0, 0]), (24, [0, 0], [])], [], [])
theorem oo_Mo_across2_0 {kA : Nat → ClassId} : or_ok PRD kA GG o_Mo_across2_0 := by
  intro A ta ws vs hD hth hl hk hds hf
  have hl : vs.length = 5 := hl
  have hk : ∀ q ∈ ([(0, (2, 0, 0, [150])), (1, (0, 0, 76, [])), (2, (0, 0, 0, [])), (3, (0, 0, 0, [])), (4, (0, 0, 0, []))] : List (Nat × tv_T)), tv_ok ta q.2 (n_v vs q.1) := hk
  obtain ⟨t0, hk⟩ := List.forall_mem_cons.mp hk
  have t0 : tv_ok ta (2, 0, 0, [150]) (n_v vs 0) := t0
  have r0 : ta (v_ad (n_v vs 0)) = some 150 := tv_rg t0
  obtain ⟨t1, hk⟩ := List.forall_mem_cons.mp hk
  have t1 : tv_ok ta (0, 0, 76, []) (n_v vs 1) := t1
  have k1 : 0 ≤ v_iv (n_v vs 1) ∧ v_iv (n_v vs 1) ≤ 76 := tv_rng t1
  obtain ⟨t2, hk⟩ := List.forall_mem_cons.mp hk
  have t2 : tv_ok ta (0, 0, 0, []) (n_v vs 2) := t2
  have k2 : 0 ≤ v_iv (n_v vs 2) ∧ v_iv (n_v vs 2) ≤ 0 := tv_rng t2
  obtain ⟨t3, hk⟩ := List.forall_mem_cons.mp hk
  have t3 : tv_ok ta (0, 0, 0, []) (n_v vs 3) := t3
  have k3 : 0 ≤ v_iv (n_v vs 3) ∧ v_iv (n_v vs 3) ≤ 0 := tv_rng t3
  obtain ⟨t4, hk⟩ := List.forall_mem_cons.mp hk
  have t4 : tv_ok ta (0, 0, 0, []) (n_v vs 4) := t4
  have k4 : 0 ≤ v_iv (n_v vs 4) ∧ v_iv (n_v vs 4) ≤ 0 := tv_rng t4
  have hf : fc_ok PRD [(20, [0], [60, 4, 6, 369, 5, 100, 101, 107, 2, 95, 102, 104, 108, 109]), (20, [0], [60, 2, 3, 372, 100, 101, 102, 105, 106]), (20, [0], [60, 1, 1, 122, 5, 2]), (101, [0, 3], [81]), (20, [0], [60, 4, 6, 369, 5, 100, 101, 107, 2, 95, 102, 104, 108, 109]), (20, [0], [60, 2, 3, 372, 100, 101, 102, 105, 106]), (20, [0], [60, 1, 1, 122, 5, 2]), (101, [0, 2], [80]), (20, [0], [60, 4, 6, 369, 5, 100, 101, 107, 2, 95, 102, 104, 108, 109]), (20, [0], [60, 2, 3, 372, 100, 101, 102, 105, 106]), (20, [0], [60, 1, 1, 122, 5, 2]), (101, [0, 1], [79]), (9, [1, 0], [100]), (20, [0], [60, 4, 6, 369, 5, 100, 101, 107, 2, 95, 102, 104, 108, 109]), (20, [0], [60, 2, 3, 372, 100, 101, 102, 105, 106]), (20, [0], [60, 1, 1, 122, 5, 2])] ta ws vs := hf
  obtain ⟨f0, hf⟩ := fc_un (show (20 : Nat) < 100 from by decide) hf
  have f0 : LSA (w_fi ws (n_v vs 0) 5) (w_fi ws (n_v vs 0) 100) (w_fi ws (n_v vs 0) 101) (w_fi ws (n_v vs 0) 107) (w_ei ws (w_ar ws (n_v vs 0) 2)) (w_ei ws (w_ar ws (n_v vs 0) 95)) (w_ei ws (w_ar ws (n_v vs 0) 102)) (w_ei ws (w_ar ws (n_v vs 0) 104)) (w_ei ws (w_ar ws (n_v vs 0) 108)) (w_ei ws (w_ar ws (n_v vs 0) 109)) := f0
  obtain ⟨f1, hf⟩ := fc_un (show (20 : Nat) < 100 from by decide) hf
  have f1 : LSB (w_fi ws (n_v vs 0) 100) (w_fi ws (n_v vs 0) 101) (w_ei ws (w_ar ws (n_v vs 0) 102)) (w_ei ws (w_ar ws (n_v vs 0) 105)) (w_ei ws (w_ar ws (n_v vs 0) 106)) := f1
  obtain ⟨f2, hf⟩ := fc_un (show (20 : Nat) < 100 from by decide) hf
  have f2 : SGR (w_fi ws (n_v vs 0) 5) (w_ei ws (w_ar ws (n_v vs 0) 2)) := f2
  obtain ⟨ta1, w1, le1, ⟨_, s1⟩, hf⟩ := fc_us (show ¬ (101 : Nat) < 100 from by decide) hf
  have s1 : (∀ b j, w_el ws b j = w_el w1 b j) ∧ ∀ b j, w_fd ws b j = if b = v_ad (n_v vs 0) ∧ j = 81 then n_v vs 3 else w_fd w1 b j := s1
  obtain ⟨f4, hf⟩ := fc_un (show (20 : Nat) < 100 from by decide) hf
  have f4 : LSA (w_fi w1 (n_v vs 0) 5) (w_fi w1 (n_v vs 0) 100) (w_fi w1 (n_v vs 0) 101) (w_fi w1 (n_v vs 0) 107) (w_ei w1 (w_ar w1 (n_v vs 0) 2)) (w_ei w1 (w_ar w1 (n_v vs 0) 95)) (w_ei w1 (w_ar w1 (n_v vs 0) 102)) (w_ei w1 (w_ar w1 (n_v vs 0) 104)) (w_ei w1 (w_ar w1 (n_v vs 0) 108)) (w_ei w1 (w_ar w1 (n_v vs 0) 109)) := f4
  obtain ⟨f5, hf⟩ := fc_un (show (20 : Nat) < 100 from by decide) hf
  have f5 : LSB (w_fi w1 (n_v vs 0) 100) (w_fi w1 (n_v vs 0) 101) (w_ei w1 (w_ar w1 (n_v vs 0) 102)) (w_ei w1 (w_ar w1 (n_v vs 0) 105)) (w_ei w1 (w_ar w1 (n_v vs 0) 106)) := f5
  obtain ⟨f6, hf⟩ := fc_un (show (20 : Nat) < 100 from by decide) hf
  have f6 : SGR (w_fi w1 (n_v vs 0) 5) (w_ei w1 (w_ar w1 (n_v vs 0) 2)) := f6
  obtain ⟨ta2, w2, le2, ⟨_, s2⟩, hf⟩ := fc_us (show ¬ (101 : Nat) < 100 from by decide) hf
  have s2 : (∀ b j, w_el w1 b j = w_el w2 b j) ∧ ∀ b j, w_fd w1 b j = if b = v_ad (n_v vs 0) ∧ j = 80 then n_v vs 2 else w_fd w2 b j := s2
  obtain ⟨f8, hf⟩ := fc_un (show (20 : Nat) < 100 from by decide) hf
  have f8 : LSA (w_fi w2 (n_v vs 0) 5) (w_fi w2 (n_v vs 0) 100) (w_fi w2 (n_v vs 0) 101) (w_fi w2 (n_v vs 0) 107) (w_ei w2 (w_ar w2 (n_v vs 0) 2)) (w_ei w2 (w_ar w2 (n_v vs 0) 95)) (w_ei w2 (w_ar w2 (n_v vs 0) 102)) (w_ei w2 (w_ar w2 (n_v vs 0) 104)) (w_ei w2 (w_ar w2 (n_v vs 0) 108)) (w_ei w2 (w_ar w2 (n_v vs 0) 109)) := f8
  obtain ⟨f9, hf⟩ := fc_un (show (20 : Nat) < 100 from by decide) hf
  have f9 : LSB (w_fi w2 (n_v vs 0) 100) (w_fi w2 (n_v vs 0) 101) (w_ei w2 (w_ar w2 (n_v vs 0) 102)) (w_ei w2 (w_ar w2 (n_v vs 0) 105)) (w_ei w2 (w_ar w2 (n_v vs 0) 106)) := f9
  obtain ⟨f10, hf⟩ := fc_un (show (20 : Nat) < 100 from by decide) hf
  have f10 : SGR (w_fi w2 (n_v vs 0) 5) (w_ei w2 (w_ar w2 (n_v vs 0) 2)) := f10
  obtain ⟨ta3, w3, le3, ⟨_, s3⟩, hf⟩ := fc_us (show ¬ (101 : Nat) < 100 from by decide) hf
  have s3 : (∀ b j, w_el w2 b j = w_el w3 b j) ∧ ∀ b j, w_fd w2 b j = if b = v_ad (n_v vs 0) ∧ j = 79 then n_v vs 1 else w_fd w3 b j := s3
  obtain ⟨f12, hf⟩ := fc_un (show (9 : Nat) < 100 from by decide) hf
  have f12 : n_v vs 1 = w_fd w3 (v_ad (n_v vs 0)) 100 := f12
  obtain ⟨f13, hf⟩ := fc_un (show (20 : Nat) < 100 from by decide) hf
  have f13 : LSA (w_fi w3 (n_v vs 0) 5) (w_fi w3 (n_v vs 0) 100) (w_fi w3 (n_v vs 0) 101) (w_fi w3 (n_v vs 0) 107) (w_ei w3 (w_ar w3 (n_v vs 0) 2)) (w_ei w3 (w_ar w3 (n_v vs 0) 95)) (w_ei w3 (w_ar w3 (n_v vs 0) 102)) (w_ei w3 (w_ar w3 (n_v vs 0) 104)) (w_ei w3 (w_ar w3 (n_v vs 0) 108)) (w_ei w3 (w_ar w3 (n_v vs 0) 109)) := f13
  obtain ⟨f14, hf⟩ := fc_un (show (20 : Nat) < 100 from by decide) hf
  have f14 : LSB (w_fi w3 (n_v vs 0) 100) (w_fi w3 (n_v vs 0) 101) (w_ei w3 (w_ar w3 (n_v vs 0) 102)) (w_ei w3 (w_ar w3 (n_v vs 0) 105)) (w_ei w3 (w_ar w3 (n_v vs 0) 106)) := f14
  obtain ⟨f15, hf⟩ := fc_un (show (20 : Nat) < 100 from by decide) hf
  have f15 : SGR (w_fi w3 (n_v vs 0) 5) (w_ei w3 (w_ar w3 (n_v vs 0) 2)) := f15
  have ar_0_2_1 : w_ar w1 (n_v vs 0) 2 = w_ar ws (n_v vs 0) 2 := by show v_ad (w_fd w1 _ _) = v_ad (w_fd ws _ _); rw [s1.2, if_neg (fun e => absurd e.2 (by decide))]
  have ar_0_2_2 : w_ar w2 (n_v vs 0) 2 = w_ar ws (n_v vs 0) 2 := by rw [← ar_0_2_1]; show v_ad (w_fd w2 _ _) = v_ad (w_fd w1 _ _); rw [s2.2, if_neg (fun e => absurd e.2 (by decide))]
  have ar_0_2_3 : w_ar w3 (n_v vs 0) 2 = w_ar ws (n_v vs 0) 2 := by rw [← ar_0_2_2]; show v_ad (w_fd w3 _ _) = v_ad (w_fd w2 _ _); rw [s3.2, if_neg (fun e => absurd e.2 (by decide))]
  have cr_0_2 : ta (w_ar ws (n_v vs 0) 2) = some 152 := tv_rg (th_fd hD hth r0 (g := GG_150) rfl (k := 2) (t := (2, 0, 0, [152])) rfl rfl)
  have ar_0_83_1 : w_ar w1 (n_v vs 0) 83 = w_ar ws (n_v vs 0) 83 := by show v_ad (w_fd w1 _ _) = v_ad (w_fd ws _ _); rw [s1.2, if_neg (fun e => absurd e.2 (by decide))]
  have ar_0_83_2 : w_ar w2 (n_v vs 0) 83 = w_ar ws (n_v vs 0) 83 := by rw [← ar_0_83_1]; show v_ad (w_fd w2 _ _) = v_ad (w_fd w1 _ _); rw [s2.2, if_neg (fun e => absurd e.2 (by decide))]
  have ar_0_83_3 : w_ar w3 (n_v vs 0) 83 = w_ar ws (n_v vs 0) 83 := by rw [← ar_0_83_2]; show v_ad (w_fd w3 _ _) = v_ad (w_fd w2 _ _); rw [s3.2, if_neg (fun e => absurd e.2 (by decide))]
  have cr_0_83 : ta (w_ar ws (n_v vs 0) 83) = some 205 := tv_rg (th_fd hD hth r0 (g := GG_150) rfl (k := 83) (t := (2, 0, 0, [205])) rfl rfl)
  have ar_0_84_1 : w_ar w1 (n_v vs 0) 84 = w_ar ws (n_v vs 0) 84 := by show v_ad (w_fd w1 _ _) = v_ad (w_fd ws _ _); rw [s1.2, if_neg (fun e => absurd e.2 (by decide))]
  have ar_0_84_2 : w_ar w2 (n_v vs 0) 84 = w_ar ws (n_v vs 0) 84 := by rw [← ar_0_84_1]; show v_ad (w_fd w2 _ _) = v_ad (w_fd w1 _ _); rw [s2.2, if_neg (fun e => absurd e.2 (by decide))]
  have ar_0_84_3 : w_ar w3 (n_v vs 0) 84 = w_ar ws (n_v vs 0) 84 := by rw [← ar_0_84_2]; show v_ad (w_fd w3 _ _) = v_ad (w_fd w2 _ _); rw [s3.2, if_neg (fun e => absurd e.2 (by decide))]
  have cr_0_84 : ta (w_ar ws (n_v vs 0) 84) = some 206 := tv_rg (th_fd hD hth r0 (g := GG_150) rfl (k := 84) (t := (2, 0, 0, [206])) rfl rfl)
  have ar_0_85_1 : w_ar w1 (n_v vs 0) 85 = w_ar ws (n_v vs 0) 85 := by show v_ad (w_fd w1 _ _) = v_ad (w_fd ws _ _); rw [s1.2, if_neg (fun e => absurd e.2 (by decide))]
  have ar_0_85_2 : w_ar w2 (n_v vs 0) 85 = w_ar ws (n_v vs 0) 85 := by rw [← ar_0_85_1]; show v_ad (w_fd w2 _ _) = v_ad (w_fd w1 _ _); rw [s2.2, if_neg (fun e => absurd e.2 (by decide))]
  have ar_0_85_3 : w_ar w3 (n_v vs 0) 85 = w_ar ws (n_v vs 0) 85 := by rw [← ar_0_85_2]; show v_ad (w_fd w3 _ _) = v_ad (w_fd w2 _ _); rw [s3.2, if_neg (fun e => absurd e.2 (by decide))]
  have cr_0_85 : ta (w_ar ws (n_v vs 0) 85) = some 207 := tv_rg (th_fd hD hth r0 (g := GG_150) rfl (k := 85) (t := (2, 0, 0, [207])) rfl rfl)
  have ar_0_86_1 : w_ar w1 (n_v vs 0) 86 = w_ar ws (n_v vs 0) 86 := by show v_ad (w_fd w1 _ _) = v_ad (w_fd ws _ _); rw [s1.2, if_neg (fun e => absurd e.2 (by decide))]
  have ar_0_86_2 : w_ar w2 (n_v vs 0) 86 = w_ar ws (n_v vs 0) 86 := by rw [← ar_0_86_1]; show v_ad (w_fd w2 _ _) = v_ad (w_fd w1 _ _); rw [s2.2, if_neg (fun e => absurd e.2 (by decide))]
  have ar_0_86_3 : w_ar w3 (n_v vs 0) 86 = w_ar ws (n_v vs 0) 86 := by rw [← ar_0_86_2]; show v_ad (w_fd w3 _ _) = v_ad (w_fd w2 _ _); rw [s3.2, if_neg (fun e => absurd e.2 (by decide))]
  have cr_0_86 : ta (w_ar ws (n_v vs 0) 86) = some 208 := tv_rg (th_fd hD hth r0 (g := GG_150) rfl (k := 86) (t := (2, 0, 0, [208])) rfl rfl)
  have ar_0_95_1 : w_ar w1 (n_v vs 0) 95 = w_ar ws (n_v vs 0) 95 := by show v_ad (w_fd w1 _ _) = v_ad (w_fd ws _ _); rw [s1.2, if_neg (fun e => absurd e.2 (by decide))]
  have ar_0_95_2 : w_ar w2 (n_v vs 0) 95 = w_ar ws (n_v vs 0) 95 := by rw [← ar_0_95_1]; show v_ad (w_fd w2 _ _) = v_ad (w_fd w1 _ _); rw [s2.2, if_neg (fun e => absurd e.2 (by decide))]
  have ar_0_95_3 : w_ar w3 (n_v vs 0) 95 = w_ar ws (n_v vs 0) 95 := by rw [← ar_0_95_2]; show v_ad (w_fd w3 _ _) = v_ad (w_fd w2 _ _); rw [s3.2, if_neg (fun e => absurd e.2 (by decide))]
  have cr_0_95 : ta (w_ar ws (n_v vs 0) 95) = some 216 := tv_rg (th_fd hD hth r0 (g := GG_150) rfl (k := 95) (t := (2, 0, 0, [216])) rfl rfl)
  have ar_0_102_1 : w_ar w1 (n_v vs 0) 102 = w_ar ws (n_v vs 0) 102 := by show v_ad (w_fd w1 _ _) = v_ad (w_fd ws _ _); rw [s1.2, if_neg (fun e => absurd e.2 (by decide))]
  have ar_0_102_2 : w_ar w2 (n_v vs 0) 102 = w_ar ws (n_v vs 0) 102 := by rw [← ar_0_102_1]; show v_ad (w_fd w2 _ _) = v_ad (w_fd w1 _ _); rw [s2.2, if_neg (fun e => absurd e.2 (by decide))]
  have ar_0_102_3 : w_ar w3 (n_v vs 0) 102 = w_ar ws (n_v vs 0) 102 := by rw [← ar_0_102_2]; show v_ad (w_fd w3 _ _) = v_ad (w_fd w2 _ _); rw [s3.2, if_neg (fun e => absurd e.2 (by decide))]
  have cr_0_102 : ta (w_ar ws (n_v vs 0) 102) = some 220 := tv_rg (th_fd hD hth r0 (g := GG_150) rfl (k := 102) (t := (2, 0, 0, [220])) rfl rfl)
  have ar_0_104_1 : w_ar w1 (n_v vs 0) 104 = w_ar ws (n_v vs 0) 104 := by show v_ad (w_fd w1 _ _) = v_ad (w_fd ws _ _); rw [s1.2, if_neg (fun e => absurd e.2 (by decide))]
  have ar_0_104_2 : w_ar w2 (n_v vs 0) 104 = w_ar ws (n_v vs 0) 104 := by rw [← ar_0_104_1]; show v_ad (w_fd w2 _ _) = v_ad (w_fd w1 _ _); rw [s2.2, if_neg (fun e => absurd e.2 (by decide))]
  have ar_0_104_3 : w_ar w3 (n_v vs 0) 104 = w_ar ws (n_v vs 0) 104 := by rw [← ar_0_104_2]; show v_ad (w_fd w3 _ _) = v_ad (w_fd w2 _ _); rw [s3.2, if_neg (fun e => absurd e.2 (by decide))]
  have cr_0_104 : ta (w_ar ws (n_v vs 0) 104) = some 222 := tv_rg (th_fd hD hth r0 (g := GG_150) rfl (k := 104) (t := (2, 0, 0, [222])) rfl rfl)
  have ar_0_105_1 : w_ar w1 (n_v vs 0) 105 = w_ar ws (n_v vs 0) 105 := by show v_ad (w_fd w1 _ _) = v_ad (w_fd ws _ _); rw [s1.2, if_neg (fun e => absurd e.2 (by decide))]
  have ar_0_105_2 : w_ar w2 (n_v vs 0) 105 = w_ar ws (n_v vs 0) 105 := by rw [← ar_0_105_1]; show v_ad (w_fd w2 _ _) = v_ad (w_fd w1 _ _); rw [s2.2, if_neg (fun e => absurd e.2 (by decide))]
  have ar_0_105_3 : w_ar w3 (n_v vs 0) 105 = w_ar ws (n_v vs 0) 105 := by rw [← ar_0_105_2]; show v_ad (w_fd w3 _ _) = v_ad (w_fd w2 _ _); rw [s3.2, if_neg (fun e => absurd e.2 (by decide))]
  have cr_0_105 : ta (w_ar ws (n_v vs 0) 105) = some 223 := tv_rg (th_fd hD hth r0 (g := GG_150) rfl (k := 105) (t := (2, 0, 0, [223])) rfl rfl)
  have ar_0_106_1 : w_ar w1 (n_v vs 0) 106 = w_ar ws (n_v vs 0) 106 := by show v_ad (w_fd w1 _ _) = v_ad (w_fd ws _ _); rw [s1.2, if_neg (fun e => absurd e.2 (by decide))]
  have ar_0_106_2 : w_ar w2 (n_v vs 0) 106 = w_ar ws (n_v vs 0) 106 := by rw [← ar_0_106_1]; show v_ad (w_fd w2 _ _) = v_ad (w_fd w1 _ _); rw [s2.2, if_neg (fun e => absurd e.2 (by decide))]
  have ar_0_106_3 : w_ar w3 (n_v vs 0) 106 = w_ar ws (n_v vs 0) 106 := by rw [← ar_0_106_2]; show v_ad (w_fd w3 _ _) = v_ad (w_fd w2 _ _); rw [s3.2, if_neg (fun e => absurd e.2 (by decide))]
  have cr_0_106 : ta (w_ar ws (n_v vs 0) 106) = some 224 := tv_rg (th_fd hD hth r0 (g := GG_150) rfl (k := 106) (t := (2, 0, 0, [224])) rfl rfl)
  have ar_0_108_1 : w_ar w1 (n_v vs 0) 108 = w_ar ws (n_v vs 0) 108 := by show v_ad (w_fd w1 _ _) = v_ad (w_fd ws _ _); rw [s1.2, if_neg (fun e => absurd e.2 (by decide))]
  have ar_0_108_2 : w_ar w2 (n_v vs 0) 108 = w_ar ws (n_v vs 0) 108 := by rw [← ar_0_108_1]; show v_ad (w_fd w2 _ _) = v_ad (w_fd w1 _ _); rw [s2.2, if_neg (fun e => absurd e.2 (by decide))]
  have ar_0_108_3 : w_ar w3 (n_v vs 0) 108 = w_ar ws (n_v vs 0) 108 := by rw [← ar_0_108_2]; show v_ad (w_fd w3 _ _) = v_ad (w_fd w2 _ _); rw [s3.2, if_neg (fun e => absurd e.2 (by decide))]
  have cr_0_108 : ta (w_ar ws (n_v vs 0) 108) = some 225 := tv_rg (th_fd hD hth r0 (g := GG_150) rfl (k := 108) (t := (2, 0, 0, [225])) rfl rfl)
  have ar_0_109_1 : w_ar w1 (n_v vs 0) 109 = w_ar ws (n_v vs 0) 109 := by show v_ad (w_fd w1 _ _) = v_ad (w_fd ws _ _); rw [s1.2, if_neg (fun e => absurd e.2 (by decide))]
  have ar_0_109_2 : w_ar w2 (n_v vs 0) 109 = w_ar ws (n_v vs 0) 109 := by rw [← ar_0_109_1]; show v_ad (w_fd w2 _ _) = v_ad (w_fd w1 _ _); rw [s2.2, if_neg (fun e => absurd e.2 (by decide))]
  have ar_0_109_3 : w_ar w3 (n_v vs 0) 109 = w_ar ws (n_v vs 0) 109 := by rw [← ar_0_109_2]; show v_ad (w_fd w3 _ _) = v_ad (w_fd w2 _ _); rw [s3.2, if_neg (fun e => absurd e.2 (by decide))]
  have cr_0_109 : ta (w_ar ws (n_v vs 0) 109) = some 226 := tv_rg (th_fd hD hth r0 (g := GG_150) rfl (k := 109) (t := (2, 0, 0, [226])) rfl rfl)
  rw [ar_0_2_1] at f4
  rw [ar_0_95_1] at f4
  rw [ar_0_102_1] at f4
  rw [ar_0_104_1] at f4
  rw [ar_0_108_1] at f4
  rw [ar_0_109_1] at f4
  rw [ar_0_102_1] at f5
  rw [ar_0_105_1] at f5
  rw [ar_0_106_1] at f5
  rw [ar_0_2_1] at f6
  rw [ar_0_2_2] at f8
  rw [ar_0_95_2] at f8
  rw [ar_0_102_2] at f8
  rw [ar_0_104_2] at f8
  rw [ar_0_108_2] at f8
  rw [ar_0_109_2] at f8
  rw [ar_0_102_2] at f9
  rw [ar_0_105_2] at f9
  rw [ar_0_106_2] at f9
  rw [ar_0_2_2] at f10
  have g12 : v_iv (n_v vs 1) = w_fi w3 (n_v vs 0) 100 := congrArg v_iv f12
  rw [ar_0_2_3] at f13
  rw [ar_0_95_3] at f13
  rw [ar_0_102_3] at f13
  rw [ar_0_104_3] at f13
  rw [ar_0_108_3] at f13
  rw [ar_0_109_3] at f13
  rw [ar_0_102_3] at f14
  rw [ar_0_105_3] at f14
  rw [ar_0_106_3] at f14
  rw [ar_0_2_3] at f15
  have fe_0_5_1 : w_fi ws (n_v vs 0) 5 = w_fi w1 (n_v vs 0) 5 := by show v_iv (w_fd _ _ _) = v_iv (w_fd _ _ _); rw [s1.2, if_neg (fun e => absurd e.2 (by decide))]
  have fe_0_79_1 : w_fi ws (n_v vs 0) 79 = w_fi w1 (n_v vs 0) 79 := by show v_iv (w_fd _ _ _) = v_iv (w_fd _ _ _); rw [s1.2, if_neg (fun e => absurd e.2 (by decide))]
  have fe_0_80_1 : w_fi ws (n_v vs 0) 80 = w_fi w1 (n_v vs 0) 80 := by show v_iv (w_fd _ _ _) = v_iv (w_fd _ _ _); rw [s1.2, if_neg (fun e => absurd e.2 (by decide))]
  have fe_0_81_1 : w_fi ws (n_v vs 0) 81 = v_iv (n_v vs 3) := by show v_iv (w_fd _ _ _) = _; rw [s1.2, if_pos ⟨rfl, rfl⟩]
  have fe_0_100_1 : w_fi ws (n_v vs 0) 100 = w_fi w1 (n_v vs 0) 100 := by show v_iv (w_fd _ _ _) = v_iv (w_fd _ _ _); rw [s1.2, if_neg (fun e => absurd e.2 (by decide))]
  have fe_0_101_1 : w_fi ws (n_v vs 0) 101 = w_fi w1 (n_v vs 0) 101 := by show v_iv (w_fd _ _ _) = v_iv (w_fd _ _ _); rw [s1.2, if_neg (fun e => absurd e.2 (by decide))]
  have fe_0_107_1 : w_fi ws (n_v vs 0) 107 = w_fi w1 (n_v vs 0) 107 := by show v_iv (w_fd _ _ _) = v_iv (w_fd _ _ _); rw [s1.2, if_neg (fun e => absurd e.2 (by decide))]
  have fe_0_5_2 : w_fi w1 (n_v vs 0) 5 = w_fi w2 (n_v vs 0) 5 := by show v_iv (w_fd _ _ _) = v_iv (w_fd _ _ _); rw [s2.2, if_neg (fun e => absurd e.2 (by decide))]
  have fe_0_79_2 : w_fi w1 (n_v vs 0) 79 = w_fi w2 (n_v vs 0) 79 := by show v_iv (w_fd _ _ _) = v_iv (w_fd _ _ _); rw [s2.2, if_neg (fun e => absurd e.2 (by decide))]
  have fe_0_80_2 : w_fi w1 (n_v vs 0) 80 = v_iv (n_v vs 2) := by show v_iv (w_fd _ _ _) = _; rw [s2.2, if_pos ⟨rfl, rfl⟩]
  have fe_0_81_2 : w_fi w1 (n_v vs 0) 81 = w_fi w2 (n_v vs 0) 81 := by show v_iv (w_fd _ _ _) = v_iv (w_fd _ _ _); rw [s2.2, if_neg (fun e => absurd e.2 (by decide))]
  have fe_0_100_2 : w_fi w1 (n_v vs 0) 100 = w_fi w2 (n_v vs 0) 100 := by show v_iv (w_fd _ _ _) = v_iv (w_fd _ _ _); rw [s2.2, if_neg (fun e => absurd e.2 (by decide))]
  have fe_0_101_2 : w_fi w1 (n_v vs 0) 101 = w_fi w2 (n_v vs 0) 101 := by show v_iv (w_fd _ _ _) = v_iv (w_fd _ _ _); rw [s2.2, if_neg (fun e => absurd e.2 (by decide))]
  have fe_0_107_2 : w_fi w1 (n_v vs 0) 107 = w_fi w2 (n_v vs 0) 107 := by show v_iv (w_fd _ _ _) = v_iv (w_fd _ _ _); rw [s2.2, if_neg (fun e => absurd e.2 (by decide))]
  have fe_0_5_3 : w_fi w2 (n_v vs 0) 5 = w_fi w3 (n_v vs 0) 5 := by show v_iv (w_fd _ _ _) = v_iv (w_fd _ _ _); rw [s3.2, if_neg (fun e => absurd e.2 (by decide))]
  have fe_0_79_3 : w_fi w2 (n_v vs 0) 79 = v_iv (n_v vs 1) := by show v_iv (w_fd _ _ _) = _; rw [s3.2, if_pos ⟨rfl, rfl⟩]
  have fe_0_80_3 : w_fi w2 (n_v vs 0) 80 = w_fi w3 (n_v vs 0) 80 := by show v_iv (w_fd _ _ _) = v_iv (w_fd _ _ _); rw [s3.2, if_neg (fun e => absurd e.2 (by decide))]
  have fe_0_81_3 : w_fi w2 (n_v vs 0) 81 = w_fi w3 (n_v vs 0) 81 := by show v_iv (w_fd _ _ _) = v_iv (w_fd _ _ _); rw [s3.2, if_neg (fun e => absurd e.2 (by decide))]
  have fe_0_100_3 : w_fi w2 (n_v vs 0) 100 = w_fi w3 (n_v vs 0) 100 := by show v_iv (w_fd _ _ _) = v_iv (w_fd _ _ _); rw [s3.2, if_neg (fun e => absurd e.2 (by decide))]
  have fe_0_101_3 : w_fi w2 (n_v vs 0) 101 = w_fi w3 (n_v vs 0) 101 := by show v_iv (w_fd _ _ _) = v_iv (w_fd _ _ _); rw [s3.2, if_neg (fun e => absurd e.2 (by decide))]
  have fe_0_107_3 : w_fi w2 (n_v vs 0) 107 = w_fi w3 (n_v vs 0) 107 := by show v_iv (w_fd _ _ _) = v_iv (w_fd _ _ _); rw [s3.2, if_neg (fun e => absurd e.2 (by decide))]
  have hE_0_2_1 : ∀ j : Int, w_ei ws (w_ar ws (n_v vs 0) 2) j = w_ei w1 (w_ar ws (n_v vs 0) 2) j := fun j => s1.1 _ _
  have hE_0_2_2 : ∀ j : Int, w_ei w1 (w_ar ws (n_v vs 0) 2) j = w_ei w2 (w_ar ws (n_v vs 0) 2) j := fun j => s2.1 _ _
  have hE_0_2_3 : ∀ j : Int, w_ei w2 (w_ar ws (n_v vs 0) 2) j = w_ei w3 (w_ar ws (n_v vs 0) 2) j := fun j => s3.1 _ _
  have hE_0_83_1 : ∀ j : Int, w_ei ws (w_ar ws (n_v vs 0) 83) j = w_ei w1 (w_ar ws (n_v vs 0) 83) j := fun j => s1.1 _ _
  have hE_0_83_2 : ∀ j : Int, w_ei w1 (w_ar ws (n_v vs 0) 83) j = w_ei w2 (w_ar ws (n_v vs 0) 83) j := fun j => s2.1 _ _
  have hE_0_83_3 : ∀ j : Int, w_ei w2 (w_ar ws (n_v vs 0) 83) j = w_ei w3 (w_ar ws (n_v vs 0) 83) j := fun j => s3.1 _ _
  have hK_0_83 : ∀ j : Int, 0 ≤ j → j < 200 → 0 ≤ w_ei ws (w_ar ws (n_v vs 0) 83) j ∧ w_ei ws (w_ar ws (n_v vs 0) 83) j ≤ 75 := fun j h0 h1 => th_el hD hth cr_0_83 (kd := 0) (n := 200) (m := 200) (lo := 0) (hi := 75) (rs := []) (L := []) rfl (by decide) (j := j.toNat) (by omega)
  have hE_0_84_1 : ∀ j : Int, w_ei ws (w_ar ws (n_v vs 0) 84) j = w_ei w1 (w_ar ws (n_v vs 0) 84) j := fun j => s1.1 _ _
  have hE_0_84_2 : ∀ j : Int, w_ei w1 (w_ar ws (n_v vs 0) 84) j = w_ei w2 (w_ar ws (n_v vs 0) 84) j := fun j => s2.1 _ _
  have hE_0_84_3 : ∀ j : Int, w_ei w2 (w_ar ws (n_v vs 0) 84) j = w_ei w3 (w_ar ws (n_v vs 0) 84) j := fun j => s3.1 _ _
  have hK_0_84 : ∀ j : Int, 0 ≤ j → j < 200 → 0 ≤ w_ei ws (w_ar ws (n_v vs 0) 84) j ∧ w_ei ws (w_ar ws (n_v vs 0) 84) j ≤ 75 := fun j h0 h1 => th_el hD hth cr_0_84 (kd := 0) (n := 200) (m := 200) (lo := 0) (hi := 75) (rs := []) (L := []) rfl (by decide) (j := j.toNat) (by omega)
  have hE_0_85_1 : ∀ j : Int, w_ei ws (w_ar ws (n_v vs 0) 85) j = w_ei w1 (w_ar ws (n_v vs 0) 85) j := fun j => s1.1 _ _
  have hE_0_85_2 : ∀ j : Int, w_ei w1 (w_ar ws (n_v vs 0) 85) j = w_ei w2 (w_ar ws (n_v vs 0) 85) j := fun j => s2.1 _ _
  have hE_0_85_3 : ∀ j : Int, w_ei w2 (w_ar ws (n_v vs 0) 85) j = w_ei w3 (w_ar ws (n_v vs 0) 85) j := fun j => s3.1 _ _
  have hK_0_85 : ∀ j : Int, 0 ≤ j → j < 200 → 0 ≤ w_ei ws (w_ar ws (n_v vs 0) 85) j ∧ w_ei ws (w_ar ws (n_v vs 0) 85) j ≤ 72 := fun j h0 h1 => th_el hD hth cr_0_85 (kd := 0) (n := 200) (m := 200) (lo := 0) (hi := 72) (rs := []) (L := []) rfl (by decide) (j := j.toNat) (by omega)
  have hE_0_86_1 : ∀ j : Int, w_ei ws (w_ar ws (n_v vs 0) 86) j = w_ei w1 (w_ar ws (n_v vs 0) 86) j := fun j => s1.1 _ _
  have hE_0_86_2 : ∀ j : Int, w_ei w1 (w_ar ws (n_v vs 0) 86) j = w_ei w2 (w_ar ws (n_v vs 0) 86) j := fun j => s2.1 _ _
  have hE_0_86_3 : ∀ j : Int, w_ei w2 (w_ar ws (n_v vs 0) 86) j = w_ei w3 (w_ar ws (n_v vs 0) 86) j := fun j => s3.1 _ _
  have hK_0_86 : ∀ j : Int, 0 ≤ j → j < 200 → 0 ≤ w_ei ws (w_ar ws (n_v vs 0) 86) j ∧ w_ei ws (w_ar ws (n_v vs 0) 86) j ≤ 1 := fun j h0 h1 => th_el hD hth cr_0_86 (kd := 2) (n := 200) (m := 200) (lo := 0) (hi := 1) (rs := []) (L := []) rfl (by decide) (j := j.toNat) (by omega)
  have hE_0_95_1 : ∀ j : Int, w_ei ws (w_ar ws (n_v vs 0) 95) j = w_ei w1 (w_ar ws (n_v vs 0) 95) j := fun j => s1.1 _ _
  have hE_0_95_2 : ∀ j : Int, w_ei w1 (w_ar ws (n_v vs 0) 95) j = w_ei w2 (w_ar ws (n_v vs 0) 95) j := fun j => s2.1 _ _
  have hE_0_95_3 : ∀ j : Int, w_ei w2 (w_ar ws (n_v vs 0) 95) j = w_ei w3 (w_ar ws (n_v vs 0) 95) j := fun j => s3.1 _ _
  have hK_0_95 : ∀ j : Int, 0 ≤ j → j < 48 → 0 ≤ w_ei ws (w_ar ws (n_v vs 0) 95) j ∧ w_ei ws (w_ar ws (n_v vs 0) 95) j ≤ 1 := fun j h0 h1 => th_el hD hth cr_0_95 (kd := 2) (n := 48) (m := 48) (lo := 0) (hi := 1) (rs := []) (L := []) rfl (by decide) (j := j.toNat) (by omega)
  have hE_0_102_1 : ∀ j : Int, w_ei ws (w_ar ws (n_v vs 0) 102) j = w_ei w1 (w_ar ws (n_v vs 0) 102) j := fun j => s1.1 _ _
  have hE_0_102_2 : ∀ j : Int, w_ei w1 (w_ar ws (n_v vs 0) 102) j = w_ei w2 (w_ar ws (n_v vs 0) 102) j := fun j => s2.1 _ _
  have hE_0_102_3 : ∀ j : Int, w_ei w2 (w_ar ws (n_v vs 0) 102) j = w_ei w3 (w_ar ws (n_v vs 0) 102) j := fun j => s3.1 _ _
  have hK_0_102 : ∀ j : Int, 0 ≤ j → j < 76 → 0 ≤ w_ei ws (w_ar ws (n_v vs 0) 102) j ∧ w_ei ws (w_ar ws (n_v vs 0) 102) j ≤ 75 := fun j h0 h1 => th_el hD hth cr_0_102 (kd := 0) (n := 76) (m := 76) (lo := 0) (hi := 75) (rs := []) (L := []) rfl (by decide) (j := j.toNat) (by omega)
  have hE_0_104_1 : ∀ j : Int, w_ei ws (w_ar ws (n_v vs 0) 104) j = w_ei w1 (w_ar ws (n_v vs 0) 104) j := fun j => s1.1 _ _
  have hE_0_104_2 : ∀ j : Int, w_ei w1 (w_ar ws (n_v vs 0) 104) j = w_ei w2 (w_ar ws (n_v vs 0) 104) j := fun j => s2.1 _ _
  have hE_0_104_3 : ∀ j : Int, w_ei w2 (w_ar ws (n_v vs 0) 104) j = w_ei w3 (w_ar ws (n_v vs 0) 104) j := fun j => s3.1 _ _
  have hK_0_104 : ∀ j : Int, 0 ≤ j → j < 48 → 0 ≤ w_ei ws (w_ar ws (n_v vs 0) 104) j ∧ w_ei ws (w_ar ws (n_v vs 0) 104) j ≤ 76 := fun j h0 h1 => th_el hD hth cr_0_104 (kd := 0) (n := 48) (m := 48) (lo := 0) (hi := 76) (rs := []) (L := []) rfl (by decide) (j := j.toNat) (by omega)
  have hE_0_105_1 : ∀ j : Int, w_ei ws (w_ar ws (n_v vs 0) 105) j = w_ei w1 (w_ar ws (n_v vs 0) 105) j := fun j => s1.1 _ _
  have hE_0_105_2 : ∀ j : Int, w_ei w1 (w_ar ws (n_v vs 0) 105) j = w_ei w2 (w_ar ws (n_v vs 0) 105) j := fun j => s2.1 _ _
  have hE_0_105_3 : ∀ j : Int, w_ei w2 (w_ar ws (n_v vs 0) 105) j = w_ei w3 (w_ar ws (n_v vs 0) 105) j := fun j => s3.1 _ _
  have hK_0_105 : ∀ j : Int, 0 ≤ j → j < 76 → 0 ≤ w_ei ws (w_ar ws (n_v vs 0) 105) j ∧ w_ei ws (w_ar ws (n_v vs 0) 105) j ≤ 76 := fun j h0 h1 => th_el hD hth cr_0_105 (kd := 0) (n := 76) (m := 76) (lo := 0) (hi := 76) (rs := []) (L := []) rfl (by decide) (j := j.toNat) (by omega)
  have hE_0_106_1 : ∀ j : Int, w_ei ws (w_ar ws (n_v vs 0) 106) j = w_ei w1 (w_ar ws (n_v vs 0) 106) j := fun j => s1.1 _ _
  have hE_0_106_2 : ∀ j : Int, w_ei w1 (w_ar ws (n_v vs 0) 106) j = w_ei w2 (w_ar ws (n_v vs 0) 106) j := fun j => s2.1 _ _
  have hE_0_106_3 : ∀ j : Int, w_ei w2 (w_ar ws (n_v vs 0) 106) j = w_ei w3 (w_ar ws (n_v vs 0) 106) j := fun j => s3.1 _ _
  have hK_0_106 : ∀ j : Int, 0 ≤ j → j < 5776 → 0 ≤ w_ei ws (w_ar ws (n_v vs 0) 106) j ∧ w_ei ws (w_ar ws (n_v vs 0) 106) j ≤ 75 := fun j h0 h1 => th_el hD hth cr_0_106 (kd := 0) (n := 5776) (m := 5776) (lo := 0) (hi := 75) (rs := []) (L := []) rfl (by decide) (j := j.toNat) (by omega)
  have hE_0_108_1 : ∀ j : Int, w_ei ws (w_ar ws (n_v vs 0) 108) j = w_ei w1 (w_ar ws (n_v vs 0) 108) j := fun j => s1.1 _ _
  have hE_0_108_2 : ∀ j : Int, w_ei w1 (w_ar ws (n_v vs 0) 108) j = w_ei w2 (w_ar ws (n_v vs 0) 108) j := fun j => s2.1 _ _
  have hE_0_108_3 : ∀ j : Int, w_ei w2 (w_ar ws (n_v vs 0) 108) j = w_ei w3 (w_ar ws (n_v vs 0) 108) j := fun j => s3.1 _ _
  have hK_0_108 : ∀ j : Int, 0 ≤ j → j < 130 → 0 ≤ w_ei ws (w_ar ws (n_v vs 0) 108) j ∧ w_ei ws (w_ar ws (n_v vs 0) 108) j ≤ 75 := fun j h0 h1 => th_el hD hth cr_0_108 (kd := 0) (n := 130) (m := 130) (lo := 0) (hi := 75) (rs := []) (L := []) rfl (by decide) (j := j.toNat) (by omega)
  have hE_0_109_1 : ∀ j : Int, w_ei ws (w_ar ws (n_v vs 0) 109) j = w_ei w1 (w_ar ws (n_v vs 0) 109) j := fun j => s1.1 _ _
  have hE_0_109_2 : ∀ j : Int, w_ei w1 (w_ar ws (n_v vs 0) 109) j = w_ei w2 (w_ar ws (n_v vs 0) 109) j := fun j => s2.1 _ _
  have hE_0_109_3 : ∀ j : Int, w_ei w2 (w_ar ws (n_v vs 0) 109) j = w_ei w3 (w_ar ws (n_v vs 0) 109) j := fun j => s3.1 _ _
  have hK_0_109 : ∀ j : Int, 0 ≤ j → j < 130 → 0 ≤ w_ei ws (w_ar ws (n_v vs 0) 109) j ∧ w_ei ws (w_ar ws (n_v vs 0) 109) j ≤ 75 := fun j h0 h1 => th_el hD hth cr_0_109 (kd := 0) (n := 130) (m := 130) (lo := 0) (hi := 75) (rs := []) (L := []) rfl (by decide) (j := j.toNat) (by omega)
  have kz_0_79 : 0 ≤ w_fi ws (n_v vs 0) 79 ∧ w_fi ws (n_v vs 0) 79 ≤ 76 := tv_rng (th_fd hD hth r0 (g := GG_150) rfl (k := 79) (t := (0, 0, 76, [])) rfl rfl)
  have kz_0_80 : 0 ≤ w_fi ws (n_v vs 0) 80 ∧ w_fi ws (n_v vs 0) 80 ≤ 200 := tv_rng (th_fd hD hth r0 (g := GG_150) rfl (k := 80) (t := (0, 0, 200, [])) rfl rfl)
  have kz_0_81 : 0 ≤ w_fi ws (n_v vs 0) 81 ∧ w_fi ws (n_v vs 0) 81 ≤ 200 := tv_rng (th_fd hD hth r0 (g := GG_150) rfl (k := 81) (t := (0, 0, 200, [])) rfl rfl)
  have kz_0_100 : 0 ≤ w_fi ws (n_v vs 0) 100 ∧ w_fi ws (n_v vs 0) 100 ≤ 76 := tv_rng (th_fd hD hth r0 (g := GG_150) rfl (k := 100) (t := (0, 0, 76, [])) rfl rfl)
  have kz_0_101 : 0 ≤ w_fi ws (n_v vs 0) 101 ∧ w_fi ws (n_v vs 0) 101 ≤ 76 := tv_rng (th_fd hD hth r0 (g := GG_150) rfl (k := 101) (t := (0, 0, 76, [])) rfl rfl)
  have kz_0_107 : 0 ≤ w_fi ws (n_v vs 0) 107 ∧ w_fi ws (n_v vs 0) 107 ≤ 130 := tv_rng (th_fd hD hth r0 (g := GG_150) rfl (k := 107) (t := (0, 0, 130, [])) rfl rfl)
  have nf0 : fc_1 PRD (20, [0], [50, 2, 0, 79, 100, 1, 3, 2, 0, 79, 2, 0, 100]) ws (vs) := by
    refine ⟨fun n hn => ?_, ?_⟩
    · have hn : n ∈ [0] := hn
      rw [hl]
      simp only [List.mem_cons, List.not_mem_nil, or_false] at hn
      show n < 5; omega
    · show w_fi ws (n_v vs 0) 79 = w_fi ws (n_v vs 0) 100
      exact vc_Mo_across2_0_0 (v_iv (n_v vs 1)) (v_iv (n_v vs 2)) (v_iv (n_v vs 3)) (v_iv (n_v vs 4)) (w_ei ws (w_ar ws (n_v vs 0) 2)) (w_ei ws (w_ar ws (n_v vs 0) 95)) (w_ei ws (w_ar ws (n_v vs 0) 102)) (w_ei ws (w_ar ws (n_v vs 0) 104)) (w_ei ws (w_ar ws (n_v vs 0) 108)) (w_ei ws (w_ar ws (n_v vs 0) 109)) (w_fi ws (n_v vs 0) 5) (w_fi ws (n_v vs 0) 100) (w_fi ws (n_v vs 0) 101) (w_fi ws (n_v vs 0) 107) (w_ei ws (w_ar ws (n_v vs 0) 105)) (w_ei ws (w_ar ws (n_v vs 0) 106)) (w_ei w1 (w_ar ws (n_v vs 0) 2)) (w_ei w1 (w_ar ws (n_v vs 0) 95)) (w_ei w1 (w_ar ws (n_v vs 0) 102)) (w_ei w1 (w_ar ws (n_v vs 0) 104)) (w_ei w1 (w_ar ws (n_v vs 0) 108)) (w_ei w1 (w_ar ws (n_v vs 0) 109)) (w_fi w1 (n_v vs 0) 5) (w_fi w1 (n_v vs 0) 100) (w_fi w1 (n_v vs 0) 101) (w_fi w1 (n_v vs 0) 107) (w_ei w1 (w_ar ws (n_v vs 0) 105)) (w_ei w1 (w_ar ws (n_v vs 0) 106)) (w_ei w2 (w_ar ws (n_v vs 0) 2)) (w_ei w2 (w_ar ws (n_v vs 0) 95)) (w_ei w2 (w_ar ws (n_v vs 0) 102)) (w_ei w2 (w_ar ws (n_v vs 0) 104)) (w_ei w2 (w_ar ws (n_v vs 0) 108)) (w_ei w2 (w_ar ws (n_v vs 0) 109)) (w_fi w2 (n_v vs 0) 5) (w_fi w2 (n_v vs 0) 100) (w_fi w2 (n_v vs 0) 101) (w_fi w2 (n_v vs 0) 107) (w_ei w2 (w_ar ws (n_v vs 0) 105)) (w_ei w2 (w_ar ws (n_v vs 0) 106)) (w_fi w3 (n_v vs 0) 100) (w_ei w3 (w_ar ws (n_v vs 0) 2)) (w_ei w3 (w_ar ws (n_v vs 0) 95)) (w_ei w3 (w_ar ws (n_v vs 0) 102)) (w_ei w3 (w_ar ws (n_v vs 0) 104)) (w_ei w3 (w_ar ws (n_v vs 0) 108)) (w_ei w3 (w_ar ws (n_v vs 0) 109)) (w_fi w3 (n_v vs 0) 5) (w_fi w3 (n_v vs 0) 101) (w_fi w3 (n_v vs 0) 107) (w_ei w3 (w_ar ws (n_v vs 0) 105)) (w_ei w3 (w_ar ws (n_v vs 0) 106)) (w_fi ws (n_v vs 0) 79) (w_fi w1 (n_v vs 0) 79) (w_fi ws (n_v vs 0) 80) (w_fi w1 (n_v vs 0) 80) (w_fi ws (n_v vs 0) 81) (w_fi w2 (n_v vs 0) 79) (w_fi w1 (n_v vs 0) 81) (w_fi w2 (n_v vs 0) 81) (w_fi w2 (n_v vs 0) 80) (w_fi w3 (n_v vs 0) 80) (w_fi w3 (n_v vs 0) 81) (w_ei ws (w_ar ws (n_v vs 0) 83)) (w_ei w1 (w_ar ws (n_v vs 0) 83)) (w_ei w2 (w_ar ws (n_v vs 0) 83)) (w_ei w3 (w_ar ws (n_v vs 0) 83)) (w_ei ws (w_ar ws (n_v vs 0) 84)) (w_ei w1 (w_ar ws (n_v vs 0) 84)) (w_ei w2 (w_ar ws (n_v vs 0) 84)) (w_ei w3 (w_ar ws (n_v vs 0) 84)) (w_ei ws (w_ar ws (n_v vs 0) 85)) (w_ei w1 (w_ar ws (n_v vs 0) 85)) (w_ei w2 (w_ar ws (n_v vs 0) 85)) (w_ei w3 (w_ar ws (n_v vs 0) 85)) (w_ei ws (w_ar ws (n_v vs 0) 86)) (w_ei w1 (w_ar ws (n_v vs 0) 86)) (w_ei w2 (w_ar ws (n_v vs 0) 86)) (w_ei w3 (w_ar ws (n_v vs 0) 86)) k1 k2 k3 k4 f0 f1 f2 f4 f5 f6 f8 f9 f10 g12 f13 f14 f15 fe_0_5_1 fe_0_79_1 fe_0_80_1 fe_0_81_1 fe_0_100_1 fe_0_101_1 fe_0_107_1 fe_0_5_2 fe_0_79_2 fe_0_80_2 fe_0_81_2 fe_0_100_2 fe_0_101_2 fe_0_107_2 fe_0_5_3 fe_0_79_3 fe_0_80_3 fe_0_81_3 fe_0_100_3 fe_0_101_3 fe_0_107_3 hE_0_2_1 hE_0_2_2 hE_0_2_3 hE_0_83_1 hE_0_83_2 hE_0_83_3 hK_0_83 hE_0_84_1 hE_0_84_2 hE_0_84_3 hK_0_84 hE_0_85_1 hE_0_85_2 hE_0_85_3 hK_0_85 hE_0_86_1 hE_0_86_2 hE_0_86_3 hK_0_86 hE_0_95_1 hE_0_95_2 hE_0_95_3 hK_0_95 hE_0_102_1 hE_0_102_2 hE_0_102_3 hK_0_102 hE_0_104_1 hE_0_104_2 hE_0_104_3 hK_0_104 hE_0_105_1 hE_0_105_2 hE_0_105_3 hK_0_105 hE_0_106_1 hE_0_106_2 hE_0_106_3 hK_0_106 hE_0_108_1 hE_0_108_2 hE_0_108_3 hK_0_108 hE_0_109_1 hE_0_109_2 hE_0_109_3 hK_0_109 kz_0_79 kz_0_80 kz_0_81 kz_0_100 kz_0_101 kz_0_107
  have nf1 : fc_1 PRD (20, [0], [60, 2, 4, 380, 79, 80, 83, 84, 85, 86]) ws (vs) := by
    refine ⟨fun n hn => ?_, ?_⟩
    · have hn : n ∈ [0] := hn
      rw [hl]
      simp only [List.mem_cons, List.not_mem_nil, or_false] at hn
      show n < 5; omega
    · show PCQ (w_fi ws (n_v vs 0) 79) (w_fi ws (n_v vs 0) 80) (w_ei ws (w_ar ws (n_v vs 0) 83)) (w_ei ws (w_ar ws (n_v vs 0) 84)) (w_ei ws (w_ar ws (n_v vs 0) 85)) (w_ei ws (w_ar ws (n_v vs 0) 86))
      exact vc_Mo_across2_0_1 (v_iv (n_v vs 1)) (v_iv (n_v vs 2)) (v_iv (n_v vs 3)) (v_iv (n_v vs 4)) (w_ei ws (w_ar ws (n_v vs 0) 2)) (w_ei ws (w_ar ws (n_v vs 0) 95)) (w_ei ws (w_ar ws (n_v vs 0) 102)) (w_ei ws (w_ar ws (n_v vs 0) 104)) (w_ei ws (w_ar ws (n_v vs 0) 108)) (w_ei ws (w_ar ws (n_v vs 0) 109)) (w_fi ws (n_v vs 0) 5) (w_fi ws (n_v vs 0) 100) (w_fi ws (n_v vs 0) 101) (w_fi ws (n_v vs 0) 107) (w_ei ws (w_ar ws (n_v vs 0) 105)) (w_ei ws (w_ar ws (n_v vs 0) 106)) (w_ei w1 (w_ar ws (n_v vs 0) 2)) (w_ei w1 (w_ar ws (n_v vs 0) 95)) (w_ei w1 (w_ar ws (n_v vs 0) 102)) (w_ei w1 (w_ar ws (n_v vs 0) 104)) (w_ei w1 (w_ar ws (n_v vs 0) 108)) (w_ei w1 (w_ar ws (n_v vs 0) 109)) (w_fi w1 (n_v vs 0) 5) (w_fi w1 (n_v vs 0) 100) (w_fi w1 (n_v vs 0) 101) (w_fi w1 (n_v vs 0) 107) (w_ei w1 (w_ar ws (n_v vs 0) 105)) (w_ei w1 (w_ar ws (n_v vs 0) 106)) (w_ei w2 (w_ar ws (n_v vs 0) 2)) (w_ei w2 (w_ar ws (n_v vs 0) 95)) (w_ei w2 (w_ar ws (n_v vs 0) 102)) (w_ei w2 (w_ar ws (n_v vs 0) 104)) (w_ei w2 (w_ar ws (n_v vs 0) 108)) (w_ei w2 (w_ar ws (n_v vs 0) 109)) (w_fi w2 (n_v vs 0) 5) (w_fi w2 (n_v vs 0) 100) (w_fi w2 (n_v vs 0) 101) (w_fi w2 (n_v vs 0) 107) (w_ei w2 (w_ar ws (n_v vs 0) 105)) (w_ei w2 (w_ar ws (n_v vs 0) 106)) (w_fi w3 (n_v vs 0) 100) (w_ei w3 (w_ar ws (n_v vs 0) 2)) (w_ei w3 (w_ar ws (n_v vs 0) 95)) (w_ei w3 (w_ar ws (n_v vs 0) 102)) (w_ei w3 (w_ar ws (n_v vs 0) 104)) (w_ei w3 (w_ar ws (n_v vs 0) 108)) (w_ei w3 (w_ar ws (n_v vs 0) 109)) (w_fi w3 (n_v vs 0) 5) (w_fi w3 (n_v vs 0) 101) (w_fi w3 (n_v vs 0) 107) (w_ei w3 (w_ar ws (n_v vs 0) 105)) (w_ei w3 (w_ar ws (n_v vs 0) 106)) (w_fi ws (n_v vs 0) 79) (w_fi w1 (n_v vs 0) 79) (w_fi ws (n_v vs 0) 80) (w_fi w1 (n_v vs 0) 80) (w_fi ws (n_v vs 0) 81) (w_fi w2 (n_v vs 0) 79) (w_fi w1 (n_v vs 0) 81) (w_fi w2 (n_v vs 0) 81) (w_fi w2 (n_v vs 0) 80) (w_fi w3 (n_v vs 0) 80) (w_fi w3 (n_v vs 0) 81) (w_ei ws (w_ar ws (n_v vs 0) 83)) (w_ei w1 (w_ar ws (n_v vs 0) 83)) (w_ei w2 (w_ar ws (n_v vs 0) 83)) (w_ei w3 (w_ar ws (n_v vs 0) 83)) (w_ei ws (w_ar ws (n_v vs 0) 84)) (w_ei w1 (w_ar ws (n_v vs 0) 84)) (w_ei w2 (w_ar ws (n_v vs 0) 84)) (w_ei w3 (w_ar ws (n_v vs 0) 84)) (w_ei ws (w_ar ws (n_v vs 0) 85)) (w_ei w1 (w_ar ws (n_v vs 0) 85)) (w_ei w2 (w_ar ws (n_v vs 0) 85)) (w_ei w3 (w_ar ws (n_v vs 0) 85)) (w_ei ws (w_ar ws (n_v vs 0) 86)) (w_ei w1 (w_ar ws (n_v vs 0) 86)) (w_ei w2 (w_ar ws (n_v vs 0) 86)) (w_ei w3 (w_ar ws (n_v vs 0) 86)) k1 k2 k3 k4 f0 f1 f2 f4 f5 f6 f8 f9 f10 g12 f13 f14 f15 fe_0_5_1 fe_0_79_1 fe_0_80_1 fe_0_81_1 fe_0_100_1 fe_0_101_1 fe_0_107_1 fe_0_5_2 fe_0_79_2 fe_0_80_2 fe_0_81_2 fe_0_100_2 fe_0_101_2 fe_0_107_2 fe_0_5_3 fe_0_79_3 fe_0_80_3 fe_0_81_3 fe_0_100_3 fe_0_101_3 fe_0_107_3 hE_0_2_1 hE_0_2_2 hE_0_2_3 hE_0_83_1 hE_0_83_2 hE_0_83_3 hK_0_83 hE_0_84_1 hE_0_84_2 hE_0_84_3 hK_0_84 hE_0_85_1 hE_0_85_2 hE_0_85_3 hK_0_85 hE_0_86_1 hE_0_86_2 hE_0_86_3 hK_0_86 hE_0_95_1 hE_0_95_2 hE_0_95_3 hK_0_95 hE_0_102_1 hE_0_102_2 hE_0_102_3 hK_0_102 hE_0_104_1 hE_0_104_2 hE_0_104_3 hK_0_104 hE_0_105_1 hE_0_105_2 hE_0_105_3 hK_0_105 hE_0_106_1 hE_0_106_2 hE_0_106_3 hK_0_106 hE_0_108_1 hE_0_108_2 hE_0_108_3 hK_0_108 hE_0_109_1 hE_0_109_2 hE_0_109_3 hK_0_109 kz_0_79 kz_0_80 kz_0_81 kz_0_100 kz_0_101 kz_0_107
  have nf2 : fc_1 PRD (20, [0, 4], [50, 1, 0, 80, 1, 3, 2, 0, 80, 1, 1]) ws (vs) := by
    refine ⟨fun n hn => ?_, ?_⟩
    · have hn : n ∈ [0, 4] := hn
      rw [hl]
      simp only [List.mem_cons, List.not_mem_nil, or_false] at hn
      show n < 5; omega
    · show w_fi ws (n_v vs 0) 80 = v_iv (n_v vs 4)
      exact vc_Mo_across2_0_2 (v_iv (n_v vs 1)) (v_iv (n_v vs 2)) (v_iv (n_v vs 3)) (v_iv (n_v vs 4)) (w_ei ws (w_ar ws (n_v vs 0) 2)) (w_ei ws (w_ar ws (n_v vs 0) 95)) (w_ei ws (w_ar ws (n_v vs 0) 102)) (w_ei ws (w_ar ws (n_v vs 0) 104)) (w_ei ws (w_ar ws (n_v vs 0) 108)) (w_ei ws (w_ar ws (n_v vs 0) 109)) (w_fi ws (n_v vs 0) 5) (w_fi ws (n_v vs 0) 100) (w_fi ws (n_v vs 0) 101) (w_fi ws (n_v vs 0) 107) (w_ei ws (w_ar ws (n_v vs 0) 105)) (w_ei ws (w_ar ws (n_v vs 0) 106)) (w_ei w1 (w_ar ws (n_v vs 0) 2)) (w_ei w1 (w_ar ws (n_v vs 0) 95)) (w_ei w1 (w_ar ws (n_v vs 0) 102)) (w_ei w1 (w_ar ws (n_v vs 0) 104)) (w_ei w1 (w_ar ws (n_v vs 0) 108)) (w_ei w1 (w_ar ws (n_v vs 0) 109)) (w_fi w1 (n_v vs 0) 5) (w_fi w1 (n_v vs 0) 100) (w_fi w1 (n_v vs 0) 101) (w_fi w1 (n_v vs 0) 107) (w_ei w1 (w_ar ws (n_v vs 0) 105)) (w_ei w1 (w_ar ws (n_v vs 0) 106)) (w_ei w2 (w_ar ws (n_v vs 0) 2)) (w_ei w2 (w_ar ws (n_v vs 0) 95)) (w_ei w2 (w_ar ws (n_v vs 0) 102)) (w_ei w2 (w_ar ws (n_v vs 0) 104)) (w_ei w2 (w_ar ws (n_v vs 0) 108)) (w_ei w2 (w_ar ws (n_v vs 0) 109)) (w_fi w2 (n_v vs 0) 5) (w_fi w2 (n_v vs 0) 100) (w_fi w2 (n_v vs 0) 101) (w_fi w2 (n_v vs 0) 107) (w_ei w2 (w_ar ws (n_v vs 0) 105)) (w_ei w2 (w_ar ws (n_v vs 0) 106)) (w_fi w3 (n_v vs 0) 100) (w_ei w3 (w_ar ws (n_v vs 0) 2)) (w_ei w3 (w_ar ws (n_v vs 0) 95)) (w_ei w3 (w_ar ws (n_v vs 0) 102)) (w_ei w3 (w_ar ws (n_v vs 0) 104)) (w_ei w3 (w_ar ws (n_v vs 0) 108)) (w_ei w3 (w_ar ws (n_v vs 0) 109)) (w_fi w3 (n_v vs 0) 5) (w_fi w3 (n_v vs 0) 101) (w_fi w3 (n_v vs 0) 107) (w_ei w3 (w_ar ws (n_v vs 0) 105)) (w_ei w3 (w_ar ws (n_v vs 0) 106)) (w_fi ws (n_v vs 0) 79) (w_fi w1 (n_v vs 0) 79) (w_fi ws (n_v vs 0) 80) (w_fi w1 (n_v vs 0) 80) (w_fi ws (n_v vs 0) 81) (w_fi w2 (n_v vs 0) 79) (w_fi w1 (n_v vs 0) 81) (w_fi w2 (n_v vs 0) 81) (w_fi w2 (n_v vs 0) 80) (w_fi w3 (n_v vs 0) 80) (w_fi w3 (n_v vs 0) 81) (w_ei ws (w_ar ws (n_v vs 0) 83)) (w_ei w1 (w_ar ws (n_v vs 0) 83)) (w_ei w2 (w_ar ws (n_v vs 0) 83)) (w_ei w3 (w_ar ws (n_v vs 0) 83)) (w_ei ws (w_ar ws (n_v vs 0) 84)) (w_ei w1 (w_ar ws (n_v vs 0) 84)) (w_ei w2 (w_ar ws (n_v vs 0) 84)) (w_ei w3 (w_ar ws (n_v vs 0) 84)) (w_ei ws (w_ar ws (n_v vs 0) 85)) (w_ei w1 (w_ar ws (n_v vs 0) 85)) (w_ei w2 (w_ar ws (n_v vs 0) 85)) (w_ei w3 (w_ar ws (n_v vs 0) 85)) (w_ei ws (w_ar ws (n_v vs 0) 86)) (w_ei w1 (w_ar ws (n_v vs 0) 86)) (w_ei w2 (w_ar ws (n_v vs 0) 86)) (w_ei w3 (w_ar ws (n_v vs 0) 86)) k1 k2 k3 k4 f0 f1 f2 f4 f5 f6 f8 f9 f10 g12 f13 f14 f15 fe_0_5_1 fe_0_79_1 fe_0_80_1 fe_0_81_1 fe_0_100_1 fe_0_101_1 fe_0_107_1 fe_0_5_2 fe_0_79_2 fe_0_80_2 fe_0_81_2 fe_0_100_2 fe_0_101_2 fe_0_107_2 fe_0_5_3 fe_0_79_3 fe_0_80_3 fe_0_81_3 fe_0_100_3 fe_0_101_3 fe_0_107_3 hE_0_2_1 hE_0_2_2 hE_0_2_3 hE_0_83_1 hE_0_83_2 hE_0_83_3 hK_0_83 hE_0_84_1 hE_0_84_2 hE_0_84_3 hK_0_84 hE_0_85_1 hE_0_85_2 hE_0_85_3 hK_0_85 hE_0_86_1 hE_0_86_2 hE_0_86_3 hK_0_86 hE_0_95_1 hE_0_95_2 hE_0_95_3 hK_0_95 hE_0_102_1 hE_0_102_2 hE_0_102_3 hK_0_102 hE_0_104_1 hE_0_104_2 hE_0_104_3 hK_0_104 hE_0_105_1 hE_0_105_2 hE_0_105_3 hK_0_105 hE_0_106_1 hE_0_106_2 hE_0_106_3 hK_0_106 hE_0_108_1 hE_0_108_2 hE_0_108_3 hK_0_108 hE_0_109_1 hE_0_109_2 hE_0_109_3 hK_0_109 kz_0_79 kz_0_80 kz_0_81 kz_0_100 kz_0_101 kz_0_107
  have nf3 : fc_1 PRD (20, [0], [50, 1, 0, 81, 1, 3, 2, 0, 81, 0, 0]) ws (vs) := by
    refine ⟨fun n hn => ?_, ?_⟩
    · have hn : n ∈ [0] := hn
      rw [hl]
      simp only [List.mem_cons, List.not_mem_nil, or_false] at hn
      show n < 5; omega
    · show w_fi ws (n_v vs 0) 81 = 0
      exact vc_Mo_across2_0_3 (v_iv (n_v vs 1)) (v_iv (n_v vs 2)) (v_iv (n_v vs 3)) (v_iv (n_v vs 4)) (w_ei ws (w_ar ws (n_v vs 0) 2)) (w_ei ws (w_ar ws (n_v vs 0) 95)) (w_ei ws (w_ar ws (n_v vs 0) 102)) (w_ei ws (w_ar ws (n_v vs 0) 104)) (w_ei ws (w_ar ws (n_v vs 0) 108)) (w_ei ws (w_ar ws (n_v vs 0) 109)) (w_fi ws (n_v vs 0) 5) (w_fi ws (n_v vs 0) 100) (w_fi ws (n_v vs 0) 101) (w_fi ws (n_v vs 0) 107) (w_ei ws (w_ar ws (n_v vs 0) 105)) (w_ei ws (w_ar ws (n_v vs 0) 106)) (w_ei w1 (w_ar ws (n_v vs 0) 2)) (w_ei w1 (w_ar ws (n_v vs 0) 95)) (w_ei w1 (w_ar ws (n_v vs 0) 102)) (w_ei w1 (w_ar ws (n_v vs 0) 104)) (w_ei w1 (w_ar ws (n_v vs 0) 108)) (w_ei w1 (w_ar ws (n_v vs 0) 109)) (w_fi w1 (n_v vs 0) 5) (w_fi w1 (n_v vs 0) 100) (w_fi w1 (n_v vs 0) 101) (w_fi w1 (n_v vs 0) 107) (w_ei w1 (w_ar ws (n_v vs 0) 105)) (w_ei w1 (w_ar ws (n_v vs 0) 106)) (w_ei w2 (w_ar ws (n_v vs 0) 2)) (w_ei w2 (w_ar ws (n_v vs 0) 95)) (w_ei w2 (w_ar ws (n_v vs 0) 102)) (w_ei w2 (w_ar ws (n_v vs 0) 104)) (w_ei w2 (w_ar ws (n_v vs 0) 108)) (w_ei w2 (w_ar ws (n_v vs 0) 109)) (w_fi w2 (n_v vs 0) 5) (w_fi w2 (n_v vs 0) 100) (w_fi w2 (n_v vs 0) 101) (w_fi w2 (n_v vs 0) 107) (w_ei w2 (w_ar ws (n_v vs 0) 105)) (w_ei w2 (w_ar ws (n_v vs 0) 106)) (w_fi w3 (n_v vs 0) 100) (w_ei w3 (w_ar ws (n_v vs 0) 2)) (w_ei w3 (w_ar ws (n_v vs 0) 95)) (w_ei w3 (w_ar ws (n_v vs 0) 102)) (w_ei w3 (w_ar ws (n_v vs 0) 104)) (w_ei w3 (w_ar ws (n_v vs 0) 108)) (w_ei w3 (w_ar ws (n_v vs 0) 109)) (w_fi w3 (n_v vs 0) 5) (w_fi w3 (n_v vs 0) 101) (w_fi w3 (n_v vs 0) 107) (w_ei w3 (w_ar ws (n_v vs 0) 105)) (w_ei w3 (w_ar ws (n_v vs 0) 106)) (w_fi ws (n_v vs 0) 79) (w_fi w1 (n_v vs 0) 79) (w_fi ws (n_v vs 0) 80) (w_fi w1 (n_v vs 0) 80) (w_fi ws (n_v vs 0) 81) (w_fi w2 (n_v vs 0) 79) (w_fi w1 (n_v vs 0) 81) (w_fi w2 (n_v vs 0) 81) (w_fi w2 (n_v vs 0) 80) (w_fi w3 (n_v vs 0) 80) (w_fi w3 (n_v vs 0) 81) (w_ei ws (w_ar ws (n_v vs 0) 83)) (w_ei w1 (w_ar ws (n_v vs 0) 83)) (w_ei w2 (w_ar ws (n_v vs 0) 83)) (w_ei w3 (w_ar ws (n_v vs 0) 83)) (w_ei ws (w_ar ws (n_v vs 0) 84)) (w_ei w1 (w_ar ws (n_v vs 0) 84)) (w_ei w2 (w_ar ws (n_v vs 0) 84)) (w_ei w3 (w_ar ws (n_v vs 0) 84)) (w_ei ws (w_ar ws (n_v vs 0) 85)) (w_ei w1 (w_ar ws (n_v vs 0) 85)) (w_ei w2 (w_ar ws (n_v vs 0) 85)) (w_ei w3 (w_ar ws (n_v vs 0) 85)) (w_ei ws (w_ar ws (n_v vs 0) 86)) (w_ei w1 (w_ar ws (n_v vs 0) 86)) (w_ei w2 (w_ar ws (n_v vs 0) 86)) (w_ei w3 (w_ar ws (n_v vs 0) 86)) k1 k2 k3 k4 f0 f1 f2 f4 f5 f6 f8 f9 f10 g12 f13 f14 f15 fe_0_5_1 fe_0_79_1 fe_0_80_1 fe_0_81_1 fe_0_100_1 fe_0_101_1 fe_0_107_1 fe_0_5_2 fe_0_79_2 fe_0_80_2 fe_0_81_2 fe_0_100_2 fe_0_101_2 fe_0_107_2 fe_0_5_3 fe_0_79_3 fe_0_80_3 fe_0_81_3 fe_0_100_3 fe_0_101_3 fe_0_107_3 hE_0_2_1 hE_0_2_2 hE_0_2_3 hE_0_83_1 hE_0_83_2 hE_0_83_3 hK_0_83 hE_0_84_1 hE_0_84_2 hE_0_84_3 hK_0_84 hE_0_85_1 hE_0_85_2 hE_0_85_3 hK_0_85 hE_0_86_1 hE_0_86_2 hE_0_86_3 hK_0_86 hE_0_95_1 hE_0_95_2 hE_0_95_3 hK_0_95 hE_0_102_1 hE_0_102_2 hE_0_102_3 hK_0_102 hE_0_104_1 hE_0_104_2 hE_0_104_3 hK_0_104 hE_0_105_1 hE_0_105_2 hE_0_105_3 hK_0_105 hE_0_106_1 hE_0_106_2 hE_0_106_3 hK_0_106 hE_0_108_1 hE_0_108_2 hE_0_108_3 hK_0_108 hE_0_109_1 hE_0_109_2 hE_0_109_3 hK_0_109 kz_0_79 kz_0_80 kz_0_81 kz_0_100 kz_0_101 kz_0_107
  have nf4 : fc_1 PRD (24, [0, 0], []) ws (vs) := by
    refine ⟨fun n hn => ?_, ?_⟩
    · have hn : n ∈ [0, 0] := hn
      rw [hl]
      simp only [List.mem_cons, List.not_mem_nil, or_false] at hn
      show n < 5; omega
    · show n_v vs 0 = n_v vs 0
      first | rfl | simp only [true_and]
  refine ⟨(fun _ h => (by cases h)), [], trivial, ?_, (fun _ h => (by cases h))⟩
  rw [List.append_nil]
  exact List.forall_mem_cons.mpr ⟨⟨show (20 : Nat) < 100 from by decide, nf0⟩, List.forall_mem_cons.mpr ⟨⟨show (20 : Nat) < 100 from by decide, nf1⟩, List.forall_mem_cons.mpr ⟨⟨show (20 : Nat) < 100 from by decide, nf2⟩, List.forall_mem_cons.mpr ⟨⟨show (20 : Nat) < 100 from by decide, nf3⟩, List.forall_mem_cons.mpr ⟨⟨show (24 : Nat) < 100 from by decide, nf4⟩, (fun _ h => (by cases h))⟩⟩⟩⟩⟩
set_option maxHeartbeats 4000000 in
theorem vc_Mo_across2_1_0 (x2 : Int) (x3 : Int) (x4 : Int) (lines_0 : Int) (all_0 : Int → Int) (turned_0 : Int → Int) (itemLayer_0 : Int → Int) (firstJoint_0 : Int → Int) (lineA_0 : Int → Int) (lineB_0 : Int → Int) (r_0 : Int) (items_0 : Int) (layerMany_0 : Int) (layerSize_0 : Int → Int) (layerItem_0 : Int → Int) (pointMany_0 : Int) (costA_0 : Int → Int) (costB_0 : Int → Int) (costW_0 : Int → Int) (costPlain_0 : Int → Int) (costMany_0 : Int) (apartMany_0 : Int) (apartA_0 : Int → Int) (apartB_0 : Int → Int) (apart_0 : Int → Int) (k2 : 0 ≤ x2 ∧ x2 ≤ 130) (k3 : 0 ≤ x3 ∧ x3 ≤ 130) (k4 : 0 ≤ x4 ∧ x4 ≤ 0) (d0 : x3 + 0 ≤ x2 ∧ x2 ≤ x3 + 4294967296) (f0 : x3 ≤ x2) (g1 : x3 = lines_0) (f2 : LSA (r_0) (items_0) (layerMany_0) (lines_0) (all_0) (turned_0) (itemLayer_0) (firstJoint_0) (lineA_0) (lineB_0)) (f3 : LSB (items_0) (layerMany_0) (itemLayer_0) (layerSize_0) (layerItem_0)) (f4 : SGR (r_0) (all_0)) (f5 : pointMany_0 = items_0) (f6 : PCQ (pointMany_0) (costMany_0) (costA_0) (costB_0) (costW_0) (costPlain_0)) (f7 : costMany_0 = x2) (f8 : apartMany_0 = 0) (hK_0_83 : ∀ j : Int, 0 ≤ j → j < 200 → 0 ≤ costA_0 j ∧ costA_0 j ≤ 75) (hK_0_84 : ∀ j : Int, 0 ≤ j → j < 200 → 0 ≤ costB_0 j ∧ costB_0 j ≤ 75) (hK_0_85 : ∀ j : Int, 0 ≤ j → j < 200 → 0 ≤ costW_0 j ∧ costW_0 j ≤ 72) (hK_0_86 : ∀ j : Int, 0 ≤ j → j < 200 → 0 ≤ costPlain_0 j ∧ costPlain_0 j ≤ 1) (hK_0_87 : ∀ j : Int, 0 ≤ j → j < 200 → 0 ≤ apartA_0 j ∧ apartA_0 j ≤ 75) (hK_0_88 : ∀ j : Int, 0 ≤ j → j < 200 → 0 ≤ apartB_0 j ∧ apartB_0 j ≤ 75) (hK_0_89 : ∀ j : Int, 0 ≤ j → j < 200 → 0 ≤ apart_0 j ∧ apart_0 j ≤ 202) (hK_0_95 : ∀ j : Int, 0 ≤ j → j < 48 → 0 ≤ turned_0 j ∧ turned_0 j ≤ 1) (hK_0_102 : ∀ j : Int, 0 ≤ j → j < 76 → 0 ≤ itemLayer_0 j ∧ itemLayer_0 j ≤ 75) (hK_0_104 : ∀ j : Int, 0 ≤ j → j < 48 → 0 ≤ firstJoint_0 j ∧ firstJoint_0 j ≤ 76) (hK_0_105 : ∀ j : Int, 0 ≤ j → j < 76 → 0 ≤ layerSize_0 j ∧ layerSize_0 j ≤ 76) (hK_0_106 : ∀ j : Int, 0 ≤ j → j < 5776 → 0 ≤ layerItem_0 j ∧ layerItem_0 j ≤ 75) (hK_0_108 : ∀ j : Int, 0 ≤ j → j < 130 → 0 ≤ lineA_0 j ∧ lineA_0 j ≤ 75) (hK_0_109 : ∀ j : Int, 0 ≤ j → j < 130 → 0 ≤ lineB_0 j ∧ lineB_0 j ≤ 75) (kz_0_79 : 0 ≤ pointMany_0 ∧ pointMany_0 ≤ 76) (kz_0_80 : 0 ≤ costMany_0 ∧ costMany_0 ≤ 200) (kz_0_81 : 0 ≤ apartMany_0 ∧ apartMany_0 ≤ 200) (kz_0_100 : 0 ≤ items_0 ∧ items_0 ≤ 76) (kz_0_101 : 0 ≤ layerMany_0 ∧ layerMany_0 ≤ 76) (kz_0_107 : 0 ≤ lines_0 ∧ lines_0 ≤ 130) : costMany_0 ≤ 130 := by
  try simp only [Int.add_zero] at *
  first
    | omega
    | (have h := ‹LSA _ _ _ _ _ _ _ _ _ _›.2.1; omega)
    | (have h := lsa_la (p := x2) (x := x15) ‹LSA _ _ _ _ _ _ _ _ _ _› (by omega) (by omega) (by assumption); omega)
    | (have h := lsa_lb (p := x2) (x := x16) ‹LSA _ _ _ _ _ _ _ _ _ _› (by omega) (by omega) (by assumption); omega)
set_option maxHeartbeats 4000000 in
theorem vc_Mo_across2_1_1 (x2 : Int) (x3 : Int) (x4 : Int) (lines_0 : Int) (all_0 : Int → Int) (turned_0 : Int → Int) (itemLayer_0 : Int → Int) (firstJoint_0 : Int → Int) (lineA_0 : Int → Int) (lineB_0 : Int → Int) (r_0 : Int) (items_0 : Int) (layerMany_0 : Int) (layerSize_0 : Int → Int) (layerItem_0 : Int → Int) (pointMany_0 : Int) (costA_0 : Int → Int) (costB_0 : Int → Int) (costW_0 : Int → Int) (costPlain_0 : Int → Int) (costMany_0 : Int) (apartMany_0 : Int) (apartA_0 : Int → Int) (apartB_0 : Int → Int) (apart_0 : Int → Int) (k2 : 0 ≤ x2 ∧ x2 ≤ 130) (k3 : 0 ≤ x3 ∧ x3 ≤ 130) (k4 : 0 ≤ x4 ∧ x4 ≤ 0) (d0 : x3 + 0 ≤ x2 ∧ x2 ≤ x3 + 4294967296) (f0 : x3 ≤ x2) (g1 : x3 = lines_0) (f2 : LSA (r_0) (items_0) (layerMany_0) (lines_0) (all_0) (turned_0) (itemLayer_0) (firstJoint_0) (lineA_0) (lineB_0)) (f3 : LSB (items_0) (layerMany_0) (itemLayer_0) (layerSize_0) (layerItem_0)) (f4 : SGR (r_0) (all_0)) (f5 : pointMany_0 = items_0) (f6 : PCQ (pointMany_0) (costMany_0) (costA_0) (costB_0) (costW_0) (costPlain_0)) (f7 : costMany_0 = x2) (f8 : apartMany_0 = 0) (hK_0_83 : ∀ j : Int, 0 ≤ j → j < 200 → 0 ≤ costA_0 j ∧ costA_0 j ≤ 75) (hK_0_84 : ∀ j : Int, 0 ≤ j → j < 200 → 0 ≤ costB_0 j ∧ costB_0 j ≤ 75) (hK_0_85 : ∀ j : Int, 0 ≤ j → j < 200 → 0 ≤ costW_0 j ∧ costW_0 j ≤ 72) (hK_0_86 : ∀ j : Int, 0 ≤ j → j < 200 → 0 ≤ costPlain_0 j ∧ costPlain_0 j ≤ 1) (hK_0_87 : ∀ j : Int, 0 ≤ j → j < 200 → 0 ≤ apartA_0 j ∧ apartA_0 j ≤ 75) (hK_0_88 : ∀ j : Int, 0 ≤ j → j < 200 → 0 ≤ apartB_0 j ∧ apartB_0 j ≤ 75) (hK_0_89 : ∀ j : Int, 0 ≤ j → j < 200 → 0 ≤ apart_0 j ∧ apart_0 j ≤ 202) (hK_0_95 : ∀ j : Int, 0 ≤ j → j < 48 → 0 ≤ turned_0 j ∧ turned_0 j ≤ 1) (hK_0_102 : ∀ j : Int, 0 ≤ j → j < 76 → 0 ≤ itemLayer_0 j ∧ itemLayer_0 j ≤ 75) (hK_0_104 : ∀ j : Int, 0 ≤ j → j < 48 → 0 ≤ firstJoint_0 j ∧ firstJoint_0 j ≤ 76) (hK_0_105 : ∀ j : Int, 0 ≤ j → j < 76 → 0 ≤ layerSize_0 j ∧ layerSize_0 j ≤ 76) (hK_0_106 : ∀ j : Int, 0 ≤ j → j < 5776 → 0 ≤ layerItem_0 j ∧ layerItem_0 j ≤ 75) (hK_0_108 : ∀ j : Int, 0 ≤ j → j < 130 → 0 ≤ lineA_0 j ∧ lineA_0 j ≤ 75) (hK_0_109 : ∀ j : Int, 0 ≤ j → j < 130 → 0 ≤ lineB_0 j ∧ lineB_0 j ≤ 75) (kz_0_79 : 0 ≤ pointMany_0 ∧ pointMany_0 ≤ 76) (kz_0_80 : 0 ≤ costMany_0 ∧ costMany_0 ≤ 200) (kz_0_81 : 0 ≤ apartMany_0 ∧ apartMany_0 ≤ 200) (kz_0_100 : 0 ≤ items_0 ∧ items_0 ≤ 76) (kz_0_101 : 0 ≤ layerMany_0 ∧ layerMany_0 ≤ 76) (kz_0_107 : 0 ≤ lines_0 ∧ lines_0 ≤ 130) : PAL1 (apartMany_0) (layerMany_0) (layerSize_0) (layerItem_0) (apartA_0) (apartB_0) (apart_0) (x4) := by
  first
    | exact paq_zero (by omega)
    | exact paq_less ‹PAL2 _ _ _ _ _ _ _ _ _› (by omega)
set_option maxHeartbeats 4000000 in
theorem vc_Mo_across2_1_2 (x2 : Int) (x3 : Int) (x4 : Int) (lines_0 : Int) (all_0 : Int → Int) (turned_0 : Int → Int) (itemLayer_0 : Int → Int) (firstJoint_0 : Int → Int) (lineA_0 : Int → Int) (lineB_0 : Int → Int) (r_0 : Int) (items_0 : Int) (layerMany_0 : Int) (layerSize_0 : Int → Int) (layerItem_0 : Int → Int) (pointMany_0 : Int) (costA_0 : Int → Int) (costB_0 : Int → Int) (costW_0 : Int → Int) (costPlain_0 : Int → Int) (costMany_0 : Int) (apartMany_0 : Int) (apartA_0 : Int → Int) (apartB_0 : Int → Int) (apart_0 : Int → Int) (k2 : 0 ≤ x2 ∧ x2 ≤ 130) (k3 : 0 ≤ x3 ∧ x3 ≤ 130) (k4 : 0 ≤ x4 ∧ x4 ≤ 0) (d0 : x3 + 0 ≤ x2 ∧ x2 ≤ x3 + 4294967296) (f0 : x3 ≤ x2) (g1 : x3 = lines_0) (f2 : LSA (r_0) (items_0) (layerMany_0) (lines_0) (all_0) (turned_0) (itemLayer_0) (firstJoint_0) (lineA_0) (lineB_0)) (f3 : LSB (items_0) (layerMany_0) (itemLayer_0) (layerSize_0) (layerItem_0)) (f4 : SGR (r_0) (all_0)) (f5 : pointMany_0 = items_0) (f6 : PCQ (pointMany_0) (costMany_0) (costA_0) (costB_0) (costW_0) (costPlain_0)) (f7 : costMany_0 = x2) (f8 : apartMany_0 = 0) (hK_0_83 : ∀ j : Int, 0 ≤ j → j < 200 → 0 ≤ costA_0 j ∧ costA_0 j ≤ 75) (hK_0_84 : ∀ j : Int, 0 ≤ j → j < 200 → 0 ≤ costB_0 j ∧ costB_0 j ≤ 75) (hK_0_85 : ∀ j : Int, 0 ≤ j → j < 200 → 0 ≤ costW_0 j ∧ costW_0 j ≤ 72) (hK_0_86 : ∀ j : Int, 0 ≤ j → j < 200 → 0 ≤ costPlain_0 j ∧ costPlain_0 j ≤ 1) (hK_0_87 : ∀ j : Int, 0 ≤ j → j < 200 → 0 ≤ apartA_0 j ∧ apartA_0 j ≤ 75) (hK_0_88 : ∀ j : Int, 0 ≤ j → j < 200 → 0 ≤ apartB_0 j ∧ apartB_0 j ≤ 75) (hK_0_89 : ∀ j : Int, 0 ≤ j → j < 200 → 0 ≤ apart_0 j ∧ apart_0 j ≤ 202) (hK_0_95 : ∀ j : Int, 0 ≤ j → j < 48 → 0 ≤ turned_0 j ∧ turned_0 j ≤ 1) (hK_0_102 : ∀ j : Int, 0 ≤ j → j < 76 → 0 ≤ itemLayer_0 j ∧ itemLayer_0 j ≤ 75) (hK_0_104 : ∀ j : Int, 0 ≤ j → j < 48 → 0 ≤ firstJoint_0 j ∧ firstJoint_0 j ≤ 76) (hK_0_105 : ∀ j : Int, 0 ≤ j → j < 76 → 0 ≤ layerSize_0 j ∧ layerSize_0 j ≤ 76) (hK_0_106 : ∀ j : Int, 0 ≤ j → j < 5776 → 0 ≤ layerItem_0 j ∧ layerItem_0 j ≤ 75) (hK_0_108 : ∀ j : Int, 0 ≤ j → j < 130 → 0 ≤ lineA_0 j ∧ lineA_0 j ≤ 75) (hK_0_109 : ∀ j : Int, 0 ≤ j → j < 130 → 0 ≤ lineB_0 j ∧ lineB_0 j ≤ 75) (kz_0_79 : 0 ≤ pointMany_0 ∧ pointMany_0 ≤ 76) (kz_0_80 : 0 ≤ costMany_0 ∧ costMany_0 ≤ 200) (kz_0_81 : 0 ≤ apartMany_0 ∧ apartMany_0 ≤ 200) (kz_0_100 : 0 ≤ items_0 ∧ items_0 ≤ 76) (kz_0_101 : 0 ≤ layerMany_0 ∧ layerMany_0 ≤ 76) (kz_0_107 : 0 ≤ lines_0 ∧ lines_0 ≤ 130) : apartMany_0 ≤ 76 := by
  try simp only [Int.add_zero] at *
  first
    | omega
    | (have h := ‹LSA _ _ _ _ _ _ _ _ _ _›.2.1; omega)
    | (have h := lsa_la (p := x2) (x := x15) ‹LSA _ _ _ _ _ _ _ _ _ _› (by omega) (by omega) (by assumption); omega)
    | (have h := lsa_lb (p := x2) (x := x16) ‹LSA _ _ _ _ _ _ _ _ _ _› (by omega) (by omega) (by assumption); omega)
def o_Mo_across2_1 : or_T := (178, 5, [(0, (2, 0, 0, [150])), (1, (2, 0, 0, [150])), (2, (0, 0, 130, [])), (3, (0, 0, 130, [])), (4, (0, 0, 0, []))], [(7, [2, 3], [3]), (9, [3, 1], [107]), (20, [1], [60, 4, 6, 369, 5, 100, 101, 107, 2, 95, 102, 104, 108, 109]), (20, [1], [60, 2, 3, 372, 100, 101, 102, 105, 106]), (20, [1], [60, 1, 1, 122, 5, 2]), (20, [1], [50, 2, 0, 79, 100, 1, 3, 2, 0, 79, 2, 0, 100]), (20, [1], [60, 2, 4, 380, 79, 80, 83, 84, 85, 86]), (20, [1, 2], [50, 1, 0, 80, 1, 3, 2, 0, 80, 1, 1]), (20, [1], [50, 1, 0, 81, 1, 3, 2, 0, 81, 0, 0]), (24, [0, 1], [])], [], [], [(20, [1], [50, 1, 0, 80, 0, 3, 2, 0, 80, 0, 130]), (20, [1, 4], [60, 2, 5, 392, 81, 101, 105, 106, 87, 88, 89]), (20, [1], [50, 1, 0, 81, 0, 3, 2, 0, 81, 0, 76])], [], [(2, 3, 0, 4294967296)])
theorem oo_Mo_across2_1 {kA : Nat → ClassId} : or_ok PRD kA GG o_Mo_across2_1 := by
  intro A ta ws vs hD hth hl hk hds hf
  have hl : vs.length = 5 := hl
  have hk : ∀ q ∈ ([(0, (2, 0, 0, [150])), (1, (2, 0, 0, [150])), (2, (0, 0, 130, [])), (3, (0, 0, 130, [])), (4, (0, 0, 0, []))] : List (Nat × tv_T)), tv_ok ta q.2 (n_v vs q.1) := hk
  obtain ⟨t0, hk⟩ := List.forall_mem_cons.mp hk
  have t0 : tv_ok ta (2, 0, 0, [150]) (n_v vs 0) := t0
  have r0 : ta (v_ad (n_v vs 0)) = some 150 := tv_rg t0
  obtain ⟨t1, hk⟩ := List.forall_mem_cons.mp hk
  have t1 : tv_ok ta (2, 0, 0, [150]) (n_v vs 1) := t1
  have r1 : ta (v_ad (n_v vs 1)) = some 150 := tv_rg t1
  obtain ⟨t2, hk⟩ := List.forall_mem_cons.mp hk
  have t2 : tv_ok ta (0, 0, 130, []) (n_v vs 2) := t2
  have k2 : 0 ≤ v_iv (n_v vs 2) ∧ v_iv (n_v vs 2) ≤ 130 := tv_rng t2
  obtain ⟨t3, hk⟩ := List.forall_mem_cons.mp hk
  have t3 : tv_ok ta (0, 0, 130, []) (n_v vs 3) := t3
  have k3 : 0 ≤ v_iv (n_v vs 3) ∧ v_iv (n_v vs 3) ≤ 130 := tv_rng t3
  obtain ⟨t4, hk⟩ := List.forall_mem_cons.mp hk
  have t4 : tv_ok ta (0, 0, 0, []) (n_v vs 4) := t4
  have k4 : 0 ≤ v_iv (n_v vs 4) ∧ v_iv (n_v vs 4) ≤ 0 := tv_rng t4
  have hds : ∀ q ∈ ([(2, 3, 0, 4294967296)] : List of_T), n_iv vs q.2.1 + q.2.2.1 ≤ n_iv vs q.1 ∧ n_iv vs q.1 ≤ n_iv vs q.2.1 + q.2.2.2 := hds
  obtain ⟨d0, hds⟩ := List.forall_mem_cons.mp hds
  have d0 : v_iv (n_v vs 3) + 0 ≤ v_iv (n_v vs 2) ∧ v_iv (n_v vs 2) ≤ v_iv (n_v vs 3) + 4294967296 := d0
  have hf : fc_ok PRD [(7, [2, 3], [3]), (9, [3, 1], [107]), (20, [1], [60, 4, 6, 369, 5, 100, 101, 107, 2, 95, 102, 104, 108, 109]), (20, [1], [60, 2, 3, 372, 100, 101, 102, 105, 106]), (20, [1], [60, 1, 1, 122, 5, 2]), (20, [1], [50, 2, 0, 79, 100, 1, 3, 2, 0, 79, 2, 0, 100]), (20, [1], [60, 2, 4, 380, 79, 80, 83, 84, 85, 86]), (20, [1, 2], [50, 1, 0, 80, 1, 3, 2, 0, 80, 1, 1]), (20, [1], [50, 1, 0, 81, 1, 3, 2, 0, 81, 0, 0]), (24, [0, 1], [])] ta ws vs := hf
  obtain ⟨f0, hf⟩ := fc_un (show (7 : Nat) < 100 from by decide) hf
  have f0 : v_iv (n_v vs 3) ≤ v_iv (n_v vs 2) := f0
  obtain ⟨f1, hf⟩ := fc_un (show (9 : Nat) < 100 from by decide) hf
  have f1 : n_v vs 3 = w_fd ws (v_ad (n_v vs 1)) 107 := f1
  obtain ⟨f2, hf⟩ := fc_un (show (20 : Nat) < 100 from by decide) hf
  have f2 : LSA (w_fi ws (n_v vs 1) 5) (w_fi ws (n_v vs 1) 100) (w_fi ws (n_v vs 1) 101) (w_fi ws (n_v vs 1) 107) (w_ei ws (w_ar ws (n_v vs 1) 2)) (w_ei ws (w_ar ws (n_v vs 1) 95)) (w_ei ws (w_ar ws (n_v vs 1) 102)) (w_ei ws (w_ar ws (n_v vs 1) 104)) (w_ei ws (w_ar ws (n_v vs 1) 108)) (w_ei ws (w_ar ws (n_v vs 1) 109)) := f2
  obtain ⟨f3, hf⟩ := fc_un (show (20 : Nat) < 100 from by decide) hf
  have f3 : LSB (w_fi ws (n_v vs 1) 100) (w_fi ws (n_v vs 1) 101) (w_ei ws (w_ar ws (n_v vs 1) 102)) (w_ei ws (w_ar ws (n_v vs 1) 105)) (w_ei ws (w_ar ws (n_v vs 1) 106)) := f3
  obtain ⟨f4, hf⟩ := fc_un (show (20 : Nat) < 100 from by decide) hf
  have f4 : SGR (w_fi ws (n_v vs 1) 5) (w_ei ws (w_ar ws (n_v vs 1) 2)) := f4
  obtain ⟨f5, hf⟩ := fc_un (show (20 : Nat) < 100 from by decide) hf
  have f5 : w_fi ws (n_v vs 1) 79 = w_fi ws (n_v vs 1) 100 := f5
  obtain ⟨f6, hf⟩ := fc_un (show (20 : Nat) < 100 from by decide) hf
  have f6 : PCQ (w_fi ws (n_v vs 1) 79) (w_fi ws (n_v vs 1) 80) (w_ei ws (w_ar ws (n_v vs 1) 83)) (w_ei ws (w_ar ws (n_v vs 1) 84)) (w_ei ws (w_ar ws (n_v vs 1) 85)) (w_ei ws (w_ar ws (n_v vs 1) 86)) := f6
  obtain ⟨f7, hf⟩ := fc_un (show (20 : Nat) < 100 from by decide) hf
  have f7 : w_fi ws (n_v vs 1) 80 = v_iv (n_v vs 2) := f7
  obtain ⟨f8, hf⟩ := fc_un (show (20 : Nat) < 100 from by decide) hf
  have f8 : w_fi ws (n_v vs 1) 81 = 0 := f8
  obtain ⟨f9, hf⟩ := fc_un (show (24 : Nat) < 100 from by decide) hf
  have f9 : n_v vs 0 = n_v vs 1 := f9
  have q1 : n_v vs 1 = n_v vs 0 := f9.symm
  rw [q1] at f1
  rw [q1] at f2
  rw [q1] at f3
  rw [q1] at f4
  rw [q1] at f5
  rw [q1] at f6
  rw [q1] at f7
  rw [q1] at f8
  have cr_0_2 : ta (w_ar ws (n_v vs 0) 2) = some 152 := tv_rg (th_fd hD hth r0 (g := GG_150) rfl (k := 2) (t := (2, 0, 0, [152])) rfl rfl)
  have cr_0_83 : ta (w_ar ws (n_v vs 0) 83) = some 205 := tv_rg (th_fd hD hth r0 (g := GG_150) rfl (k := 83) (t := (2, 0, 0, [205])) rfl rfl)
  have cr_0_84 : ta (w_ar ws (n_v vs 0) 84) = some 206 := tv_rg (th_fd hD hth r0 (g := GG_150) rfl (k := 84) (t := (2, 0, 0, [206])) rfl rfl)
  have cr_0_85 : ta (w_ar ws (n_v vs 0) 85) = some 207 := tv_rg (th_fd hD hth r0 (g := GG_150) rfl (k := 85) (t := (2, 0, 0, [207])) rfl rfl)
  have cr_0_86 : ta (w_ar ws (n_v vs 0) 86) = some 208 := tv_rg (th_fd hD hth r0 (g := GG_150) rfl (k := 86) (t := (2, 0, 0, [208])) rfl rfl)
  have cr_0_87 : ta (w_ar ws (n_v vs 0) 87) = some 209 := tv_rg (th_fd hD hth r0 (g := GG_150) rfl (k := 87) (t := (2, 0, 0, [209])) rfl rfl)
  have cr_0_88 : ta (w_ar ws (n_v vs 0) 88) = some 210 := tv_rg (th_fd hD hth r0 (g := GG_150) rfl (k := 88) (t := (2, 0, 0, [210])) rfl rfl)
  have cr_0_89 : ta (w_ar ws (n_v vs 0) 89) = some 211 := tv_rg (th_fd hD hth r0 (g := GG_150) rfl (k := 89) (t := (2, 0, 0, [211])) rfl rfl)
  have cr_0_95 : ta (w_ar ws (n_v vs 0) 95) = some 216 := tv_rg (th_fd hD hth r0 (g := GG_150) rfl (k := 95) (t := (2, 0, 0, [216])) rfl rfl)
  have cr_0_102 : ta (w_ar ws (n_v vs 0) 102) = some 220 := tv_rg (th_fd hD hth r0 (g := GG_150) rfl (k := 102) (t := (2, 0, 0, [220])) rfl rfl)
  have cr_0_104 : ta (w_ar ws (n_v vs 0) 104) = some 222 := tv_rg (th_fd hD hth r0 (g := GG_150) rfl (k := 104) (t := (2, 0, 0, [222])) rfl rfl)
  have cr_0_105 : ta (w_ar ws (n_v vs 0) 105) = some 223 := tv_rg (th_fd hD hth r0 (g := GG_150) rfl (k := 105) (t := (2, 0, 0, [223])) rfl rfl)
  have cr_0_106 : ta (w_ar ws (n_v vs 0) 106) = some 224 := tv_rg (th_fd hD hth r0 (g := GG_150) rfl (k := 106) (t := (2, 0, 0, [224])) rfl rfl)
  have cr_0_108 : ta (w_ar ws (n_v vs 0) 108) = some 225 := tv_rg (th_fd hD hth r0 (g := GG_150) rfl (k := 108) (t := (2, 0, 0, [225])) rfl rfl)
  have cr_0_109 : ta (w_ar ws (n_v vs 0) 109) = some 226 := tv_rg (th_fd hD hth r0 (g := GG_150) rfl (k := 109) (t := (2, 0, 0, [226])) rfl rfl)
  have g1 : v_iv (n_v vs 3) = w_fi ws (n_v vs 0) 107 := congrArg v_iv f1
  have hK_0_83 : ∀ j : Int, 0 ≤ j → j < 200 → 0 ≤ w_ei ws (w_ar ws (n_v vs 0) 83) j ∧ w_ei ws (w_ar ws (n_v vs 0) 83) j ≤ 75 := fun j h0 h1 => th_el hD hth cr_0_83 (kd := 0) (n := 200) (m := 200) (lo := 0) (hi := 75) (rs := []) (L := []) rfl (by decide) (j := j.toNat) (by omega)
  have hK_0_84 : ∀ j : Int, 0 ≤ j → j < 200 → 0 ≤ w_ei ws (w_ar ws (n_v vs 0) 84) j ∧ w_ei ws (w_ar ws (n_v vs 0) 84) j ≤ 75 := fun j h0 h1 => th_el hD hth cr_0_84 (kd := 0) (n := 200) (m := 200) (lo := 0) (hi := 75) (rs := []) (L := []) rfl (by decide) (j := j.toNat) (by omega)
  have hK_0_85 : ∀ j : Int, 0 ≤ j → j < 200 → 0 ≤ w_ei ws (w_ar ws (n_v vs 0) 85) j ∧ w_ei ws (w_ar ws (n_v vs 0) 85) j ≤ 72 := fun j h0 h1 => th_el hD hth cr_0_85 (kd := 0) (n := 200) (m := 200) (lo := 0) (hi := 72) (rs := []) (L := []) rfl (by decide) (j := j.toNat) (by omega)
  have hK_0_86 : ∀ j : Int, 0 ≤ j → j < 200 → 0 ≤ w_ei ws (w_ar ws (n_v vs 0) 86) j ∧ w_ei ws (w_ar ws (n_v vs 0) 86) j ≤ 1 := fun j h0 h1 => th_el hD hth cr_0_86 (kd := 2) (n := 200) (m := 200) (lo := 0) (hi := 1) (rs := []) (L := []) rfl (by decide) (j := j.toNat) (by omega)
  have hK_0_87 : ∀ j : Int, 0 ≤ j → j < 200 → 0 ≤ w_ei ws (w_ar ws (n_v vs 0) 87) j ∧ w_ei ws (w_ar ws (n_v vs 0) 87) j ≤ 75 := fun j h0 h1 => th_el hD hth cr_0_87 (kd := 0) (n := 200) (m := 200) (lo := 0) (hi := 75) (rs := []) (L := []) rfl (by decide) (j := j.toNat) (by omega)
  have hK_0_88 : ∀ j : Int, 0 ≤ j → j < 200 → 0 ≤ w_ei ws (w_ar ws (n_v vs 0) 88) j ∧ w_ei ws (w_ar ws (n_v vs 0) 88) j ≤ 75 := fun j h0 h1 => th_el hD hth cr_0_88 (kd := 0) (n := 200) (m := 200) (lo := 0) (hi := 75) (rs := []) (L := []) rfl (by decide) (j := j.toNat) (by omega)
  have hK_0_89 : ∀ j : Int, 0 ≤ j → j < 200 → 0 ≤ w_ei ws (w_ar ws (n_v vs 0) 89) j ∧ w_ei ws (w_ar ws (n_v vs 0) 89) j ≤ 202 := fun j h0 h1 => th_el hD hth cr_0_89 (kd := 0) (n := 200) (m := 200) (lo := 0) (hi := 202) (rs := []) (L := []) rfl (by decide) (j := j.toNat) (by omega)
  have hK_0_95 : ∀ j : Int, 0 ≤ j → j < 48 → 0 ≤ w_ei ws (w_ar ws (n_v vs 0) 95) j ∧ w_ei ws (w_ar ws (n_v vs 0) 95) j ≤ 1 := fun j h0 h1 => th_el hD hth cr_0_95 (kd := 2) (n := 48) (m := 48) (lo := 0) (hi := 1) (rs := []) (L := []) rfl (by decide) (j := j.toNat) (by omega)
  have hK_0_102 : ∀ j : Int, 0 ≤ j → j < 76 → 0 ≤ w_ei ws (w_ar ws (n_v vs 0) 102) j ∧ w_ei ws (w_ar ws (n_v vs 0) 102) j ≤ 75 := fun j h0 h1 => th_el hD hth cr_0_102 (kd := 0) (n := 76) (m := 76) (lo := 0) (hi := 75) (rs := []) (L := []) rfl (by decide) (j := j.toNat) (by omega)
  have hK_0_104 : ∀ j : Int, 0 ≤ j → j < 48 → 0 ≤ w_ei ws (w_ar ws (n_v vs 0) 104) j ∧ w_ei ws (w_ar ws (n_v vs 0) 104) j ≤ 76 := fun j h0 h1 => th_el hD hth cr_0_104 (kd := 0) (n := 48) (m := 48) (lo := 0) (hi := 76) (rs := []) (L := []) rfl (by decide) (j := j.toNat) (by omega)
  have hK_0_105 : ∀ j : Int, 0 ≤ j → j < 76 → 0 ≤ w_ei ws (w_ar ws (n_v vs 0) 105) j ∧ w_ei ws (w_ar ws (n_v vs 0) 105) j ≤ 76 := fun j h0 h1 => th_el hD hth cr_0_105 (kd := 0) (n := 76) (m := 76) (lo := 0) (hi := 76) (rs := []) (L := []) rfl (by decide) (j := j.toNat) (by omega)
  have hK_0_106 : ∀ j : Int, 0 ≤ j → j < 5776 → 0 ≤ w_ei ws (w_ar ws (n_v vs 0) 106) j ∧ w_ei ws (w_ar ws (n_v vs 0) 106) j ≤ 75 := fun j h0 h1 => th_el hD hth cr_0_106 (kd := 0) (n := 5776) (m := 5776) (lo := 0) (hi := 75) (rs := []) (L := []) rfl (by decide) (j := j.toNat) (by omega)
  have hK_0_108 : ∀ j : Int, 0 ≤ j → j < 130 → 0 ≤ w_ei ws (w_ar ws (n_v vs 0) 108) j ∧ w_ei ws (w_ar ws (n_v vs 0) 108) j ≤ 75 := fun j h0 h1 => th_el hD hth cr_0_108 (kd := 0) (n := 130) (m := 130) (lo := 0) (hi := 75) (rs := []) (L := []) rfl (by decide) (j := j.toNat) (by omega)
  have hK_0_109 : ∀ j : Int, 0 ≤ j → j < 130 → 0 ≤ w_ei ws (w_ar ws (n_v vs 0) 109) j ∧ w_ei ws (w_ar ws (n_v vs 0) 109) j ≤ 75 := fun j h0 h1 => th_el hD hth cr_0_109 (kd := 0) (n := 130) (m := 130) (lo := 0) (hi := 75) (rs := []) (L := []) rfl (by decide) (j := j.toNat) (by omega)
  have kz_0_79 : 0 ≤ w_fi ws (n_v vs 0) 79 ∧ w_fi ws (n_v vs 0) 79 ≤ 76 := tv_rng (th_fd hD hth r0 (g := GG_150) rfl (k := 79) (t := (0, 0, 76, [])) rfl rfl)
  have kz_0_80 : 0 ≤ w_fi ws (n_v vs 0) 80 ∧ w_fi ws (n_v vs 0) 80 ≤ 200 := tv_rng (th_fd hD hth r0 (g := GG_150) rfl (k := 80) (t := (0, 0, 200, [])) rfl rfl)
  have kz_0_81 : 0 ≤ w_fi ws (n_v vs 0) 81 ∧ w_fi ws (n_v vs 0) 81 ≤ 200 := tv_rng (th_fd hD hth r0 (g := GG_150) rfl (k := 81) (t := (0, 0, 200, [])) rfl rfl)
  have kz_0_100 : 0 ≤ w_fi ws (n_v vs 0) 100 ∧ w_fi ws (n_v vs 0) 100 ≤ 76 := tv_rng (th_fd hD hth r0 (g := GG_150) rfl (k := 100) (t := (0, 0, 76, [])) rfl rfl)
  have kz_0_101 : 0 ≤ w_fi ws (n_v vs 0) 101 ∧ w_fi ws (n_v vs 0) 101 ≤ 76 := tv_rng (th_fd hD hth r0 (g := GG_150) rfl (k := 101) (t := (0, 0, 76, [])) rfl rfl)
  have kz_0_107 : 0 ≤ w_fi ws (n_v vs 0) 107 ∧ w_fi ws (n_v vs 0) 107 ≤ 130 := tv_rng (th_fd hD hth r0 (g := GG_150) rfl (k := 107) (t := (0, 0, 130, [])) rfl rfl)
  have nf0 : fc_1 PRD (20, [1], [50, 1, 0, 80, 0, 3, 2, 0, 80, 0, 130]) ws (vs) := by
    refine ⟨fun n hn => ?_, ?_⟩
    · have hn : n ∈ [1] := hn
      rw [hl]
      simp only [List.mem_cons, List.not_mem_nil, or_false] at hn
      show n < 5; omega
    · show w_fi ws (n_v vs 1) 80 ≤ 130
      rw [q1]
      exact vc_Mo_across2_1_0 (v_iv (n_v vs 2)) (v_iv (n_v vs 3)) (v_iv (n_v vs 4)) (w_fi ws (n_v vs 0) 107) (w_ei ws (w_ar ws (n_v vs 0) 2)) (w_ei ws (w_ar ws (n_v vs 0) 95)) (w_ei ws (w_ar ws (n_v vs 0) 102)) (w_ei ws (w_ar ws (n_v vs 0) 104)) (w_ei ws (w_ar ws (n_v vs 0) 108)) (w_ei ws (w_ar ws (n_v vs 0) 109)) (w_fi ws (n_v vs 0) 5) (w_fi ws (n_v vs 0) 100) (w_fi ws (n_v vs 0) 101) (w_ei ws (w_ar ws (n_v vs 0) 105)) (w_ei ws (w_ar ws (n_v vs 0) 106)) (w_fi ws (n_v vs 0) 79) (w_ei ws (w_ar ws (n_v vs 0) 83)) (w_ei ws (w_ar ws (n_v vs 0) 84)) (w_ei ws (w_ar ws (n_v vs 0) 85)) (w_ei ws (w_ar ws (n_v vs 0) 86)) (w_fi ws (n_v vs 0) 80) (w_fi ws (n_v vs 0) 81) (w_ei ws (w_ar ws (n_v vs 0) 87)) (w_ei ws (w_ar ws (n_v vs 0) 88)) (w_ei ws (w_ar ws (n_v vs 0) 89)) k2 k3 k4 d0 f0 g1 f2 f3 f4 f5 f6 f7 f8 hK_0_83 hK_0_84 hK_0_85 hK_0_86 hK_0_87 hK_0_88 hK_0_89 hK_0_95 hK_0_102 hK_0_104 hK_0_105 hK_0_106 hK_0_108 hK_0_109 kz_0_79 kz_0_80 kz_0_81 kz_0_100 kz_0_101 kz_0_107
  have nf1 : fc_1 PRD (20, [1, 4], [60, 2, 5, 392, 81, 101, 105, 106, 87, 88, 89]) ws (vs) := by
    refine ⟨fun n hn => ?_, ?_⟩
    · have hn : n ∈ [1, 4] := hn
      rw [hl]
      simp only [List.mem_cons, List.not_mem_nil, or_false] at hn
      show n < 5; omega
    · show PAL1 (w_fi ws (n_v vs 1) 81) (w_fi ws (n_v vs 1) 101) (w_ei ws (w_ar ws (n_v vs 1) 105)) (w_ei ws (w_ar ws (n_v vs 1) 106)) (w_ei ws (w_ar ws (n_v vs 1) 87)) (w_ei ws (w_ar ws (n_v vs 1) 88)) (w_ei ws (w_ar ws (n_v vs 1) 89)) (v_iv (n_v vs 4))
      rw [q1]
      exact vc_Mo_across2_1_1 (v_iv (n_v vs 2)) (v_iv (n_v vs 3)) (v_iv (n_v vs 4)) (w_fi ws (n_v vs 0) 107) (w_ei ws (w_ar ws (n_v vs 0) 2)) (w_ei ws (w_ar ws (n_v vs 0) 95)) (w_ei ws (w_ar ws (n_v vs 0) 102)) (w_ei ws (w_ar ws (n_v vs 0) 104)) (w_ei ws (w_ar ws (n_v vs 0) 108)) (w_ei ws (w_ar ws (n_v vs 0) 109)) (w_fi ws (n_v vs 0) 5) (w_fi ws (n_v vs 0) 100) (w_fi ws (n_v vs 0) 101) (w_ei ws (w_ar ws (n_v vs 0) 105)) (w_ei ws (w_ar ws (n_v vs 0) 106)) (w_fi ws (n_v vs 0) 79) (w_ei ws (w_ar ws (n_v vs 0) 83)) (w_ei ws (w_ar ws (n_v vs 0) 84)) (w_ei ws (w_ar ws (n_v vs 0) 85)) (w_ei ws (w_ar ws (n_v vs 0) 86)) (w_fi ws (n_v vs 0) 80) (w_fi ws (n_v vs 0) 81) (w_ei ws (w_ar ws (n_v vs 0) 87)) (w_ei ws (w_ar ws (n_v vs 0) 88)) (w_ei ws (w_ar ws (n_v vs 0) 89)) k2 k3 k4 d0 f0 g1 f2 f3 f4 f5 f6 f7 f8 hK_0_83 hK_0_84 hK_0_85 hK_0_86 hK_0_87 hK_0_88 hK_0_89 hK_0_95 hK_0_102 hK_0_104 hK_0_105 hK_0_106 hK_0_108 hK_0_109 kz_0_79 kz_0_80 kz_0_81 kz_0_100 kz_0_101 kz_0_107
  have nf2 : fc_1 PRD (20, [1], [50, 1, 0, 81, 0, 3, 2, 0, 81, 0, 76]) ws (vs) := by
    refine ⟨fun n hn => ?_, ?_⟩
    · have hn : n ∈ [1] := hn
      rw [hl]
      simp only [List.mem_cons, List.not_mem_nil, or_false] at hn
      show n < 5; omega
    · show w_fi ws (n_v vs 1) 81 ≤ 76
      rw [q1]
      exact vc_Mo_across2_1_2 (v_iv (n_v vs 2)) (v_iv (n_v vs 3)) (v_iv (n_v vs 4)) (w_fi ws (n_v vs 0) 107) (w_ei ws (w_ar ws (n_v vs 0) 2)) (w_ei ws (w_ar ws (n_v vs 0) 95)) (w_ei ws (w_ar ws (n_v vs 0) 102)) (w_ei ws (w_ar ws (n_v vs 0) 104)) (w_ei ws (w_ar ws (n_v vs 0) 108)) (w_ei ws (w_ar ws (n_v vs 0) 109)) (w_fi ws (n_v vs 0) 5) (w_fi ws (n_v vs 0) 100) (w_fi ws (n_v vs 0) 101) (w_ei ws (w_ar ws (n_v vs 0) 105)) (w_ei ws (w_ar ws (n_v vs 0) 106)) (w_fi ws (n_v vs 0) 79) (w_ei ws (w_ar ws (n_v vs 0) 83)) (w_ei ws (w_ar ws (n_v vs 0) 84)) (w_ei ws (w_ar ws (n_v vs 0) 85)) (w_ei ws (w_ar ws (n_v vs 0) 86)) (w_fi ws (n_v vs 0) 80) (w_fi ws (n_v vs 0) 81) (w_ei ws (w_ar ws (n_v vs 0) 87)) (w_ei ws (w_ar ws (n_v vs 0) 88)) (w_ei ws (w_ar ws (n_v vs 0) 89)) k2 k3 k4 d0 f0 g1 f2 f3 f4 f5 f6 f7 f8 hK_0_83 hK_0_84 hK_0_85 hK_0_86 hK_0_87 hK_0_88 hK_0_89 hK_0_95 hK_0_102 hK_0_104 hK_0_105 hK_0_106 hK_0_108 hK_0_109 kz_0_79 kz_0_80 kz_0_81 kz_0_100 kz_0_101 kz_0_107
  refine ⟨(fun _ h => (by cases h)), [], trivial, ?_, (fun _ h => (by cases h))⟩
  rw [List.append_nil]
  exact List.forall_mem_cons.mpr ⟨⟨show (20 : Nat) < 100 from by decide, nf0⟩, List.forall_mem_cons.mpr ⟨⟨show (20 : Nat) < 100 from by decide, nf1⟩, List.forall_mem_cons.mpr ⟨⟨show (20 : Nat) < 100 from by decide, nf2⟩, (fun _ h => (by cases h))⟩⟩⟩
set_option maxHeartbeats 4000000 in
theorem vc_Mo_across2_2_r0 (x2 : Int) (x3 : Int) (x5 : Int) (x6 : Int) (x9 : Int) (x10 : Int) (x12 : Int) (x13 : Int) (x14 : Int) (x15 : Int) (x16 : Int) (lineB_0 : Int → Int) (lineA_0 : Int → Int) (all_0 : Int → Int) (r_0 : Int) (lines_0 : Int) (turned_0 : Int → Int) (itemLayer_0 : Int → Int) (firstJoint_0 : Int → Int) (items_0 : Int) (layerMany_0 : Int) (layerSize_0 : Int → Int) (layerItem_0 : Int → Int) (pointMany_0 : Int) (costA_0 : Int → Int) (costB_0 : Int → Int) (costW_0 : Int → Int) (costPlain_0 : Int → Int) (costMany_0 : Int) (apartMany_0 : Int) (k2 : 0 ≤ x2 ∧ x2 ≤ 129) (k3 : 1 ≤ x3 ∧ x3 ≤ 130) (k5 : 0 ≤ x5 ∧ x5 ≤ 23) (k6 : 1 ≤ x6 ∧ x6 ≤ 24) (k9 : 0 ≤ x9 ∧ x9 ≤ 23) (k10 : 1 ≤ x10 ∧ x10 ≤ 24) (k12 : 0 ≤ x12 ∧ x12 ≤ 75) (k13 : 0 ≤ x13 ∧ x13 ≤ 75) (k14 : (-1) ≤ x14 ∧ x14 ≤ 47) (k15 : 0 ≤ x15 ∧ x15 ≤ 75) (k16 : 0 ≤ x16 ∧ x16 ≤ 75) (d0 : x10 + (-4294967296) ≤ x9 ∧ x9 ≤ x10 + (-1)) (d1 : x6 + (-4294967296) ≤ x5 ∧ x5 ≤ x6 + (-1)) (d2 : x3 + (-4294967296) ≤ x2 ∧ x2 ≤ x3 + (-1)) (h0 : x16 = lineB_0 (x2)) (h2 : x15 = lineA_0 (x2)) (f4 : BTP (r_0) (all_0) (x12) (x13) (x14)) (h5 : x13 = lineB_0 (x2)) (h6 : x12 = lineA_0 (x2)) (f7 : x9 < x10) (f8 : 1 * x10 + ((-1) * all_0 (r_0 + 0) + 0) ≤ 0) (f9 : (-1) * x10 + (1 * all_0 (r_0 + 0) + 0) ≤ 0) (h10 : x9 = lineB_0 (x2)) (f11 : x5 < x6) (f12 : 1 * x6 + ((-1) * all_0 (r_0 + 0) + 0) ≤ 0) (f13 : (-1) * x6 + (1 * all_0 (r_0 + 0) + 0) ≤ 0) (h14 : x5 = lineA_0 (x2)) (f15 : x2 < x3) (g16 : x3 = lines_0) (f17 : LSA (r_0) (items_0) (layerMany_0) (lines_0) (all_0) (turned_0) (itemLayer_0) (firstJoint_0) (lineA_0) (lineB_0)) (f18 : LSB (items_0) (layerMany_0) (itemLayer_0) (layerSize_0) (layerItem_0)) (f19 : SGR (r_0) (all_0)) (f20 : pointMany_0 = items_0) (f21 : PCQ (pointMany_0) (costMany_0) (costA_0) (costB_0) (costW_0) (costPlain_0)) (f22 : costMany_0 = x2) (f23 : apartMany_0 = 0) (hK_0_83 : ∀ j : Int, 0 ≤ j → j < 200 → 0 ≤ costA_0 j ∧ costA_0 j ≤ 75) (hK_0_84 : ∀ j : Int, 0 ≤ j → j < 200 → 0 ≤ costB_0 j ∧ costB_0 j ≤ 75) (hK_0_85 : ∀ j : Int, 0 ≤ j → j < 200 → 0 ≤ costW_0 j ∧ costW_0 j ≤ 72) (hK_0_86 : ∀ j : Int, 0 ≤ j → j < 200 → 0 ≤ costPlain_0 j ∧ costPlain_0 j ≤ 1) (hK_0_95 : ∀ j : Int, 0 ≤ j → j < 48 → 0 ≤ turned_0 j ∧ turned_0 j ≤ 1) (hK_0_102 : ∀ j : Int, 0 ≤ j → j < 76 → 0 ≤ itemLayer_0 j ∧ itemLayer_0 j ≤ 75) (hK_0_104 : ∀ j : Int, 0 ≤ j → j < 48 → 0 ≤ firstJoint_0 j ∧ firstJoint_0 j ≤ 76) (hK_0_105 : ∀ j : Int, 0 ≤ j → j < 76 → 0 ≤ layerSize_0 j ∧ layerSize_0 j ≤ 76) (hK_0_106 : ∀ j : Int, 0 ≤ j → j < 5776 → 0 ≤ layerItem_0 j ∧ layerItem_0 j ≤ 75) (hK_0_108 : ∀ j : Int, 0 ≤ j → j < 130 → 0 ≤ lineA_0 j ∧ lineA_0 j ≤ 75) (hK_0_109 : ∀ j : Int, 0 ≤ j → j < 130 → 0 ≤ lineB_0 j ∧ lineB_0 j ≤ 75) (kz_0_79 : 0 ≤ pointMany_0 ∧ pointMany_0 ≤ 76) (kz_0_80 : 0 ≤ costMany_0 ∧ costMany_0 ≤ 200) (kz_0_81 : 0 ≤ apartMany_0 ∧ apartMany_0 ≤ 200) (kz_0_100 : 0 ≤ items_0 ∧ items_0 ≤ 76) (kz_0_101 : 0 ≤ layerMany_0 ∧ layerMany_0 ≤ 76) (kz_0_107 : 0 ≤ lines_0 ∧ lines_0 ≤ 130) : 0 ≤ x14 ∧ x14 ≤ 47 := by
  try simp only [Int.add_zero] at *
  have h := lsa_btp (p := x2) (a := x12) (b := x13) ‹LSA _ _ _ _ _ _ _ _ _ _› (by omega) (by omega) (by assumption) (by assumption) (by omega) (by omega) ‹BTP _ _ _ _ _›
  omega
def o_Mo_across2_2 : or_T := (136, 17, [(0, (2, 0, 0, [150])), (1, (2, 0, 0, [150])), (2, (0, 0, 129, [])), (3, (0, 1, 130, [])), (4, (2, 0, 0, [225])), (5, (0, 0, 23, [])), (6, (0, 1, 24, [])), (8, (2, 0, 0, [226])), (9, (0, 0, 23, [])), (10, (0, 1, 24, [])), (12, (0, 0, 75, [])), (13, (0, 0, 75, [])), (14, (0, -1, 47, [])), (15, (0, 0, 75, [])), (16, (0, 0, 75, []))], [(10, [16, 8, 2], []), (9, [8, 1], [109]), (10, [15, 4, 2], []), (9, [4, 1], [108]), (20, [1, 12, 13, 14], [60, 1, 1, 130, 5, 2]), (10, [13, 8, 2], []), (10, [12, 4, 2], []), (7, [9, 10], [2]), (20, [10, 1], [30, 0, 1, 0, 0, -1, 3, 2005000]), (20, [10, 1], [30, 0, -1, 0, 0, 1, 3, 2005000]), (10, [9, 8, 2], []), (7, [5, 6], [2]), (20, [6, 1], [30, 0, 1, 0, 0, -1, 3, 2005000]), (20, [6, 1], [30, 0, -1, 0, 0, 1, 3, 2005000]), (10, [5, 4, 2], []), (7, [2, 3], [2]), (9, [3, 1], [107]), (20, [1], [60, 4, 6, 369, 5, 100, 101, 107, 2, 95, 102, 104, 108, 109]), (20, [1], [60, 2, 3, 372, 100, 101, 102, 105, 106]), (20, [1], [60, 1, 1, 122, 5, 2]), (20, [1], [50, 2, 0, 79, 100, 1, 3, 2, 0, 79, 2, 0, 100]), (20, [1], [60, 2, 4, 380, 79, 80, 83, 84, 85, 86]), (20, [1, 2], [50, 1, 0, 80, 1, 3, 2, 0, 80, 1, 1]), (20, [1], [50, 1, 0, 81, 1, 3, 2, 0, 81, 0, 0]), (24, [0, 1], [])], [(14, (0, 0, 47, []))], [], [], [], [(9, 10, -4294967296, -1), (5, 6, -4294967296, -1), (2, 3, -4294967296, -1)])
theorem oo_Mo_across2_2 {kA : Nat → ClassId} : or_ok PRD kA GG o_Mo_across2_2 := by
  intro A ta ws vs hD hth hl hk hds hf
  have hl : vs.length = 17 := hl
  have hk : ∀ q ∈ ([(0, (2, 0, 0, [150])), (1, (2, 0, 0, [150])), (2, (0, 0, 129, [])), (3, (0, 1, 130, [])), (4, (2, 0, 0, [225])), (5, (0, 0, 23, [])), (6, (0, 1, 24, [])), (8, (2, 0, 0, [226])), (9, (0, 0, 23, [])), (10, (0, 1, 24, [])), (12, (0, 0, 75, [])), (13, (0, 0, 75, [])), (14, (0, -1, 47, [])), (15, (0, 0, 75, [])), (16, (0, 0, 75, []))] : List (Nat × tv_T)), tv_ok ta q.2 (n_v vs q.1) := hk
  obtain ⟨t0, hk⟩ := List.forall_mem_cons.mp hk
  have t0 : tv_ok ta (2, 0, 0, [150]) (n_v vs 0) := t0
  have r0 : ta (v_ad (n_v vs 0)) = some 150 := tv_rg t0
  obtain ⟨t1, hk⟩ := List.forall_mem_cons.mp hk
  have t1 : tv_ok ta (2, 0, 0, [150]) (n_v vs 1) := t1
  have r1 : ta (v_ad (n_v vs 1)) = some 150 := tv_rg t1
  obtain ⟨t2, hk⟩ := List.forall_mem_cons.mp hk
  have t2 : tv_ok ta (0, 0, 129, []) (n_v vs 2) := t2
  have k2 : 0 ≤ v_iv (n_v vs 2) ∧ v_iv (n_v vs 2) ≤ 129 := tv_rng t2
  obtain ⟨t3, hk⟩ := List.forall_mem_cons.mp hk
  have t3 : tv_ok ta (0, 1, 130, []) (n_v vs 3) := t3
  have k3 : 1 ≤ v_iv (n_v vs 3) ∧ v_iv (n_v vs 3) ≤ 130 := tv_rng t3
  obtain ⟨t4, hk⟩ := List.forall_mem_cons.mp hk
  have t4 : tv_ok ta (2, 0, 0, [225]) (n_v vs 4) := t4
  have r4 : ta (v_ad (n_v vs 4)) = some 225 := tv_rg t4
  obtain ⟨t5, hk⟩ := List.forall_mem_cons.mp hk
  have t5 : tv_ok ta (0, 0, 23, []) (n_v vs 5) := t5
  have k5 : 0 ≤ v_iv (n_v vs 5) ∧ v_iv (n_v vs 5) ≤ 23 := tv_rng t5
  obtain ⟨t6, hk⟩ := List.forall_mem_cons.mp hk
  have t6 : tv_ok ta (0, 1, 24, []) (n_v vs 6) := t6
  have k6 : 1 ≤ v_iv (n_v vs 6) ∧ v_iv (n_v vs 6) ≤ 24 := tv_rng t6
  obtain ⟨t8, hk⟩ := List.forall_mem_cons.mp hk
  have t8 : tv_ok ta (2, 0, 0, [226]) (n_v vs 8) := t8
  have r8 : ta (v_ad (n_v vs 8)) = some 226 := tv_rg t8
  obtain ⟨t9, hk⟩ := List.forall_mem_cons.mp hk
  have t9 : tv_ok ta (0, 0, 23, []) (n_v vs 9) := t9
  have k9 : 0 ≤ v_iv (n_v vs 9) ∧ v_iv (n_v vs 9) ≤ 23 := tv_rng t9
  obtain ⟨t10, hk⟩ := List.forall_mem_cons.mp hk
  have t10 : tv_ok ta (0, 1, 24, []) (n_v vs 10) := t10
  have k10 : 1 ≤ v_iv (n_v vs 10) ∧ v_iv (n_v vs 10) ≤ 24 := tv_rng t10
  obtain ⟨t12, hk⟩ := List.forall_mem_cons.mp hk
  have t12 : tv_ok ta (0, 0, 75, []) (n_v vs 12) := t12
  have k12 : 0 ≤ v_iv (n_v vs 12) ∧ v_iv (n_v vs 12) ≤ 75 := tv_rng t12
  obtain ⟨t13, hk⟩ := List.forall_mem_cons.mp hk
  have t13 : tv_ok ta (0, 0, 75, []) (n_v vs 13) := t13
  have k13 : 0 ≤ v_iv (n_v vs 13) ∧ v_iv (n_v vs 13) ≤ 75 := tv_rng t13
  obtain ⟨t14, hk⟩ := List.forall_mem_cons.mp hk
  have t14 : tv_ok ta (0, -1, 47, []) (n_v vs 14) := t14
  have k14 : (-1) ≤ v_iv (n_v vs 14) ∧ v_iv (n_v vs 14) ≤ 47 := tv_rng t14
  obtain ⟨t15, hk⟩ := List.forall_mem_cons.mp hk
  have t15 : tv_ok ta (0, 0, 75, []) (n_v vs 15) := t15
  have k15 : 0 ≤ v_iv (n_v vs 15) ∧ v_iv (n_v vs 15) ≤ 75 := tv_rng t15
  obtain ⟨t16, hk⟩ := List.forall_mem_cons.mp hk
  have t16 : tv_ok ta (0, 0, 75, []) (n_v vs 16) := t16
  have k16 : 0 ≤ v_iv (n_v vs 16) ∧ v_iv (n_v vs 16) ≤ 75 := tv_rng t16
  have hds : ∀ q ∈ ([(9, 10, -4294967296, -1), (5, 6, -4294967296, -1), (2, 3, -4294967296, -1)] : List of_T), n_iv vs q.2.1 + q.2.2.1 ≤ n_iv vs q.1 ∧ n_iv vs q.1 ≤ n_iv vs q.2.1 + q.2.2.2 := hds
  obtain ⟨d0, hds⟩ := List.forall_mem_cons.mp hds
  have d0 : v_iv (n_v vs 10) + (-4294967296) ≤ v_iv (n_v vs 9) ∧ v_iv (n_v vs 9) ≤ v_iv (n_v vs 10) + (-1) := d0
  obtain ⟨d1, hds⟩ := List.forall_mem_cons.mp hds
  have d1 : v_iv (n_v vs 6) + (-4294967296) ≤ v_iv (n_v vs 5) ∧ v_iv (n_v vs 5) ≤ v_iv (n_v vs 6) + (-1) := d1
  obtain ⟨d2, hds⟩ := List.forall_mem_cons.mp hds
  have d2 : v_iv (n_v vs 3) + (-4294967296) ≤ v_iv (n_v vs 2) ∧ v_iv (n_v vs 2) ≤ v_iv (n_v vs 3) + (-1) := d2
  have hf : fc_ok PRD [(10, [16, 8, 2], []), (9, [8, 1], [109]), (10, [15, 4, 2], []), (9, [4, 1], [108]), (20, [1, 12, 13, 14], [60, 1, 1, 130, 5, 2]), (10, [13, 8, 2], []), (10, [12, 4, 2], []), (7, [9, 10], [2]), (20, [10, 1], [30, 0, 1, 0, 0, -1, 3, 2005000]), (20, [10, 1], [30, 0, -1, 0, 0, 1, 3, 2005000]), (10, [9, 8, 2], []), (7, [5, 6], [2]), (20, [6, 1], [30, 0, 1, 0, 0, -1, 3, 2005000]), (20, [6, 1], [30, 0, -1, 0, 0, 1, 3, 2005000]), (10, [5, 4, 2], []), (7, [2, 3], [2]), (9, [3, 1], [107]), (20, [1], [60, 4, 6, 369, 5, 100, 101, 107, 2, 95, 102, 104, 108, 109]), (20, [1], [60, 2, 3, 372, 100, 101, 102, 105, 106]), (20, [1], [60, 1, 1, 122, 5, 2]), (20, [1], [50, 2, 0, 79, 100, 1, 3, 2, 0, 79, 2, 0, 100]), (20, [1], [60, 2, 4, 380, 79, 80, 83, 84, 85, 86]), (20, [1, 2], [50, 1, 0, 80, 1, 3, 2, 0, 80, 1, 1]), (20, [1], [50, 1, 0, 81, 1, 3, 2, 0, 81, 0, 0]), (24, [0, 1], [])] ta ws vs := hf
  obtain ⟨f0, hf⟩ := fc_un (show (10 : Nat) < 100 from by decide) hf
  have f0 : v_iv (n_v vs 16) = w_el ws (v_ad (n_v vs 8)) (v_iv (n_v vs 2)).toNat := f0
  obtain ⟨f1, hf⟩ := fc_un (show (9 : Nat) < 100 from by decide) hf
  have f1 : n_v vs 8 = w_fd ws (v_ad (n_v vs 1)) 109 := f1
  obtain ⟨f2, hf⟩ := fc_un (show (10 : Nat) < 100 from by decide) hf
  have f2 : v_iv (n_v vs 15) = w_el ws (v_ad (n_v vs 4)) (v_iv (n_v vs 2)).toNat := f2
  obtain ⟨f3, hf⟩ := fc_un (show (9 : Nat) < 100 from by decide) hf
  have f3 : n_v vs 4 = w_fd ws (v_ad (n_v vs 1)) 108 := f3
  obtain ⟨f4, hf⟩ := fc_un (show (20 : Nat) < 100 from by decide) hf
  have f4 : BTP (w_fi ws (n_v vs 1) 5) (w_ei ws (w_ar ws (n_v vs 1) 2)) (v_iv (n_v vs 12)) (v_iv (n_v vs 13)) (v_iv (n_v vs 14)) := f4
  obtain ⟨f5, hf⟩ := fc_un (show (10 : Nat) < 100 from by decide) hf
  have f5 : v_iv (n_v vs 13) = w_el ws (v_ad (n_v vs 8)) (v_iv (n_v vs 2)).toNat := f5
  obtain ⟨f6, hf⟩ := fc_un (show (10 : Nat) < 100 from by decide) hf
  have f6 : v_iv (n_v vs 12) = w_el ws (v_ad (n_v vs 4)) (v_iv (n_v vs 2)).toNat := f6
  obtain ⟨f7, hf⟩ := fc_un (show (7 : Nat) < 100 from by decide) hf
  have f7 : v_iv (n_v vs 9) < v_iv (n_v vs 10) := f7
  obtain ⟨f8, hf⟩ := fc_un (show (20 : Nat) < 100 from by decide) hf
  have f8 : 1 * v_iv (n_v vs 10) + ((-1) * w_el ws (w_ar ws (n_v vs 1) 2) (w_fi ws (n_v vs 1) 5 + 0).toNat + 0) ≤ 0 := f8
  obtain ⟨f9, hf⟩ := fc_un (show (20 : Nat) < 100 from by decide) hf
  have f9 : (-1) * v_iv (n_v vs 10) + (1 * w_el ws (w_ar ws (n_v vs 1) 2) (w_fi ws (n_v vs 1) 5 + 0).toNat + 0) ≤ 0 := f9
  obtain ⟨f10, hf⟩ := fc_un (show (10 : Nat) < 100 from by decide) hf
  have f10 : v_iv (n_v vs 9) = w_el ws (v_ad (n_v vs 8)) (v_iv (n_v vs 2)).toNat := f10
  obtain ⟨f11, hf⟩ := fc_un (show (7 : Nat) < 100 from by decide) hf
  have f11 : v_iv (n_v vs 5) < v_iv (n_v vs 6) := f11
  obtain ⟨f12, hf⟩ := fc_un (show (20 : Nat) < 100 from by decide) hf
  have f12 : 1 * v_iv (n_v vs 6) + ((-1) * w_el ws (w_ar ws (n_v vs 1) 2) (w_fi ws (n_v vs 1) 5 + 0).toNat + 0) ≤ 0 := f12
  obtain ⟨f13, hf⟩ := fc_un (show (20 : Nat) < 100 from by decide) hf
  have f13 : (-1) * v_iv (n_v vs 6) + (1 * w_el ws (w_ar ws (n_v vs 1) 2) (w_fi ws (n_v vs 1) 5 + 0).toNat + 0) ≤ 0 := f13
  obtain ⟨f14, hf⟩ := fc_un (show (10 : Nat) < 100 from by decide) hf
  have f14 : v_iv (n_v vs 5) = w_el ws (v_ad (n_v vs 4)) (v_iv (n_v vs 2)).toNat := f14
  obtain ⟨f15, hf⟩ := fc_un (show (7 : Nat) < 100 from by decide) hf
  have f15 : v_iv (n_v vs 2) < v_iv (n_v vs 3) := f15
  obtain ⟨f16, hf⟩ := fc_un (show (9 : Nat) < 100 from by decide) hf
  have f16 : n_v vs 3 = w_fd ws (v_ad (n_v vs 1)) 107 := f16
  obtain ⟨f17, hf⟩ := fc_un (show (20 : Nat) < 100 from by decide) hf
  have f17 : LSA (w_fi ws (n_v vs 1) 5) (w_fi ws (n_v vs 1) 100) (w_fi ws (n_v vs 1) 101) (w_fi ws (n_v vs 1) 107) (w_ei ws (w_ar ws (n_v vs 1) 2)) (w_ei ws (w_ar ws (n_v vs 1) 95)) (w_ei ws (w_ar ws (n_v vs 1) 102)) (w_ei ws (w_ar ws (n_v vs 1) 104)) (w_ei ws (w_ar ws (n_v vs 1) 108)) (w_ei ws (w_ar ws (n_v vs 1) 109)) := f17
  obtain ⟨f18, hf⟩ := fc_un (show (20 : Nat) < 100 from by decide) hf
  have f18 : LSB (w_fi ws (n_v vs 1) 100) (w_fi ws (n_v vs 1) 101) (w_ei ws (w_ar ws (n_v vs 1) 102)) (w_ei ws (w_ar ws (n_v vs 1) 105)) (w_ei ws (w_ar ws (n_v vs 1) 106)) := f18
  obtain ⟨f19, hf⟩ := fc_un (show (20 : Nat) < 100 from by decide) hf
  have f19 : SGR (w_fi ws (n_v vs 1) 5) (w_ei ws (w_ar ws (n_v vs 1) 2)) := f19
  obtain ⟨f20, hf⟩ := fc_un (show (20 : Nat) < 100 from by decide) hf
  have f20 : w_fi ws (n_v vs 1) 79 = w_fi ws (n_v vs 1) 100 := f20
  obtain ⟨f21, hf⟩ := fc_un (show (20 : Nat) < 100 from by decide) hf
  have f21 : PCQ (w_fi ws (n_v vs 1) 79) (w_fi ws (n_v vs 1) 80) (w_ei ws (w_ar ws (n_v vs 1) 83)) (w_ei ws (w_ar ws (n_v vs 1) 84)) (w_ei ws (w_ar ws (n_v vs 1) 85)) (w_ei ws (w_ar ws (n_v vs 1) 86)) := f21
  obtain ⟨f22, hf⟩ := fc_un (show (20 : Nat) < 100 from by decide) hf
  have f22 : w_fi ws (n_v vs 1) 80 = v_iv (n_v vs 2) := f22
  obtain ⟨f23, hf⟩ := fc_un (show (20 : Nat) < 100 from by decide) hf
  have f23 : w_fi ws (n_v vs 1) 81 = 0 := f23
  obtain ⟨f24, hf⟩ := fc_un (show (24 : Nat) < 100 from by decide) hf
  have f24 : n_v vs 0 = n_v vs 1 := f24
  have q1 : n_v vs 1 = n_v vs 0 := f24.symm
  rw [q1] at f1
  rw [q1] at f3
  rw [q1] at f4
  rw [q1] at f8
  rw [q1] at f9
  rw [q1] at f12
  rw [q1] at f13
  rw [q1] at f16
  rw [q1] at f17
  rw [q1] at f18
  rw [q1] at f19
  rw [q1] at f20
  rw [q1] at f21
  rw [q1] at f22
  rw [q1] at f23
  have cr_0_2 : ta (w_ar ws (n_v vs 0) 2) = some 152 := tv_rg (th_fd hD hth r0 (g := GG_150) rfl (k := 2) (t := (2, 0, 0, [152])) rfl rfl)
  have cr_0_83 : ta (w_ar ws (n_v vs 0) 83) = some 205 := tv_rg (th_fd hD hth r0 (g := GG_150) rfl (k := 83) (t := (2, 0, 0, [205])) rfl rfl)
  have cr_0_84 : ta (w_ar ws (n_v vs 0) 84) = some 206 := tv_rg (th_fd hD hth r0 (g := GG_150) rfl (k := 84) (t := (2, 0, 0, [206])) rfl rfl)
  have cr_0_85 : ta (w_ar ws (n_v vs 0) 85) = some 207 := tv_rg (th_fd hD hth r0 (g := GG_150) rfl (k := 85) (t := (2, 0, 0, [207])) rfl rfl)
  have cr_0_86 : ta (w_ar ws (n_v vs 0) 86) = some 208 := tv_rg (th_fd hD hth r0 (g := GG_150) rfl (k := 86) (t := (2, 0, 0, [208])) rfl rfl)
  have cr_0_95 : ta (w_ar ws (n_v vs 0) 95) = some 216 := tv_rg (th_fd hD hth r0 (g := GG_150) rfl (k := 95) (t := (2, 0, 0, [216])) rfl rfl)
  have cr_0_102 : ta (w_ar ws (n_v vs 0) 102) = some 220 := tv_rg (th_fd hD hth r0 (g := GG_150) rfl (k := 102) (t := (2, 0, 0, [220])) rfl rfl)
  have cr_0_104 : ta (w_ar ws (n_v vs 0) 104) = some 222 := tv_rg (th_fd hD hth r0 (g := GG_150) rfl (k := 104) (t := (2, 0, 0, [222])) rfl rfl)
  have cr_0_105 : ta (w_ar ws (n_v vs 0) 105) = some 223 := tv_rg (th_fd hD hth r0 (g := GG_150) rfl (k := 105) (t := (2, 0, 0, [223])) rfl rfl)
  have cr_0_106 : ta (w_ar ws (n_v vs 0) 106) = some 224 := tv_rg (th_fd hD hth r0 (g := GG_150) rfl (k := 106) (t := (2, 0, 0, [224])) rfl rfl)
  have cr_0_108 : ta (w_ar ws (n_v vs 0) 108) = some 225 := tv_rg (th_fd hD hth r0 (g := GG_150) rfl (k := 108) (t := (2, 0, 0, [225])) rfl rfl)
  have cr_0_109 : ta (w_ar ws (n_v vs 0) 109) = some 226 := tv_rg (th_fd hD hth r0 (g := GG_150) rfl (k := 109) (t := (2, 0, 0, [226])) rfl rfl)
  have ad_8 : v_ad (n_v vs 8) = w_ar ws (n_v vs 0) 109 := congrArg v_ad f1
  have ad_4 : v_ad (n_v vs 4) = w_ar ws (n_v vs 0) 108 := congrArg v_ad f3
  rw [ad_8] at f0
  have h0 : v_iv (n_v vs 16) = w_ei ws (w_ar ws (n_v vs 0) 109) (v_iv (n_v vs 2)) := f0
  rw [ad_4] at f2
  have h2 : v_iv (n_v vs 15) = w_ei ws (w_ar ws (n_v vs 0) 108) (v_iv (n_v vs 2)) := f2
  rw [ad_8] at f5
  have h5 : v_iv (n_v vs 13) = w_ei ws (w_ar ws (n_v vs 0) 109) (v_iv (n_v vs 2)) := f5
  rw [ad_4] at f6
  have h6 : v_iv (n_v vs 12) = w_ei ws (w_ar ws (n_v vs 0) 108) (v_iv (n_v vs 2)) := f6
  rw [ad_8] at f10
  have h10 : v_iv (n_v vs 9) = w_ei ws (w_ar ws (n_v vs 0) 109) (v_iv (n_v vs 2)) := f10
  rw [ad_4] at f14
  have h14 : v_iv (n_v vs 5) = w_ei ws (w_ar ws (n_v vs 0) 108) (v_iv (n_v vs 2)) := f14
  have g16 : v_iv (n_v vs 3) = w_fi ws (n_v vs 0) 107 := congrArg v_iv f16
  have hK_0_83 : ∀ j : Int, 0 ≤ j → j < 200 → 0 ≤ w_ei ws (w_ar ws (n_v vs 0) 83) j ∧ w_ei ws (w_ar ws (n_v vs 0) 83) j ≤ 75 := fun j h0 h1 => th_el hD hth cr_0_83 (kd := 0) (n := 200) (m := 200) (lo := 0) (hi := 75) (rs := []) (L := []) rfl (by decide) (j := j.toNat) (by omega)
  have hK_0_84 : ∀ j : Int, 0 ≤ j → j < 200 → 0 ≤ w_ei ws (w_ar ws (n_v vs 0) 84) j ∧ w_ei ws (w_ar ws (n_v vs 0) 84) j ≤ 75 := fun j h0 h1 => th_el hD hth cr_0_84 (kd := 0) (n := 200) (m := 200) (lo := 0) (hi := 75) (rs := []) (L := []) rfl (by decide) (j := j.toNat) (by omega)
  have hK_0_85 : ∀ j : Int, 0 ≤ j → j < 200 → 0 ≤ w_ei ws (w_ar ws (n_v vs 0) 85) j ∧ w_ei ws (w_ar ws (n_v vs 0) 85) j ≤ 72 := fun j h0 h1 => th_el hD hth cr_0_85 (kd := 0) (n := 200) (m := 200) (lo := 0) (hi := 72) (rs := []) (L := []) rfl (by decide) (j := j.toNat) (by omega)
  have hK_0_86 : ∀ j : Int, 0 ≤ j → j < 200 → 0 ≤ w_ei ws (w_ar ws (n_v vs 0) 86) j ∧ w_ei ws (w_ar ws (n_v vs 0) 86) j ≤ 1 := fun j h0 h1 => th_el hD hth cr_0_86 (kd := 2) (n := 200) (m := 200) (lo := 0) (hi := 1) (rs := []) (L := []) rfl (by decide) (j := j.toNat) (by omega)
  have hK_0_95 : ∀ j : Int, 0 ≤ j → j < 48 → 0 ≤ w_ei ws (w_ar ws (n_v vs 0) 95) j ∧ w_ei ws (w_ar ws (n_v vs 0) 95) j ≤ 1 := fun j h0 h1 => th_el hD hth cr_0_95 (kd := 2) (n := 48) (m := 48) (lo := 0) (hi := 1) (rs := []) (L := []) rfl (by decide) (j := j.toNat) (by omega)
  have hK_0_102 : ∀ j : Int, 0 ≤ j → j < 76 → 0 ≤ w_ei ws (w_ar ws (n_v vs 0) 102) j ∧ w_ei ws (w_ar ws (n_v vs 0) 102) j ≤ 75 := fun j h0 h1 => th_el hD hth cr_0_102 (kd := 0) (n := 76) (m := 76) (lo := 0) (hi := 75) (rs := []) (L := []) rfl (by decide) (j := j.toNat) (by omega)
  have hK_0_104 : ∀ j : Int, 0 ≤ j → j < 48 → 0 ≤ w_ei ws (w_ar ws (n_v vs 0) 104) j ∧ w_ei ws (w_ar ws (n_v vs 0) 104) j ≤ 76 := fun j h0 h1 => th_el hD hth cr_0_104 (kd := 0) (n := 48) (m := 48) (lo := 0) (hi := 76) (rs := []) (L := []) rfl (by decide) (j := j.toNat) (by omega)
  have hK_0_105 : ∀ j : Int, 0 ≤ j → j < 76 → 0 ≤ w_ei ws (w_ar ws (n_v vs 0) 105) j ∧ w_ei ws (w_ar ws (n_v vs 0) 105) j ≤ 76 := fun j h0 h1 => th_el hD hth cr_0_105 (kd := 0) (n := 76) (m := 76) (lo := 0) (hi := 76) (rs := []) (L := []) rfl (by decide) (j := j.toNat) (by omega)
  have hK_0_106 : ∀ j : Int, 0 ≤ j → j < 5776 → 0 ≤ w_ei ws (w_ar ws (n_v vs 0) 106) j ∧ w_ei ws (w_ar ws (n_v vs 0) 106) j ≤ 75 := fun j h0 h1 => th_el hD hth cr_0_106 (kd := 0) (n := 5776) (m := 5776) (lo := 0) (hi := 75) (rs := []) (L := []) rfl (by decide) (j := j.toNat) (by omega)
  have hK_0_108 : ∀ j : Int, 0 ≤ j → j < 130 → 0 ≤ w_ei ws (w_ar ws (n_v vs 0) 108) j ∧ w_ei ws (w_ar ws (n_v vs 0) 108) j ≤ 75 := fun j h0 h1 => th_el hD hth cr_0_108 (kd := 0) (n := 130) (m := 130) (lo := 0) (hi := 75) (rs := []) (L := []) rfl (by decide) (j := j.toNat) (by omega)
  have hK_0_109 : ∀ j : Int, 0 ≤ j → j < 130 → 0 ≤ w_ei ws (w_ar ws (n_v vs 0) 109) j ∧ w_ei ws (w_ar ws (n_v vs 0) 109) j ≤ 75 := fun j h0 h1 => th_el hD hth cr_0_109 (kd := 0) (n := 130) (m := 130) (lo := 0) (hi := 75) (rs := []) (L := []) rfl (by decide) (j := j.toNat) (by omega)
  have kz_0_79 : 0 ≤ w_fi ws (n_v vs 0) 79 ∧ w_fi ws (n_v vs 0) 79 ≤ 76 := tv_rng (th_fd hD hth r0 (g := GG_150) rfl (k := 79) (t := (0, 0, 76, [])) rfl rfl)
  have kz_0_80 : 0 ≤ w_fi ws (n_v vs 0) 80 ∧ w_fi ws (n_v vs 0) 80 ≤ 200 := tv_rng (th_fd hD hth r0 (g := GG_150) rfl (k := 80) (t := (0, 0, 200, [])) rfl rfl)
  have kz_0_81 : 0 ≤ w_fi ws (n_v vs 0) 81 ∧ w_fi ws (n_v vs 0) 81 ≤ 200 := tv_rng (th_fd hD hth r0 (g := GG_150) rfl (k := 81) (t := (0, 0, 200, [])) rfl rfl)
  have kz_0_100 : 0 ≤ w_fi ws (n_v vs 0) 100 ∧ w_fi ws (n_v vs 0) 100 ≤ 76 := tv_rng (th_fd hD hth r0 (g := GG_150) rfl (k := 100) (t := (0, 0, 76, [])) rfl rfl)
  have kz_0_101 : 0 ≤ w_fi ws (n_v vs 0) 101 ∧ w_fi ws (n_v vs 0) 101 ≤ 76 := tv_rng (th_fd hD hth r0 (g := GG_150) rfl (k := 101) (t := (0, 0, 76, [])) rfl rfl)
  have kz_0_107 : 0 ≤ w_fi ws (n_v vs 0) 107 ∧ w_fi ws (n_v vs 0) 107 ≤ 130 := tv_rng (th_fd hD hth r0 (g := GG_150) rfl (k := 107) (t := (0, 0, 130, [])) rfl rfl)
  have hrf0 : 0 ≤ v_iv (n_v vs 14) ∧ v_iv (n_v vs 14) ≤ 47 := vc_Mo_across2_2_r0 (v_iv (n_v vs 2)) (v_iv (n_v vs 3)) (v_iv (n_v vs 5)) (v_iv (n_v vs 6)) (v_iv (n_v vs 9)) (v_iv (n_v vs 10)) (v_iv (n_v vs 12)) (v_iv (n_v vs 13)) (v_iv (n_v vs 14)) (v_iv (n_v vs 15)) (v_iv (n_v vs 16)) (w_ei ws (w_ar ws (n_v vs 0) 109)) (w_ei ws (w_ar ws (n_v vs 0) 108)) (w_ei ws (w_ar ws (n_v vs 0) 2)) (w_fi ws (n_v vs 0) 5) (w_fi ws (n_v vs 0) 107) (w_ei ws (w_ar ws (n_v vs 0) 95)) (w_ei ws (w_ar ws (n_v vs 0) 102)) (w_ei ws (w_ar ws (n_v vs 0) 104)) (w_fi ws (n_v vs 0) 100) (w_fi ws (n_v vs 0) 101) (w_ei ws (w_ar ws (n_v vs 0) 105)) (w_ei ws (w_ar ws (n_v vs 0) 106)) (w_fi ws (n_v vs 0) 79) (w_ei ws (w_ar ws (n_v vs 0) 83)) (w_ei ws (w_ar ws (n_v vs 0) 84)) (w_ei ws (w_ar ws (n_v vs 0) 85)) (w_ei ws (w_ar ws (n_v vs 0) 86)) (w_fi ws (n_v vs 0) 80) (w_fi ws (n_v vs 0) 81) k2 k3 k5 k6 k9 k10 k12 k13 k14 k15 k16 d0 d1 d2 h0 h2 f4 h5 h6 f7 f8 f9 h10 f11 f12 f13 h14 f15 g16 f17 f18 f19 f20 f21 f22 f23 hK_0_83 hK_0_84 hK_0_85 hK_0_86 hK_0_95 hK_0_102 hK_0_104 hK_0_105 hK_0_106 hK_0_108 hK_0_109 kz_0_79 kz_0_80 kz_0_81 kz_0_100 kz_0_101 kz_0_107
  have rf14 : tv_ok ta (0, 0, 47, []) (n_v vs 14) := tv_in t14 (by first | omega | grind) (by first | omega | grind)
  refine ⟨List.forall_mem_cons.mpr ⟨rf14, (fun _ h => (by cases h))⟩, [], trivial, ?_, (fun _ h => (by cases h))⟩
  rw [List.append_nil]
  exact (fun _ h => (by cases h))
set_option maxHeartbeats 4000000 in
theorem vc_Mo_across2_3_0 (x2 : Int) (x3 : Int) (x5 : Int) (x6 : Int) (x9 : Int) (x10 : Int) (x12 : Int) (x13 : Int) (x14 : Int) (x15 : Int) (x16 : Int) (lineB_0 : Int → Int) (lineA_0 : Int → Int) (all_0 : Int → Int) (r_0 : Int) (lines_0 : Int) (turned_0 : Int → Int) (itemLayer_0 : Int → Int) (firstJoint_0 : Int → Int) (items_0 : Int) (layerMany_0 : Int) (layerSize_0 : Int → Int) (layerItem_0 : Int → Int) (pointMany_0 : Int) (costA_0 : Int → Int) (costB_0 : Int → Int) (costW_0 : Int → Int) (costPlain_0 : Int → Int) (costMany_0 : Int) (apartMany_0 : Int) (gx : Int) (k2 : 0 ≤ x2 ∧ x2 ≤ 129) (k3 : 1 ≤ x3 ∧ x3 ≤ 130) (k5 : 0 ≤ x5 ∧ x5 ≤ 23) (k6 : 1 ≤ x6 ∧ x6 ≤ 24) (k9 : 0 ≤ x9 ∧ x9 ≤ 23) (k10 : 1 ≤ x10 ∧ x10 ≤ 24) (k12 : 0 ≤ x12 ∧ x12 ≤ 75) (k13 : 0 ≤ x13 ∧ x13 ≤ 75) (k14 : 0 ≤ x14 ∧ x14 ≤ 47) (k15 : 0 ≤ x15 ∧ x15 ≤ 75) (k16 : 0 ≤ x16 ∧ x16 ≤ 75) (d0 : x10 + (-4294967296) ≤ x9 ∧ x9 ≤ x10 + (-1)) (d1 : x6 + (-4294967296) ≤ x5 ∧ x5 ≤ x6 + (-1)) (d2 : x3 + (-4294967296) ≤ x2 ∧ x2 ≤ x3 + (-1)) (h0 : x16 = lineB_0 (x2)) (h2 : x15 = lineA_0 (x2)) (f4 : BTP (r_0) (all_0) (x12) (x13) (x14)) (h5 : x13 = lineB_0 (x2)) (h6 : x12 = lineA_0 (x2)) (f7 : x9 < x10) (f8 : 1 * x10 + ((-1) * all_0 (r_0 + 0) + 0) ≤ 0) (f9 : (-1) * x10 + (1 * all_0 (r_0 + 0) + 0) ≤ 0) (h10 : x9 = lineB_0 (x2)) (f11 : x5 < x6) (f12 : 1 * x6 + ((-1) * all_0 (r_0 + 0) + 0) ≤ 0) (f13 : (-1) * x6 + (1 * all_0 (r_0 + 0) + 0) ≤ 0) (h14 : x5 = lineA_0 (x2)) (f15 : x2 < x3) (g16 : x3 = lines_0) (f17 : LSA (r_0) (items_0) (layerMany_0) (lines_0) (all_0) (turned_0) (itemLayer_0) (firstJoint_0) (lineA_0) (lineB_0)) (f18 : LSB (items_0) (layerMany_0) (itemLayer_0) (layerSize_0) (layerItem_0)) (f19 : SGR (r_0) (all_0)) (f20 : pointMany_0 = items_0) (f21 : PCQ (pointMany_0) (costMany_0) (costA_0) (costB_0) (costW_0) (costPlain_0)) (f22 : costMany_0 = x2) (f23 : apartMany_0 = 0) (hK_0_83 : ∀ j : Int, 0 ≤ j → j < 200 → 0 ≤ costA_0 j ∧ costA_0 j ≤ 75) (hK_0_84 : ∀ j : Int, 0 ≤ j → j < 200 → 0 ≤ costB_0 j ∧ costB_0 j ≤ 75) (hK_0_85 : ∀ j : Int, 0 ≤ j → j < 200 → 0 ≤ costW_0 j ∧ costW_0 j ≤ 72) (hK_0_86 : ∀ j : Int, 0 ≤ j → j < 200 → 0 ≤ costPlain_0 j ∧ costPlain_0 j ≤ 1) (hK_0_95 : ∀ j : Int, 0 ≤ j → j < 48 → 0 ≤ turned_0 j ∧ turned_0 j ≤ 1) (hK_0_102 : ∀ j : Int, 0 ≤ j → j < 76 → 0 ≤ itemLayer_0 j ∧ itemLayer_0 j ≤ 75) (hK_0_104 : ∀ j : Int, 0 ≤ j → j < 48 → 0 ≤ firstJoint_0 j ∧ firstJoint_0 j ≤ 76) (hK_0_105 : ∀ j : Int, 0 ≤ j → j < 76 → 0 ≤ layerSize_0 j ∧ layerSize_0 j ≤ 76) (hK_0_106 : ∀ j : Int, 0 ≤ j → j < 5776 → 0 ≤ layerItem_0 j ∧ layerItem_0 j ≤ 75) (hK_0_108 : ∀ j : Int, 0 ≤ j → j < 130 → 0 ≤ lineA_0 j ∧ lineA_0 j ≤ 75) (hK_0_109 : ∀ j : Int, 0 ≤ j → j < 130 → 0 ≤ lineB_0 j ∧ lineB_0 j ≤ 75) (kz_0_79 : 0 ≤ pointMany_0 ∧ pointMany_0 ≤ 76) (kz_0_80 : 0 ≤ costMany_0 ∧ costMany_0 ≤ 200) (kz_0_81 : 0 ≤ apartMany_0 ∧ apartMany_0 ≤ 200) (kz_0_100 : 0 ≤ items_0 ∧ items_0 ≤ 76) (kz_0_101 : 0 ≤ layerMany_0 ∧ layerMany_0 ≤ 76) (kz_0_107 : 0 ≤ lines_0 ∧ lines_0 ≤ 130) (ex2 : gx = x2) (ex3 : 0 ≤ gx ∧ gx ≤ 199) : 1 * gx + ((-1) * x2 + 0) ≤ 0 := by
  try simp only [Int.add_zero] at *
  first
    | omega
    | (have h := ‹LSA _ _ _ _ _ _ _ _ _ _›.2.1; omega)
    | (have h := lsa_la (p := x2) (x := x15) ‹LSA _ _ _ _ _ _ _ _ _ _› (by omega) (by omega) (by assumption); omega)
    | (have h := lsa_lb (p := x2) (x := x16) ‹LSA _ _ _ _ _ _ _ _ _ _› (by omega) (by omega) (by assumption); omega)
set_option maxHeartbeats 4000000 in
theorem vc_Mo_across2_3_1 (x2 : Int) (x3 : Int) (x5 : Int) (x6 : Int) (x9 : Int) (x10 : Int) (x12 : Int) (x13 : Int) (x14 : Int) (x15 : Int) (x16 : Int) (lineB_0 : Int → Int) (lineA_0 : Int → Int) (all_0 : Int → Int) (r_0 : Int) (lines_0 : Int) (turned_0 : Int → Int) (itemLayer_0 : Int → Int) (firstJoint_0 : Int → Int) (items_0 : Int) (layerMany_0 : Int) (layerSize_0 : Int → Int) (layerItem_0 : Int → Int) (pointMany_0 : Int) (costA_0 : Int → Int) (costB_0 : Int → Int) (costW_0 : Int → Int) (costPlain_0 : Int → Int) (costMany_0 : Int) (apartMany_0 : Int) (gx : Int) (k2 : 0 ≤ x2 ∧ x2 ≤ 129) (k3 : 1 ≤ x3 ∧ x3 ≤ 130) (k5 : 0 ≤ x5 ∧ x5 ≤ 23) (k6 : 1 ≤ x6 ∧ x6 ≤ 24) (k9 : 0 ≤ x9 ∧ x9 ≤ 23) (k10 : 1 ≤ x10 ∧ x10 ≤ 24) (k12 : 0 ≤ x12 ∧ x12 ≤ 75) (k13 : 0 ≤ x13 ∧ x13 ≤ 75) (k14 : 0 ≤ x14 ∧ x14 ≤ 47) (k15 : 0 ≤ x15 ∧ x15 ≤ 75) (k16 : 0 ≤ x16 ∧ x16 ≤ 75) (d0 : x10 + (-4294967296) ≤ x9 ∧ x9 ≤ x10 + (-1)) (d1 : x6 + (-4294967296) ≤ x5 ∧ x5 ≤ x6 + (-1)) (d2 : x3 + (-4294967296) ≤ x2 ∧ x2 ≤ x3 + (-1)) (h0 : x16 = lineB_0 (x2)) (h2 : x15 = lineA_0 (x2)) (f4 : BTP (r_0) (all_0) (x12) (x13) (x14)) (h5 : x13 = lineB_0 (x2)) (h6 : x12 = lineA_0 (x2)) (f7 : x9 < x10) (f8 : 1 * x10 + ((-1) * all_0 (r_0 + 0) + 0) ≤ 0) (f9 : (-1) * x10 + (1 * all_0 (r_0 + 0) + 0) ≤ 0) (h10 : x9 = lineB_0 (x2)) (f11 : x5 < x6) (f12 : 1 * x6 + ((-1) * all_0 (r_0 + 0) + 0) ≤ 0) (f13 : (-1) * x6 + (1 * all_0 (r_0 + 0) + 0) ≤ 0) (h14 : x5 = lineA_0 (x2)) (f15 : x2 < x3) (g16 : x3 = lines_0) (f17 : LSA (r_0) (items_0) (layerMany_0) (lines_0) (all_0) (turned_0) (itemLayer_0) (firstJoint_0) (lineA_0) (lineB_0)) (f18 : LSB (items_0) (layerMany_0) (itemLayer_0) (layerSize_0) (layerItem_0)) (f19 : SGR (r_0) (all_0)) (f20 : pointMany_0 = items_0) (f21 : PCQ (pointMany_0) (costMany_0) (costA_0) (costB_0) (costW_0) (costPlain_0)) (f22 : costMany_0 = x2) (f23 : apartMany_0 = 0) (hK_0_83 : ∀ j : Int, 0 ≤ j → j < 200 → 0 ≤ costA_0 j ∧ costA_0 j ≤ 75) (hK_0_84 : ∀ j : Int, 0 ≤ j → j < 200 → 0 ≤ costB_0 j ∧ costB_0 j ≤ 75) (hK_0_85 : ∀ j : Int, 0 ≤ j → j < 200 → 0 ≤ costW_0 j ∧ costW_0 j ≤ 72) (hK_0_86 : ∀ j : Int, 0 ≤ j → j < 200 → 0 ≤ costPlain_0 j ∧ costPlain_0 j ≤ 1) (hK_0_95 : ∀ j : Int, 0 ≤ j → j < 48 → 0 ≤ turned_0 j ∧ turned_0 j ≤ 1) (hK_0_102 : ∀ j : Int, 0 ≤ j → j < 76 → 0 ≤ itemLayer_0 j ∧ itemLayer_0 j ≤ 75) (hK_0_104 : ∀ j : Int, 0 ≤ j → j < 48 → 0 ≤ firstJoint_0 j ∧ firstJoint_0 j ≤ 76) (hK_0_105 : ∀ j : Int, 0 ≤ j → j < 76 → 0 ≤ layerSize_0 j ∧ layerSize_0 j ≤ 76) (hK_0_106 : ∀ j : Int, 0 ≤ j → j < 5776 → 0 ≤ layerItem_0 j ∧ layerItem_0 j ≤ 75) (hK_0_108 : ∀ j : Int, 0 ≤ j → j < 130 → 0 ≤ lineA_0 j ∧ lineA_0 j ≤ 75) (hK_0_109 : ∀ j : Int, 0 ≤ j → j < 130 → 0 ≤ lineB_0 j ∧ lineB_0 j ≤ 75) (kz_0_79 : 0 ≤ pointMany_0 ∧ pointMany_0 ≤ 76) (kz_0_80 : 0 ≤ costMany_0 ∧ costMany_0 ≤ 200) (kz_0_81 : 0 ≤ apartMany_0 ∧ apartMany_0 ≤ 200) (kz_0_100 : 0 ≤ items_0 ∧ items_0 ≤ 76) (kz_0_101 : 0 ≤ layerMany_0 ∧ layerMany_0 ≤ 76) (kz_0_107 : 0 ≤ lines_0 ∧ lines_0 ≤ 130) (ex2 : gx = x2) (ex3 : 0 ≤ gx ∧ gx ≤ 199) : (-1) * gx + (1 * x2 + 0) ≤ 0 := by
  try simp only [Int.add_zero] at *
  first
    | omega
    | (have h := ‹LSA _ _ _ _ _ _ _ _ _ _›.2.1; omega)
    | (have h := lsa_la (p := x2) (x := x15) ‹LSA _ _ _ _ _ _ _ _ _ _› (by omega) (by omega) (by assumption); omega)
    | (have h := lsa_lb (p := x2) (x := x16) ‹LSA _ _ _ _ _ _ _ _ _ _› (by omega) (by omega) (by assumption); omega)
set_option maxHeartbeats 4000000 in
theorem vc_Mo_across2_3_2 (x2 : Int) (x3 : Int) (x5 : Int) (x6 : Int) (x9 : Int) (x10 : Int) (x12 : Int) (x13 : Int) (x14 : Int) (x15 : Int) (x16 : Int) (lineB_0 : Int → Int) (lineA_0 : Int → Int) (all_0 : Int → Int) (r_0 : Int) (lines_0 : Int) (turned_0 : Int → Int) (itemLayer_0 : Int → Int) (firstJoint_0 : Int → Int) (items_0 : Int) (layerMany_0 : Int) (layerSize_0 : Int → Int) (layerItem_0 : Int → Int) (pointMany_0 : Int) (costA_0 : Int → Int) (costB_0 : Int → Int) (costW_0 : Int → Int) (costPlain_0 : Int → Int) (costMany_0 : Int) (apartMany_0 : Int) (gx : Int) (k2 : 0 ≤ x2 ∧ x2 ≤ 129) (k3 : 1 ≤ x3 ∧ x3 ≤ 130) (k5 : 0 ≤ x5 ∧ x5 ≤ 23) (k6 : 1 ≤ x6 ∧ x6 ≤ 24) (k9 : 0 ≤ x9 ∧ x9 ≤ 23) (k10 : 1 ≤ x10 ∧ x10 ≤ 24) (k12 : 0 ≤ x12 ∧ x12 ≤ 75) (k13 : 0 ≤ x13 ∧ x13 ≤ 75) (k14 : 0 ≤ x14 ∧ x14 ≤ 47) (k15 : 0 ≤ x15 ∧ x15 ≤ 75) (k16 : 0 ≤ x16 ∧ x16 ≤ 75) (d0 : x10 + (-4294967296) ≤ x9 ∧ x9 ≤ x10 + (-1)) (d1 : x6 + (-4294967296) ≤ x5 ∧ x5 ≤ x6 + (-1)) (d2 : x3 + (-4294967296) ≤ x2 ∧ x2 ≤ x3 + (-1)) (h0 : x16 = lineB_0 (x2)) (h2 : x15 = lineA_0 (x2)) (f4 : BTP (r_0) (all_0) (x12) (x13) (x14)) (h5 : x13 = lineB_0 (x2)) (h6 : x12 = lineA_0 (x2)) (f7 : x9 < x10) (f8 : 1 * x10 + ((-1) * all_0 (r_0 + 0) + 0) ≤ 0) (f9 : (-1) * x10 + (1 * all_0 (r_0 + 0) + 0) ≤ 0) (h10 : x9 = lineB_0 (x2)) (f11 : x5 < x6) (f12 : 1 * x6 + ((-1) * all_0 (r_0 + 0) + 0) ≤ 0) (f13 : (-1) * x6 + (1 * all_0 (r_0 + 0) + 0) ≤ 0) (h14 : x5 = lineA_0 (x2)) (f15 : x2 < x3) (g16 : x3 = lines_0) (f17 : LSA (r_0) (items_0) (layerMany_0) (lines_0) (all_0) (turned_0) (itemLayer_0) (firstJoint_0) (lineA_0) (lineB_0)) (f18 : LSB (items_0) (layerMany_0) (itemLayer_0) (layerSize_0) (layerItem_0)) (f19 : SGR (r_0) (all_0)) (f20 : pointMany_0 = items_0) (f21 : PCQ (pointMany_0) (costMany_0) (costA_0) (costB_0) (costW_0) (costPlain_0)) (f22 : costMany_0 = x2) (f23 : apartMany_0 = 0) (hK_0_83 : ∀ j : Int, 0 ≤ j → j < 200 → 0 ≤ costA_0 j ∧ costA_0 j ≤ 75) (hK_0_84 : ∀ j : Int, 0 ≤ j → j < 200 → 0 ≤ costB_0 j ∧ costB_0 j ≤ 75) (hK_0_85 : ∀ j : Int, 0 ≤ j → j < 200 → 0 ≤ costW_0 j ∧ costW_0 j ≤ 72) (hK_0_86 : ∀ j : Int, 0 ≤ j → j < 200 → 0 ≤ costPlain_0 j ∧ costPlain_0 j ≤ 1) (hK_0_95 : ∀ j : Int, 0 ≤ j → j < 48 → 0 ≤ turned_0 j ∧ turned_0 j ≤ 1) (hK_0_102 : ∀ j : Int, 0 ≤ j → j < 76 → 0 ≤ itemLayer_0 j ∧ itemLayer_0 j ≤ 75) (hK_0_104 : ∀ j : Int, 0 ≤ j → j < 48 → 0 ≤ firstJoint_0 j ∧ firstJoint_0 j ≤ 76) (hK_0_105 : ∀ j : Int, 0 ≤ j → j < 76 → 0 ≤ layerSize_0 j ∧ layerSize_0 j ≤ 76) (hK_0_106 : ∀ j : Int, 0 ≤ j → j < 5776 → 0 ≤ layerItem_0 j ∧ layerItem_0 j ≤ 75) (hK_0_108 : ∀ j : Int, 0 ≤ j → j < 130 → 0 ≤ lineA_0 j ∧ lineA_0 j ≤ 75) (hK_0_109 : ∀ j : Int, 0 ≤ j → j < 130 → 0 ≤ lineB_0 j ∧ lineB_0 j ≤ 75) (kz_0_79 : 0 ≤ pointMany_0 ∧ pointMany_0 ≤ 76) (kz_0_80 : 0 ≤ costMany_0 ∧ costMany_0 ≤ 200) (kz_0_81 : 0 ≤ apartMany_0 ∧ apartMany_0 ≤ 200) (kz_0_100 : 0 ≤ items_0 ∧ items_0 ≤ 76) (kz_0_101 : 0 ≤ layerMany_0 ∧ layerMany_0 ≤ 76) (kz_0_107 : 0 ≤ lines_0 ∧ lines_0 ≤ 130) (ex2 : gx = x2) (ex3 : 0 ≤ gx ∧ gx ≤ 199) : costMany_0 = gx := by
  try simp only [Int.add_zero] at *
  first
    | omega
    | (have h := ‹LSA _ _ _ _ _ _ _ _ _ _›.2.1; omega)
    | (have h := lsa_la (p := x2) (x := x15) ‹LSA _ _ _ _ _ _ _ _ _ _› (by omega) (by omega) (by assumption); omega)
    | (have h := lsa_lb (p := x2) (x := x16) ‹LSA _ _ _ _ _ _ _ _ _ _› (by omega) (by omega) (by assumption); omega)
set_option maxHeartbeats 4000000 in
theorem vc_Mo_across2_3_3 (x2 : Int) (x3 : Int) (x5 : Int) (x6 : Int) (x9 : Int) (x10 : Int) (x12 : Int) (x13 : Int) (x14 : Int) (x15 : Int) (x16 : Int) (lineB_0 : Int → Int) (lineA_0 : Int → Int) (all_0 : Int → Int) (r_0 : Int) (lines_0 : Int) (turned_0 : Int → Int) (itemLayer_0 : Int → Int) (firstJoint_0 : Int → Int) (items_0 : Int) (layerMany_0 : Int) (layerSize_0 : Int → Int) (layerItem_0 : Int → Int) (pointMany_0 : Int) (costA_0 : Int → Int) (costB_0 : Int → Int) (costW_0 : Int → Int) (costPlain_0 : Int → Int) (costMany_0 : Int) (apartMany_0 : Int) (gx : Int) (k2 : 0 ≤ x2 ∧ x2 ≤ 129) (k3 : 1 ≤ x3 ∧ x3 ≤ 130) (k5 : 0 ≤ x5 ∧ x5 ≤ 23) (k6 : 1 ≤ x6 ∧ x6 ≤ 24) (k9 : 0 ≤ x9 ∧ x9 ≤ 23) (k10 : 1 ≤ x10 ∧ x10 ≤ 24) (k12 : 0 ≤ x12 ∧ x12 ≤ 75) (k13 : 0 ≤ x13 ∧ x13 ≤ 75) (k14 : 0 ≤ x14 ∧ x14 ≤ 47) (k15 : 0 ≤ x15 ∧ x15 ≤ 75) (k16 : 0 ≤ x16 ∧ x16 ≤ 75) (d0 : x10 + (-4294967296) ≤ x9 ∧ x9 ≤ x10 + (-1)) (d1 : x6 + (-4294967296) ≤ x5 ∧ x5 ≤ x6 + (-1)) (d2 : x3 + (-4294967296) ≤ x2 ∧ x2 ≤ x3 + (-1)) (h0 : x16 = lineB_0 (x2)) (h2 : x15 = lineA_0 (x2)) (f4 : BTP (r_0) (all_0) (x12) (x13) (x14)) (h5 : x13 = lineB_0 (x2)) (h6 : x12 = lineA_0 (x2)) (f7 : x9 < x10) (f8 : 1 * x10 + ((-1) * all_0 (r_0 + 0) + 0) ≤ 0) (f9 : (-1) * x10 + (1 * all_0 (r_0 + 0) + 0) ≤ 0) (h10 : x9 = lineB_0 (x2)) (f11 : x5 < x6) (f12 : 1 * x6 + ((-1) * all_0 (r_0 + 0) + 0) ≤ 0) (f13 : (-1) * x6 + (1 * all_0 (r_0 + 0) + 0) ≤ 0) (h14 : x5 = lineA_0 (x2)) (f15 : x2 < x3) (g16 : x3 = lines_0) (f17 : LSA (r_0) (items_0) (layerMany_0) (lines_0) (all_0) (turned_0) (itemLayer_0) (firstJoint_0) (lineA_0) (lineB_0)) (f18 : LSB (items_0) (layerMany_0) (itemLayer_0) (layerSize_0) (layerItem_0)) (f19 : SGR (r_0) (all_0)) (f20 : pointMany_0 = items_0) (f21 : PCQ (pointMany_0) (costMany_0) (costA_0) (costB_0) (costW_0) (costPlain_0)) (f22 : costMany_0 = x2) (f23 : apartMany_0 = 0) (hK_0_83 : ∀ j : Int, 0 ≤ j → j < 200 → 0 ≤ costA_0 j ∧ costA_0 j ≤ 75) (hK_0_84 : ∀ j : Int, 0 ≤ j → j < 200 → 0 ≤ costB_0 j ∧ costB_0 j ≤ 75) (hK_0_85 : ∀ j : Int, 0 ≤ j → j < 200 → 0 ≤ costW_0 j ∧ costW_0 j ≤ 72) (hK_0_86 : ∀ j : Int, 0 ≤ j → j < 200 → 0 ≤ costPlain_0 j ∧ costPlain_0 j ≤ 1) (hK_0_95 : ∀ j : Int, 0 ≤ j → j < 48 → 0 ≤ turned_0 j ∧ turned_0 j ≤ 1) (hK_0_102 : ∀ j : Int, 0 ≤ j → j < 76 → 0 ≤ itemLayer_0 j ∧ itemLayer_0 j ≤ 75) (hK_0_104 : ∀ j : Int, 0 ≤ j → j < 48 → 0 ≤ firstJoint_0 j ∧ firstJoint_0 j ≤ 76) (hK_0_105 : ∀ j : Int, 0 ≤ j → j < 76 → 0 ≤ layerSize_0 j ∧ layerSize_0 j ≤ 76) (hK_0_106 : ∀ j : Int, 0 ≤ j → j < 5776 → 0 ≤ layerItem_0 j ∧ layerItem_0 j ≤ 75) (hK_0_108 : ∀ j : Int, 0 ≤ j → j < 130 → 0 ≤ lineA_0 j ∧ lineA_0 j ≤ 75) (hK_0_109 : ∀ j : Int, 0 ≤ j → j < 130 → 0 ≤ lineB_0 j ∧ lineB_0 j ≤ 75) (kz_0_79 : 0 ≤ pointMany_0 ∧ pointMany_0 ≤ 76) (kz_0_80 : 0 ≤ costMany_0 ∧ costMany_0 ≤ 200) (kz_0_81 : 0 ≤ apartMany_0 ∧ apartMany_0 ≤ 200) (kz_0_100 : 0 ≤ items_0 ∧ items_0 ≤ 76) (kz_0_101 : 0 ≤ layerMany_0 ∧ layerMany_0 ≤ 76) (kz_0_107 : 0 ≤ lines_0 ∧ lines_0 ≤ 130) (ex2 : gx = x2) (ex3 : 0 ≤ gx ∧ gx ≤ 199) : PCQ (pointMany_0) (costMany_0) (costA_0) (costB_0) (costW_0) (costPlain_0) := by
  assumption
set_option maxHeartbeats 4000000 in
theorem vc_Mo_across2_3_4 (x2 : Int) (x3 : Int) (x5 : Int) (x6 : Int) (x9 : Int) (x10 : Int) (x12 : Int) (x13 : Int) (x14 : Int) (x15 : Int) (x16 : Int) (lineB_0 : Int → Int) (lineA_0 : Int → Int) (all_0 : Int → Int) (r_0 : Int) (lines_0 : Int) (turned_0 : Int → Int) (itemLayer_0 : Int → Int) (firstJoint_0 : Int → Int) (items_0 : Int) (layerMany_0 : Int) (layerSize_0 : Int → Int) (layerItem_0 : Int → Int) (pointMany_0 : Int) (costA_0 : Int → Int) (costB_0 : Int → Int) (costW_0 : Int → Int) (costPlain_0 : Int → Int) (costMany_0 : Int) (apartMany_0 : Int) (gx : Int) (k2 : 0 ≤ x2 ∧ x2 ≤ 129) (k3 : 1 ≤ x3 ∧ x3 ≤ 130) (k5 : 0 ≤ x5 ∧ x5 ≤ 23) (k6 : 1 ≤ x6 ∧ x6 ≤ 24) (k9 : 0 ≤ x9 ∧ x9 ≤ 23) (k10 : 1 ≤ x10 ∧ x10 ≤ 24) (k12 : 0 ≤ x12 ∧ x12 ≤ 75) (k13 : 0 ≤ x13 ∧ x13 ≤ 75) (k14 : 0 ≤ x14 ∧ x14 ≤ 47) (k15 : 0 ≤ x15 ∧ x15 ≤ 75) (k16 : 0 ≤ x16 ∧ x16 ≤ 75) (d0 : x10 + (-4294967296) ≤ x9 ∧ x9 ≤ x10 + (-1)) (d1 : x6 + (-4294967296) ≤ x5 ∧ x5 ≤ x6 + (-1)) (d2 : x3 + (-4294967296) ≤ x2 ∧ x2 ≤ x3 + (-1)) (h0 : x16 = lineB_0 (x2)) (h2 : x15 = lineA_0 (x2)) (f4 : BTP (r_0) (all_0) (x12) (x13) (x14)) (h5 : x13 = lineB_0 (x2)) (h6 : x12 = lineA_0 (x2)) (f7 : x9 < x10) (f8 : 1 * x10 + ((-1) * all_0 (r_0 + 0) + 0) ≤ 0) (f9 : (-1) * x10 + (1 * all_0 (r_0 + 0) + 0) ≤ 0) (h10 : x9 = lineB_0 (x2)) (f11 : x5 < x6) (f12 : 1 * x6 + ((-1) * all_0 (r_0 + 0) + 0) ≤ 0) (f13 : (-1) * x6 + (1 * all_0 (r_0 + 0) + 0) ≤ 0) (h14 : x5 = lineA_0 (x2)) (f15 : x2 < x3) (g16 : x3 = lines_0) (f17 : LSA (r_0) (items_0) (layerMany_0) (lines_0) (all_0) (turned_0) (itemLayer_0) (firstJoint_0) (lineA_0) (lineB_0)) (f18 : LSB (items_0) (layerMany_0) (itemLayer_0) (layerSize_0) (layerItem_0)) (f19 : SGR (r_0) (all_0)) (f20 : pointMany_0 = items_0) (f21 : PCQ (pointMany_0) (costMany_0) (costA_0) (costB_0) (costW_0) (costPlain_0)) (f22 : costMany_0 = x2) (f23 : apartMany_0 = 0) (hK_0_83 : ∀ j : Int, 0 ≤ j → j < 200 → 0 ≤ costA_0 j ∧ costA_0 j ≤ 75) (hK_0_84 : ∀ j : Int, 0 ≤ j → j < 200 → 0 ≤ costB_0 j ∧ costB_0 j ≤ 75) (hK_0_85 : ∀ j : Int, 0 ≤ j → j < 200 → 0 ≤ costW_0 j ∧ costW_0 j ≤ 72) (hK_0_86 : ∀ j : Int, 0 ≤ j → j < 200 → 0 ≤ costPlain_0 j ∧ costPlain_0 j ≤ 1) (hK_0_95 : ∀ j : Int, 0 ≤ j → j < 48 → 0 ≤ turned_0 j ∧ turned_0 j ≤ 1) (hK_0_102 : ∀ j : Int, 0 ≤ j → j < 76 → 0 ≤ itemLayer_0 j ∧ itemLayer_0 j ≤ 75) (hK_0_104 : ∀ j : Int, 0 ≤ j → j < 48 → 0 ≤ firstJoint_0 j ∧ firstJoint_0 j ≤ 76) (hK_0_105 : ∀ j : Int, 0 ≤ j → j < 76 → 0 ≤ layerSize_0 j ∧ layerSize_0 j ≤ 76) (hK_0_106 : ∀ j : Int, 0 ≤ j → j < 5776 → 0 ≤ layerItem_0 j ∧ layerItem_0 j ≤ 75) (hK_0_108 : ∀ j : Int, 0 ≤ j → j < 130 → 0 ≤ lineA_0 j ∧ lineA_0 j ≤ 75) (hK_0_109 : ∀ j : Int, 0 ≤ j → j < 130 → 0 ≤ lineB_0 j ∧ lineB_0 j ≤ 75) (kz_0_79 : 0 ≤ pointMany_0 ∧ pointMany_0 ≤ 76) (kz_0_80 : 0 ≤ costMany_0 ∧ costMany_0 ≤ 200) (kz_0_81 : 0 ≤ apartMany_0 ∧ apartMany_0 ≤ 200) (kz_0_100 : 0 ≤ items_0 ∧ items_0 ≤ 76) (kz_0_101 : 0 ≤ layerMany_0 ∧ layerMany_0 ≤ 76) (kz_0_107 : 0 ≤ lines_0 ∧ lines_0 ≤ 130) (ex2 : gx = x2) (ex3 : 0 ≤ gx ∧ gx ≤ 199) : (0 ≤ x15) ∧ ((x15 + 1) ≤ pointMany_0) := by
  try simp only [Int.add_zero] at *
  first
    | omega
    | (have h := ‹LSA _ _ _ _ _ _ _ _ _ _›.2.1; omega)
    | (have h := lsa_la (p := x2) (x := x15) ‹LSA _ _ _ _ _ _ _ _ _ _› (by omega) (by omega) (by assumption); omega)
    | (have h := lsa_lb (p := x2) (x := x16) ‹LSA _ _ _ _ _ _ _ _ _ _› (by omega) (by omega) (by assumption); omega)
set_option maxHeartbeats 4000000 in
theorem vc_Mo_across2_3_5 (x2 : Int) (x3 : Int) (x5 : Int) (x6 : Int) (x9 : Int) (x10 : Int) (x12 : Int) (x13 : Int) (x14 : Int) (x15 : Int) (x16 : Int) (lineB_0 : Int → Int) (lineA_0 : Int → Int) (all_0 : Int → Int) (r_0 : Int) (lines_0 : Int) (turned_0 : Int → Int) (itemLayer_0 : Int → Int) (firstJoint_0 : Int → Int) (items_0 : Int) (layerMany_0 : Int) (layerSize_0 : Int → Int) (layerItem_0 : Int → Int) (pointMany_0 : Int) (costA_0 : Int → Int) (costB_0 : Int → Int) (costW_0 : Int → Int) (costPlain_0 : Int → Int) (costMany_0 : Int) (apartMany_0 : Int) (gx : Int) (k2 : 0 ≤ x2 ∧ x2 ≤ 129) (k3 : 1 ≤ x3 ∧ x3 ≤ 130) (k5 : 0 ≤ x5 ∧ x5 ≤ 23) (k6 : 1 ≤ x6 ∧ x6 ≤ 24) (k9 : 0 ≤ x9 ∧ x9 ≤ 23) (k10 : 1 ≤ x10 ∧ x10 ≤ 24) (k12 : 0 ≤ x12 ∧ x12 ≤ 75) (k13 : 0 ≤ x13 ∧ x13 ≤ 75) (k14 : 0 ≤ x14 ∧ x14 ≤ 47) (k15 : 0 ≤ x15 ∧ x15 ≤ 75) (k16 : 0 ≤ x16 ∧ x16 ≤ 75) (d0 : x10 + (-4294967296) ≤ x9 ∧ x9 ≤ x10 + (-1)) (d1 : x6 + (-4294967296) ≤ x5 ∧ x5 ≤ x6 + (-1)) (d2 : x3 + (-4294967296) ≤ x2 ∧ x2 ≤ x3 + (-1)) (h0 : x16 = lineB_0 (x2)) (h2 : x15 = lineA_0 (x2)) (f4 : BTP (r_0) (all_0) (x12) (x13) (x14)) (h5 : x13 = lineB_0 (x2)) (h6 : x12 = lineA_0 (x2)) (f7 : x9 < x10) (f8 : 1 * x10 + ((-1) * all_0 (r_0 + 0) + 0) ≤ 0) (f9 : (-1) * x10 + (1 * all_0 (r_0 + 0) + 0) ≤ 0) (h10 : x9 = lineB_0 (x2)) (f11 : x5 < x6) (f12 : 1 * x6 + ((-1) * all_0 (r_0 + 0) + 0) ≤ 0) (f13 : (-1) * x6 + (1 * all_0 (r_0 + 0) + 0) ≤ 0) (h14 : x5 = lineA_0 (x2)) (f15 : x2 < x3) (g16 : x3 = lines_0) (f17 : LSA (r_0) (items_0) (layerMany_0) (lines_0) (all_0) (turned_0) (itemLayer_0) (firstJoint_0) (lineA_0) (lineB_0)) (f18 : LSB (items_0) (layerMany_0) (itemLayer_0) (layerSize_0) (layerItem_0)) (f19 : SGR (r_0) (all_0)) (f20 : pointMany_0 = items_0) (f21 : PCQ (pointMany_0) (costMany_0) (costA_0) (costB_0) (costW_0) (costPlain_0)) (f22 : costMany_0 = x2) (f23 : apartMany_0 = 0) (hK_0_83 : ∀ j : Int, 0 ≤ j → j < 200 → 0 ≤ costA_0 j ∧ costA_0 j ≤ 75) (hK_0_84 : ∀ j : Int, 0 ≤ j → j < 200 → 0 ≤ costB_0 j ∧ costB_0 j ≤ 75) (hK_0_85 : ∀ j : Int, 0 ≤ j → j < 200 → 0 ≤ costW_0 j ∧ costW_0 j ≤ 72) (hK_0_86 : ∀ j : Int, 0 ≤ j → j < 200 → 0 ≤ costPlain_0 j ∧ costPlain_0 j ≤ 1) (hK_0_95 : ∀ j : Int, 0 ≤ j → j < 48 → 0 ≤ turned_0 j ∧ turned_0 j ≤ 1) (hK_0_102 : ∀ j : Int, 0 ≤ j → j < 76 → 0 ≤ itemLayer_0 j ∧ itemLayer_0 j ≤ 75) (hK_0_104 : ∀ j : Int, 0 ≤ j → j < 48 → 0 ≤ firstJoint_0 j ∧ firstJoint_0 j ≤ 76) (hK_0_105 : ∀ j : Int, 0 ≤ j → j < 76 → 0 ≤ layerSize_0 j ∧ layerSize_0 j ≤ 76) (hK_0_106 : ∀ j : Int, 0 ≤ j → j < 5776 → 0 ≤ layerItem_0 j ∧ layerItem_0 j ≤ 75) (hK_0_108 : ∀ j : Int, 0 ≤ j → j < 130 → 0 ≤ lineA_0 j ∧ lineA_0 j ≤ 75) (hK_0_109 : ∀ j : Int, 0 ≤ j → j < 130 → 0 ≤ lineB_0 j ∧ lineB_0 j ≤ 75) (kz_0_79 : 0 ≤ pointMany_0 ∧ pointMany_0 ≤ 76) (kz_0_80 : 0 ≤ costMany_0 ∧ costMany_0 ≤ 200) (kz_0_81 : 0 ≤ apartMany_0 ∧ apartMany_0 ≤ 200) (kz_0_100 : 0 ≤ items_0 ∧ items_0 ≤ 76) (kz_0_101 : 0 ≤ layerMany_0 ∧ layerMany_0 ≤ 76) (kz_0_107 : 0 ≤ lines_0 ∧ lines_0 ≤ 130) (ex2 : gx = x2) (ex3 : 0 ≤ gx ∧ gx ≤ 199) : (0 ≤ x16) ∧ ((x16 + 1) ≤ pointMany_0) := by
  try simp only [Int.add_zero] at *
  first
    | omega
    | (have h := ‹LSA _ _ _ _ _ _ _ _ _ _›.2.1; omega)
    | (have h := lsa_la (p := x2) (x := x15) ‹LSA _ _ _ _ _ _ _ _ _ _› (by omega) (by omega) (by assumption); omega)
    | (have h := lsa_lb (p := x2) (x := x16) ‹LSA _ _ _ _ _ _ _ _ _ _› (by omega) (by omega) (by assumption); omega)
def o_Mo_across2_3 : or_T := (167, 21, [(0, (2, 0, 0, [150])), (1, (2, 0, 0, [150])), (2, (0, 0, 129, [])), (3, (0, 1, 130, [])), (4, (2, 0, 0, [225])), (5, (0, 0, 23, [])), (6, (0, 1, 24, [])), (8, (2, 0, 0, [226])), (9, (0, 0, 23, [])), (10, (0, 1, 24, [])), (12, (0, 0, 75, [])), (13, (0, 0, 75, [])), (14, (0, 0, 47, [])), (15, (0, 0, 75, [])), (16, (0, 0, 75, []))], [(10, [16, 8, 2], []), (9, [8, 1], [109]), (10, [15, 4, 2], []), (9, [4, 1], [108]), (20, [1, 12, 13, 14], [60, 1, 1, 130, 5, 2]), (10, [13, 8, 2], []), (10, [12, 4, 2], []), (7, [9, 10], [2]), (20, [10, 1], [30, 0, 1, 0, 0, -1, 3, 2005000]), (20, [10, 1], [30, 0, -1, 0, 0, 1, 3, 2005000]), (10, [9, 8, 2], []), (7, [5, 6], [2]), (20, [6, 1], [30, 0, 1, 0, 0, -1, 3, 2005000]), (20, [6, 1], [30, 0, -1, 0, 0, 1, 3, 2005000]), (10, [5, 4, 2], []), (7, [2, 3], [2]), (9, [3, 1], [107]), (20, [1], [60, 4, 6, 369, 5, 100, 101, 107, 2, 95, 102, 104, 108, 109]), (20, [1], [60, 2, 3, 372, 100, 101, 102, 105, 106]), (20, [1], [60, 1, 1, 122, 5, 2]), (20, [1], [50, 2, 0, 79, 100, 1, 3, 2, 0, 79, 2, 0, 100]), (20, [1], [60, 2, 4, 380, 79, 80, 83, 84, 85, 86]), (20, [1, 2], [50, 1, 0, 80, 1, 3, 2, 0, 80, 1, 1]), (20, [1], [50, 1, 0, 81, 1, 3, 2, 0, 81, 0, 0]), (24, [0, 1], [])], [], [(0, 0, 199, [])], [(23, [21, 2], [0, 1, -1]), (23, [21, 2], [0, -1, 1]), (20, [1, 21], [50, 1, 0, 80, 1, 3, 2, 0, 80, 1, 1]), (20, [1], [60, 2, 4, 380, 79, 80, 83, 84, 85, 86]), (20, [15, 1], [50, 1, 0, 1079, 2, 6, 0, 2, 0, 0, 1, 0, 0, 6, 4, 2, 1, 0, 0, 1, 2, 1, 79]), (20, [16, 1], [50, 1, 0, 1079, 2, 6, 0, 2, 0, 0, 1, 0, 0, 6, 4, 2, 1, 0, 0, 1, 2, 1, 79])], [], [(9, 10, -4294967296, -1), (5, 6, -4294967296, -1), (2, 3, -4294967296, -1)])
theorem oo_Mo_across2_3 {kA : Nat → ClassId} : or_ok PRD kA GG o_Mo_across2_3 := by
  intro A ta ws vs hD hth hl hk hds hf
  have hl : vs.length = 21 := hl
  have hk : ∀ q ∈ ([(0, (2, 0, 0, [150])), (1, (2, 0, 0, [150])), (2, (0, 0, 129, [])), (3, (0, 1, 130, [])), (4, (2, 0, 0, [225])), (5, (0, 0, 23, [])), (6, (0, 1, 24, [])), (8, (2, 0, 0, [226])), (9, (0, 0, 23, [])), (10, (0, 1, 24, [])), (12, (0, 0, 75, [])), (13, (0, 0, 75, [])), (14, (0, 0, 47, [])), (15, (0, 0, 75, [])), (16, (0, 0, 75, []))] : List (Nat × tv_T)), tv_ok ta q.2 (n_v vs q.1) := hk
  obtain ⟨t0, hk⟩ := List.forall_mem_cons.mp hk
  have t0 : tv_ok ta (2, 0, 0, [150]) (n_v vs 0) := t0
  have r0 : ta (v_ad (n_v vs 0)) = some 150 := tv_rg t0
  obtain ⟨t1, hk⟩ := List.forall_mem_cons.mp hk
  have t1 : tv_ok ta (2, 0, 0, [150]) (n_v vs 1) := t1
  have r1 : ta (v_ad (n_v vs 1)) = some 150 := tv_rg t1
  obtain ⟨t2, hk⟩ := List.forall_mem_cons.mp hk
  have t2 : tv_ok ta (0, 0, 129, []) (n_v vs 2) := t2
  have k2 : 0 ≤ v_iv (n_v vs 2) ∧ v_iv (n_v vs 2) ≤ 129 := tv_rng t2
  obtain ⟨t3, hk⟩ := List.forall_mem_cons.mp hk
  have t3 : tv_ok ta (0, 1, 130, []) (n_v vs 3) := t3
  have k3 : 1 ≤ v_iv (n_v vs 3) ∧ v_iv (n_v vs 3) ≤ 130 := tv_rng t3
  obtain ⟨t4, hk⟩ := List.forall_mem_cons.mp hk
  have t4 : tv_ok ta (2, 0, 0, [225]) (n_v vs 4) := t4
  have r4 : ta (v_ad (n_v vs 4)) = some 225 := tv_rg t4
  obtain ⟨t5, hk⟩ := List.forall_mem_cons.mp hk
  have t5 : tv_ok ta (0, 0, 23, []) (n_v vs 5) := t5
  have k5 : 0 ≤ v_iv (n_v vs 5) ∧ v_iv (n_v vs 5) ≤ 23 := tv_rng t5
  obtain ⟨t6, hk⟩ := List.forall_mem_cons.mp hk
  have t6 : tv_ok ta (0, 1, 24, []) (n_v vs 6) := t6
  have k6 : 1 ≤ v_iv (n_v vs 6) ∧ v_iv (n_v vs 6) ≤ 24 := tv_rng t6
  obtain ⟨t8, hk⟩ := List.forall_mem_cons.mp hk
  have t8 : tv_ok ta (2, 0, 0, [226]) (n_v vs 8) := t8
  have r8 : ta (v_ad (n_v vs 8)) = some 226 := tv_rg t8
  obtain ⟨t9, hk⟩ := List.forall_mem_cons.mp hk
  have t9 : tv_ok ta (0, 0, 23, []) (n_v vs 9) := t9
  have k9 : 0 ≤ v_iv (n_v vs 9) ∧ v_iv (n_v vs 9) ≤ 23 := tv_rng t9
  obtain ⟨t10, hk⟩ := List.forall_mem_cons.mp hk
  have t10 : tv_ok ta (0, 1, 24, []) (n_v vs 10) := t10
  have k10 : 1 ≤ v_iv (n_v vs 10) ∧ v_iv (n_v vs 10) ≤ 24 := tv_rng t10
  obtain ⟨t12, hk⟩ := List.forall_mem_cons.mp hk
  have t12 : tv_ok ta (0, 0, 75, []) (n_v vs 12) := t12
  have k12 : 0 ≤ v_iv (n_v vs 12) ∧ v_iv (n_v vs 12) ≤ 75 := tv_rng t12
  obtain ⟨t13, hk⟩ := List.forall_mem_cons.mp hk
  have t13 : tv_ok ta (0, 0, 75, []) (n_v vs 13) := t13
  have k13 : 0 ≤ v_iv (n_v vs 13) ∧ v_iv (n_v vs 13) ≤ 75 := tv_rng t13
  obtain ⟨t14, hk⟩ := List.forall_mem_cons.mp hk
  have t14 : tv_ok ta (0, 0, 47, []) (n_v vs 14) := t14
  have k14 : 0 ≤ v_iv (n_v vs 14) ∧ v_iv (n_v vs 14) ≤ 47 := tv_rng t14
  obtain ⟨t15, hk⟩ := List.forall_mem_cons.mp hk
  have t15 : tv_ok ta (0, 0, 75, []) (n_v vs 15) := t15
  have k15 : 0 ≤ v_iv (n_v vs 15) ∧ v_iv (n_v vs 15) ≤ 75 := tv_rng t15
  obtain ⟨t16, hk⟩ := List.forall_mem_cons.mp hk
  have t16 : tv_ok ta (0, 0, 75, []) (n_v vs 16) := t16
  have k16 : 0 ≤ v_iv (n_v vs 16) ∧ v_iv (n_v vs 16) ≤ 75 := tv_rng t16
  have hds : ∀ q ∈ ([(9, 10, -4294967296, -1), (5, 6, -4294967296, -1), (2, 3, -4294967296, -1)] : List of_T), n_iv vs q.2.1 + q.2.2.1 ≤ n_iv vs q.1 ∧ n_iv vs q.1 ≤ n_iv vs q.2.1 + q.2.2.2 := hds
  obtain ⟨d0, hds⟩ := List.forall_mem_cons.mp hds
  have d0 : v_iv (n_v vs 10) + (-4294967296) ≤ v_iv (n_v vs 9) ∧ v_iv (n_v vs 9) ≤ v_iv (n_v vs 10) + (-1) := d0
  obtain ⟨d1, hds⟩ := List.forall_mem_cons.mp hds
  have d1 : v_iv (n_v vs 6) + (-4294967296) ≤ v_iv (n_v vs 5) ∧ v_iv (n_v vs 5) ≤ v_iv (n_v vs 6) + (-1) := d1
  obtain ⟨d2, hds⟩ := List.forall_mem_cons.mp hds
  have d2 : v_iv (n_v vs 3) + (-4294967296) ≤ v_iv (n_v vs 2) ∧ v_iv (n_v vs 2) ≤ v_iv (n_v vs 3) + (-1) := d2
  have hf : fc_ok PRD [(10, [16, 8, 2], []), (9, [8, 1], [109]), (10, [15, 4, 2], []), (9, [4, 1], [108]), (20, [1, 12, 13, 14], [60, 1, 1, 130, 5, 2]), (10, [13, 8, 2], []), (10, [12, 4, 2], []), (7, [9, 10], [2]), (20, [10, 1], [30, 0, 1, 0, 0, -1, 3, 2005000]), (20, [10, 1], [30, 0, -1, 0, 0, 1, 3, 2005000]), (10, [9, 8, 2], []), (7, [5, 6], [2]), (20, [6, 1], [30, 0, 1, 0, 0, -1, 3, 2005000]), (20, [6, 1], [30, 0, -1, 0, 0, 1, 3, 2005000]), (10, [5, 4, 2], []), (7, [2, 3], [2]), (9, [3, 1], [107]), (20, [1], [60, 4, 6, 369, 5, 100, 101, 107, 2, 95, 102, 104, 108, 109]), (20, [1], [60, 2, 3, 372, 100, 101, 102, 105, 106]), (20, [1], [60, 1, 1, 122, 5, 2]), (20, [1], [50, 2, 0, 79, 100, 1, 3, 2, 0, 79, 2, 0, 100]), (20, [1], [60, 2, 4, 380, 79, 80, 83, 84, 85, 86]), (20, [1, 2], [50, 1, 0, 80, 1, 3, 2, 0, 80, 1, 1]), (20, [1], [50, 1, 0, 81, 1, 3, 2, 0, 81, 0, 0]), (24, [0, 1], [])] ta ws vs := hf
  obtain ⟨f0, hf⟩ := fc_un (show (10 : Nat) < 100 from by decide) hf
  have f0 : v_iv (n_v vs 16) = w_el ws (v_ad (n_v vs 8)) (v_iv (n_v vs 2)).toNat := f0
  obtain ⟨f1, hf⟩ := fc_un (show (9 : Nat) < 100 from by decide) hf
  have f1 : n_v vs 8 = w_fd ws (v_ad (n_v vs 1)) 109 := f1
  obtain ⟨f2, hf⟩ := fc_un (show (10 : Nat) < 100 from by decide) hf
  have f2 : v_iv (n_v vs 15) = w_el ws (v_ad (n_v vs 4)) (v_iv (n_v vs 2)).toNat := f2
  obtain ⟨f3, hf⟩ := fc_un (show (9 : Nat) < 100 from by decide) hf
  have f3 : n_v vs 4 = w_fd ws (v_ad (n_v vs 1)) 108 := f3
  obtain ⟨f4, hf⟩ := fc_un (show (20 : Nat) < 100 from by decide) hf
  have f4 : BTP (w_fi ws (n_v vs 1) 5) (w_ei ws (w_ar ws (n_v vs 1) 2)) (v_iv (n_v vs 12)) (v_iv (n_v vs 13)) (v_iv (n_v vs 14)) := f4
  obtain ⟨f5, hf⟩ := fc_un (show (10 : Nat) < 100 from by decide) hf
  have f5 : v_iv (n_v vs 13) = w_el ws (v_ad (n_v vs 8)) (v_iv (n_v vs 2)).toNat := f5
  obtain ⟨f6, hf⟩ := fc_un (show (10 : Nat) < 100 from by decide) hf
  have f6 : v_iv (n_v vs 12) = w_el ws (v_ad (n_v vs 4)) (v_iv (n_v vs 2)).toNat := f6
  obtain ⟨f7, hf⟩ := fc_un (show (7 : Nat) < 100 from by decide) hf
  have f7 : v_iv (n_v vs 9) < v_iv (n_v vs 10) := f7
  obtain ⟨f8, hf⟩ := fc_un (show (20 : Nat) < 100 from by decide) hf
  have f8 : 1 * v_iv (n_v vs 10) + ((-1) * w_el ws (w_ar ws (n_v vs 1) 2) (w_fi ws (n_v vs 1) 5 + 0).toNat + 0) ≤ 0 := f8
  obtain ⟨f9, hf⟩ := fc_un (show (20 : Nat) < 100 from by decide) hf
  have f9 : (-1) * v_iv (n_v vs 10) + (1 * w_el ws (w_ar ws (n_v vs 1) 2) (w_fi ws (n_v vs 1) 5 + 0).toNat + 0) ≤ 0 := f9
  obtain ⟨f10, hf⟩ := fc_un (show (10 : Nat) < 100 from by decide) hf
  have f10 : v_iv (n_v vs 9) = w_el ws (v_ad (n_v vs 8)) (v_iv (n_v vs 2)).toNat := f10
  obtain ⟨f11, hf⟩ := fc_un (show (7 : Nat) < 100 from by decide) hf
  have f11 : v_iv (n_v vs 5) < v_iv (n_v vs 6) := f11
  obtain ⟨f12, hf⟩ := fc_un (show (20 : Nat) < 100 from by decide) hf
  have f12 : 1 * v_iv (n_v vs 6) + ((-1) * w_el ws (w_ar ws (n_v vs 1) 2) (w_fi ws (n_v vs 1) 5 + 0).toNat + 0) ≤ 0 := f12
  obtain ⟨f13, hf⟩ := fc_un (show (20 : Nat) < 100 from by decide) hf
  have f13 : (-1) * v_iv (n_v vs 6) + (1 * w_el ws (w_ar ws (n_v vs 1) 2) (w_fi ws (n_v vs 1) 5 + 0).toNat + 0) ≤ 0 := f13
  obtain ⟨f14, hf⟩ := fc_un (show (10 : Nat) < 100 from by decide) hf
  have f14 : v_iv (n_v vs 5) = w_el ws (v_ad (n_v vs 4)) (v_iv (n_v vs 2)).toNat := f14
  obtain ⟨f15, hf⟩ := fc_un (show (7 : Nat) < 100 from by decide) hf
  have f15 : v_iv (n_v vs 2) < v_iv (n_v vs 3) := f15
  obtain ⟨f16, hf⟩ := fc_un (show (9 : Nat) < 100 from by decide) hf
  have f16 : n_v vs 3 = w_fd ws (v_ad (n_v vs 1)) 107 := f16
  obtain ⟨f17, hf⟩ := fc_un (show (20 : Nat) < 100 from by decide) hf
  have f17 : LSA (w_fi ws (n_v vs 1) 5) (w_fi ws (n_v vs 1) 100) (w_fi ws (n_v vs 1) 101) (w_fi ws (n_v vs 1) 107) (w_ei ws (w_ar ws (n_v vs 1) 2)) (w_ei ws (w_ar ws (n_v vs 1) 95)) (w_ei ws (w_ar ws (n_v vs 1) 102)) (w_ei ws (w_ar ws (n_v vs 1) 104)) (w_ei ws (w_ar ws (n_v vs 1) 108)) (w_ei ws (w_ar ws (n_v vs 1) 109)) := f17
  obtain ⟨f18, hf⟩ := fc_un (show (20 : Nat) < 100 from by decide) hf
  have f18 : LSB (w_fi ws (n_v vs 1) 100) (w_fi ws (n_v vs 1) 101) (w_ei ws (w_ar ws (n_v vs 1) 102)) (w_ei ws (w_ar ws (n_v vs 1) 105)) (w_ei ws (w_ar ws (n_v vs 1) 106)) := f18
  obtain ⟨f19, hf⟩ := fc_un (show (20 : Nat) < 100 from by decide) hf
  have f19 : SGR (w_fi ws (n_v vs 1) 5) (w_ei ws (w_ar ws (n_v vs 1) 2)) := f19
  obtain ⟨f20, hf⟩ := fc_un (show (20 : Nat) < 100 from by decide) hf
  have f20 : w_fi ws (n_v vs 1) 79 = w_fi ws (n_v vs 1) 100 := f20
  obtain ⟨f21, hf⟩ := fc_un (show (20 : Nat) < 100 from by decide) hf
  have f21 : PCQ (w_fi ws (n_v vs 1) 79) (w_fi ws (n_v vs 1) 80) (w_ei ws (w_ar ws (n_v vs 1) 83)) (w_ei ws (w_ar ws (n_v vs 1) 84)) (w_ei ws (w_ar ws (n_v vs 1) 85)) (w_ei ws (w_ar ws (n_v vs 1) 86)) := f21
  obtain ⟨f22, hf⟩ := fc_un (show (20 : Nat) < 100 from by decide) hf
  have f22 : w_fi ws (n_v vs 1) 80 = v_iv (n_v vs 2) := f22
  obtain ⟨f23, hf⟩ := fc_un (show (20 : Nat) < 100 from by decide) hf
  have f23 : w_fi ws (n_v vs 1) 81 = 0 := f23
  obtain ⟨f24, hf⟩ := fc_un (show (24 : Nat) < 100 from by decide) hf
  have f24 : n_v vs 0 = n_v vs 1 := f24
  have q1 : n_v vs 1 = n_v vs 0 := f24.symm
  rw [q1] at f1
  rw [q1] at f3
  rw [q1] at f4
  rw [q1] at f8
  rw [q1] at f9
  rw [q1] at f12
  rw [q1] at f13
  rw [q1] at f16
  rw [q1] at f17
  rw [q1] at f18
  rw [q1] at f19
  rw [q1] at f20
  rw [q1] at f21
  rw [q1] at f22
  rw [q1] at f23
  have cr_0_2 : ta (w_ar ws (n_v vs 0) 2) = some 152 := tv_rg (th_fd hD hth r0 (g := GG_150) rfl (k := 2) (t := (2, 0, 0, [152])) rfl rfl)
  have cr_0_83 : ta (w_ar ws (n_v vs 0) 83) = some 205 := tv_rg (th_fd hD hth r0 (g := GG_150) rfl (k := 83) (t := (2, 0, 0, [205])) rfl rfl)
  have cr_0_84 : ta (w_ar ws (n_v vs 0) 84) = some 206 := tv_rg (th_fd hD hth r0 (g := GG_150) rfl (k := 84) (t := (2, 0, 0, [206])) rfl rfl)
  have cr_0_85 : ta (w_ar ws (n_v vs 0) 85) = some 207 := tv_rg (th_fd hD hth r0 (g := GG_150) rfl (k := 85) (t := (2, 0, 0, [207])) rfl rfl)
  have cr_0_86 : ta (w_ar ws (n_v vs 0) 86) = some 208 := tv_rg (th_fd hD hth r0 (g := GG_150) rfl (k := 86) (t := (2, 0, 0, [208])) rfl rfl)
  have cr_0_95 : ta (w_ar ws (n_v vs 0) 95) = some 216 := tv_rg (th_fd hD hth r0 (g := GG_150) rfl (k := 95) (t := (2, 0, 0, [216])) rfl rfl)
  have cr_0_102 : ta (w_ar ws (n_v vs 0) 102) = some 220 := tv_rg (th_fd hD hth r0 (g := GG_150) rfl (k := 102) (t := (2, 0, 0, [220])) rfl rfl)
  have cr_0_104 : ta (w_ar ws (n_v vs 0) 104) = some 222 := tv_rg (th_fd hD hth r0 (g := GG_150) rfl (k := 104) (t := (2, 0, 0, [222])) rfl rfl)
  have cr_0_105 : ta (w_ar ws (n_v vs 0) 105) = some 223 := tv_rg (th_fd hD hth r0 (g := GG_150) rfl (k := 105) (t := (2, 0, 0, [223])) rfl rfl)
  have cr_0_106 : ta (w_ar ws (n_v vs 0) 106) = some 224 := tv_rg (th_fd hD hth r0 (g := GG_150) rfl (k := 106) (t := (2, 0, 0, [224])) rfl rfl)
  have cr_0_108 : ta (w_ar ws (n_v vs 0) 108) = some 225 := tv_rg (th_fd hD hth r0 (g := GG_150) rfl (k := 108) (t := (2, 0, 0, [225])) rfl rfl)
  have cr_0_109 : ta (w_ar ws (n_v vs 0) 109) = some 226 := tv_rg (th_fd hD hth r0 (g := GG_150) rfl (k := 109) (t := (2, 0, 0, [226])) rfl rfl)
  have ad_8 : v_ad (n_v vs 8) = w_ar ws (n_v vs 0) 109 := congrArg v_ad f1
  have ad_4 : v_ad (n_v vs 4) = w_ar ws (n_v vs 0) 108 := congrArg v_ad f3
  rw [ad_8] at f0
  have h0 : v_iv (n_v vs 16) = w_ei ws (w_ar ws (n_v vs 0) 109) (v_iv (n_v vs 2)) := f0
  rw [ad_4] at f2
  have h2 : v_iv (n_v vs 15) = w_ei ws (w_ar ws (n_v vs 0) 108) (v_iv (n_v vs 2)) := f2
  rw [ad_8] at f5
  have h5 : v_iv (n_v vs 13) = w_ei ws (w_ar ws (n_v vs 0) 109) (v_iv (n_v vs 2)) := f5
  rw [ad_4] at f6
  have h6 : v_iv (n_v vs 12) = w_ei ws (w_ar ws (n_v vs 0) 108) (v_iv (n_v vs 2)) := f6
  rw [ad_8] at f10
  have h10 : v_iv (n_v vs 9) = w_ei ws (w_ar ws (n_v vs 0) 109) (v_iv (n_v vs 2)) := f10
  rw [ad_4] at f14
  have h14 : v_iv (n_v vs 5) = w_ei ws (w_ar ws (n_v vs 0) 108) (v_iv (n_v vs 2)) := f14
  have g16 : v_iv (n_v vs 3) = w_fi ws (n_v vs 0) 107 := congrArg v_iv f16
  have hK_0_83 : ∀ j : Int, 0 ≤ j → j < 200 → 0 ≤ w_ei ws (w_ar ws (n_v vs 0) 83) j ∧ w_ei ws (w_ar ws (n_v vs 0) 83) j ≤ 75 := fun j h0 h1 => th_el hD hth cr_0_83 (kd := 0) (n := 200) (m := 200) (lo := 0) (hi := 75) (rs := []) (L := []) rfl (by decide) (j := j.toNat) (by omega)
  have hK_0_84 : ∀ j : Int, 0 ≤ j → j < 200 → 0 ≤ w_ei ws (w_ar ws (n_v vs 0) 84) j ∧ w_ei ws (w_ar ws (n_v vs 0) 84) j ≤ 75 := fun j h0 h1 => th_el hD hth cr_0_84 (kd := 0) (n := 200) (m := 200) (lo := 0) (hi := 75) (rs := []) (L := []) rfl (by decide) (j := j.toNat) (by omega)
  have hK_0_85 : ∀ j : Int, 0 ≤ j → j < 200 → 0 ≤ w_ei ws (w_ar ws (n_v vs 0) 85) j ∧ w_ei ws (w_ar ws (n_v vs 0) 85) j ≤ 72 := fun j h0 h1 => th_el hD hth cr_0_85 (kd := 0) (n := 200) (m := 200) (lo := 0) (hi := 72) (rs := []) (L := []) rfl (by decide) (j := j.toNat) (by omega)
  have hK_0_86 : ∀ j : Int, 0 ≤ j → j < 200 → 0 ≤ w_ei ws (w_ar ws (n_v vs 0) 86) j ∧ w_ei ws (w_ar ws (n_v vs 0) 86) j ≤ 1 := fun j h0 h1 => th_el hD hth cr_0_86 (kd := 2) (n := 200) (m := 200) (lo := 0) (hi := 1) (rs := []) (L := []) rfl (by decide) (j := j.toNat) (by omega)
  have hK_0_95 : ∀ j : Int, 0 ≤ j → j < 48 → 0 ≤ w_ei ws (w_ar ws (n_v vs 0) 95) j ∧ w_ei ws (w_ar ws (n_v vs 0) 95) j ≤ 1 := fun j h0 h1 => th_el hD hth cr_0_95 (kd := 2) (n := 48) (m := 48) (lo := 0) (hi := 1) (rs := []) (L := []) rfl (by decide) (j := j.toNat) (by omega)
  have hK_0_102 : ∀ j : Int, 0 ≤ j → j < 76 → 0 ≤ w_ei ws (w_ar ws (n_v vs 0) 102) j ∧ w_ei ws (w_ar ws (n_v vs 0) 102) j ≤ 75 := fun j h0 h1 => th_el hD hth cr_0_102 (kd := 0) (n := 76) (m := 76) (lo := 0) (hi := 75) (rs := []) (L := []) rfl (by decide) (j := j.toNat) (by omega)
  have hK_0_104 : ∀ j : Int, 0 ≤ j → j < 48 → 0 ≤ w_ei ws (w_ar ws (n_v vs 0) 104) j ∧ w_ei ws (w_ar ws (n_v vs 0) 104) j ≤ 76 := fun j h0 h1 => th_el hD hth cr_0_104 (kd := 0) (n := 48) (m := 48) (lo := 0) (hi := 76) (rs := []) (L := []) rfl (by decide) (j := j.toNat) (by omega)
  have hK_0_105 : ∀ j : Int, 0 ≤ j → j < 76 → 0 ≤ w_ei ws (w_ar ws (n_v vs 0) 105) j ∧ w_ei ws (w_ar ws (n_v vs 0) 105) j ≤ 76 := fun j h0 h1 => th_el hD hth cr_0_105 (kd := 0) (n := 76) (m := 76) (lo := 0) (hi := 76) (rs := []) (L := []) rfl (by decide) (j := j.toNat) (by omega)
  have hK_0_106 : ∀ j : Int, 0 ≤ j → j < 5776 → 0 ≤ w_ei ws (w_ar ws (n_v vs 0) 106) j ∧ w_ei ws (w_ar ws (n_v vs 0) 106) j ≤ 75 := fun j h0 h1 => th_el hD hth cr_0_106 (kd := 0) (n := 5776) (m := 5776) (lo := 0) (hi := 75) (rs := []) (L := []) rfl (by decide) (j := j.toNat) (by omega)
  have hK_0_108 : ∀ j : Int, 0 ≤ j → j < 130 → 0 ≤ w_ei ws (w_ar ws (n_v vs 0) 108) j ∧ w_ei ws (w_ar ws (n_v vs 0) 108) j ≤ 75 := fun j h0 h1 => th_el hD hth cr_0_108 (kd := 0) (n := 130) (m := 130) (lo := 0) (hi := 75) (rs := []) (L := []) rfl (by decide) (j := j.toNat) (by omega)
  have hK_0_109 : ∀ j : Int, 0 ≤ j → j < 130 → 0 ≤ w_ei ws (w_ar ws (n_v vs 0) 109) j ∧ w_ei ws (w_ar ws (n_v vs 0) 109) j ≤ 75 := fun j h0 h1 => th_el hD hth cr_0_109 (kd := 0) (n := 130) (m := 130) (lo := 0) (hi := 75) (rs := []) (L := []) rfl (by decide) (j := j.toNat) (by omega)
  have kz_0_79 : 0 ≤ w_fi ws (n_v vs 0) 79 ∧ w_fi ws (n_v vs 0) 79 ≤ 76 := tv_rng (th_fd hD hth r0 (g := GG_150) rfl (k := 79) (t := (0, 0, 76, [])) rfl rfl)
  have kz_0_80 : 0 ≤ w_fi ws (n_v vs 0) 80 ∧ w_fi ws (n_v vs 0) 80 ≤ 200 := tv_rng (th_fd hD hth r0 (g := GG_150) rfl (k := 80) (t := (0, 0, 200, [])) rfl rfl)
  have kz_0_81 : 0 ≤ w_fi ws (n_v vs 0) 81 ∧ w_fi ws (n_v vs 0) 81 ≤ 200 := tv_rng (th_fd hD hth r0 (g := GG_150) rfl (k := 81) (t := (0, 0, 200, [])) rfl rfl)
  have kz_0_100 : 0 ≤ w_fi ws (n_v vs 0) 100 ∧ w_fi ws (n_v vs 0) 100 ≤ 76 := tv_rng (th_fd hD hth r0 (g := GG_150) rfl (k := 100) (t := (0, 0, 76, [])) rfl rfl)
  have kz_0_101 : 0 ≤ w_fi ws (n_v vs 0) 101 ∧ w_fi ws (n_v vs 0) 101 ≤ 76 := tv_rng (th_fd hD hth r0 (g := GG_150) rfl (k := 101) (t := (0, 0, 76, [])) rfl rfl)
  have kz_0_107 : 0 ≤ w_fi ws (n_v vs 0) 107 ∧ w_fi ws (n_v vs 0) 107 ≤ 130 := tv_rng (th_fd hD hth r0 (g := GG_150) rfl (k := 107) (t := (0, 0, 130, [])) rfl rfl)
  obtain ⟨x, ex, hx⟩ := iv_ex (ta := ta) (lo := 0) (hi := 199) (z := v_iv (n_v vs 2)) (by omega) (by omega) (by omega) (by omega)
  have ex2 : v_iv (Value.int x) = v_iv (n_v vs 2) := ex
  have ex3 : 0 ≤ v_iv (Value.int x) ∧ v_iv (Value.int x) ≤ 199 := tv_rng hx
  have e_1 : n_v (vs ++ [Value.int x]) 1 = n_v vs 1 := n_v_old (by rw [hl]; decide)
  have e_2 : n_v (vs ++ [Value.int x]) 2 = n_v vs 2 := n_v_old (by rw [hl]; decide)
  have e_15 : n_v (vs ++ [Value.int x]) 15 = n_v vs 15 := n_v_old (by rw [hl]; decide)
  have e_16 : n_v (vs ++ [Value.int x]) 16 = n_v vs 16 := n_v_old (by rw [hl]; decide)
  have e_21 : n_v (vs ++ [Value.int x]) 21 = Value.int x := n_v_new hl
  have nf0 : fc_1 PRD (23, [21, 2], [0, 1, -1]) ws (vs ++ [Value.int x]) := by
    refine ⟨fun n hn => ?_, ?_⟩
    · have hn : n ∈ [21, 2] := hn
      rw [List.length_append, hl]
      simp only [List.mem_cons, List.not_mem_nil, or_false] at hn
      show n < 21 + 1; omega
    · show 1 * v_iv (n_v (vs ++ [Value.int x]) 21) + ((-1) * v_iv (n_v (vs ++ [Value.int x]) 2) + 0) ≤ 0
      rw [e_2]
      rw [e_21]
      exact vc_Mo_across2_3_0 (v_iv (n_v vs 2)) (v_iv (n_v vs 3)) (v_iv (n_v vs 5)) (v_iv (n_v vs 6)) (v_iv (n_v vs 9)) (v_iv (n_v vs 10)) (v_iv (n_v vs 12)) (v_iv (n_v vs 13)) (v_iv (n_v vs 14)) (v_iv (n_v vs 15)) (v_iv (n_v vs 16)) (w_ei ws (w_ar ws (n_v vs 0) 109)) (w_ei ws (w_ar ws (n_v vs 0) 108)) (w_ei ws (w_ar ws (n_v vs 0) 2)) (w_fi ws (n_v vs 0) 5) (w_fi ws (n_v vs 0) 107) (w_ei ws (w_ar ws (n_v vs 0) 95)) (w_ei ws (w_ar ws (n_v vs 0) 102)) (w_ei ws (w_ar ws (n_v vs 0) 104)) (w_fi ws (n_v vs 0) 100) (w_fi ws (n_v vs 0) 101) (w_ei ws (w_ar ws (n_v vs 0) 105)) (w_ei ws (w_ar ws (n_v vs 0) 106)) (w_fi ws (n_v vs 0) 79) (w_ei ws (w_ar ws (n_v vs 0) 83)) (w_ei ws (w_ar ws (n_v vs 0) 84)) (w_ei ws (w_ar ws (n_v vs 0) 85)) (w_ei ws (w_ar ws (n_v vs 0) 86)) (w_fi ws (n_v vs 0) 80) (w_fi ws (n_v vs 0) 81) (v_iv (Value.int x)) k2 k3 k5 k6 k9 k10 k12 k13 k14 k15 k16 d0 d1 d2 h0 h2 f4 h5 h6 f7 f8 f9 h10 f11 f12 f13 h14 f15 g16 f17 f18 f19 f20 f21 f22 f23 hK_0_83 hK_0_84 hK_0_85 hK_0_86 hK_0_95 hK_0_102 hK_0_104 hK_0_105 hK_0_106 hK_0_108 hK_0_109 kz_0_79 kz_0_80 kz_0_81 kz_0_100 kz_0_101 kz_0_107 ex2 ex3
  have nf1 : fc_1 PRD (23, [21, 2], [0, -1, 1]) ws (vs ++ [Value.int x]) := by
    refine ⟨fun n hn => ?_, ?_⟩
    · have hn : n ∈ [21, 2] := hn
      rw [List.length_append, hl]
      simp only [List.mem_cons, List.not_mem_nil, or_false] at hn
      show n < 21 + 1; omega
    · show (-1) * v_iv (n_v (vs ++ [Value.int x]) 21) + (1 * v_iv (n_v (vs ++ [Value.int x]) 2) + 0) ≤ 0
      rw [e_2]
      rw [e_21]
      exact vc_Mo_across2_3_1 (v_iv (n_v vs 2)) (v_iv (n_v vs 3)) (v_iv (n_v vs 5)) (v_iv (n_v vs 6)) (v_iv (n_v vs 9)) (v_iv (n_v vs 10)) (v_iv (n_v vs 12)) (v_iv (n_v vs 13)) (v_iv (n_v vs 14)) (v_iv (n_v vs 15)) (v_iv (n_v vs 16)) (w_ei ws (w_ar ws (n_v vs 0) 109)) (w_ei ws (w_ar ws (n_v vs 0) 108)) (w_ei ws (w_ar ws (n_v vs 0) 2)) (w_fi ws (n_v vs 0) 5) (w_fi ws (n_v vs 0) 107) (w_ei ws (w_ar ws (n_v vs 0) 95)) (w_ei ws (w_ar ws (n_v vs 0) 102)) (w_ei ws (w_ar ws (n_v vs 0) 104)) (w_fi ws (n_v vs 0) 100) (w_fi ws (n_v vs 0) 101) (w_ei ws (w_ar ws (n_v vs 0) 105)) (w_ei ws (w_ar ws (n_v vs 0) 106)) (w_fi ws (n_v vs 0) 79) (w_ei ws (w_ar ws (n_v vs 0) 83)) (w_ei ws (w_ar ws (n_v vs 0) 84)) (w_ei ws (w_ar ws (n_v vs 0) 85)) (w_ei ws (w_ar ws (n_v vs 0) 86)) (w_fi ws (n_v vs 0) 80) (w_fi ws (n_v vs 0) 81) (v_iv (Value.int x)) k2 k3 k5 k6 k9 k10 k12 k13 k14 k15 k16 d0 d1 d2 h0 h2 f4 h5 h6 f7 f8 f9 h10 f11 f12 f13 h14 f15 g16 f17 f18 f19 f20 f21 f22 f23 hK_0_83 hK_0_84 hK_0_85 hK_0_86 hK_0_95 hK_0_102 hK_0_104 hK_0_105 hK_0_106 hK_0_108 hK_0_109 kz_0_79 kz_0_80 kz_0_81 kz_0_100 kz_0_101 kz_0_107 ex2 ex3
  have nf2 : fc_1 PRD (20, [1, 21], [50, 1, 0, 80, 1, 3, 2, 0, 80, 1, 1]) ws (vs ++ [Value.int x]) := by
    refine ⟨fun n hn => ?_, ?_⟩
    · have hn : n ∈ [1, 21] := hn
      rw [List.length_append, hl]
      simp only [List.mem_cons, List.not_mem_nil, or_false] at hn
      show n < 21 + 1; omega
    · show w_fi ws (n_v (vs ++ [Value.int x]) 1) 80 = v_iv (n_v (vs ++ [Value.int x]) 21)
      rw [e_1]
      rw [e_21]
      rw [q1]
      exact vc_Mo_across2_3_2 (v_iv (n_v vs 2)) (v_iv (n_v vs 3)) (v_iv (n_v vs 5)) (v_iv (n_v vs 6)) (v_iv (n_v vs 9)) (v_iv (n_v vs 10)) (v_iv (n_v vs 12)) (v_iv (n_v vs 13)) (v_iv (n_v vs 14)) (v_iv (n_v vs 15)) (v_iv (n_v vs 16)) (w_ei ws (w_ar ws (n_v vs 0) 109)) (w_ei ws (w_ar ws (n_v vs 0) 108)) (w_ei ws (w_ar ws (n_v vs 0) 2)) (w_fi ws (n_v vs 0) 5) (w_fi ws (n_v vs 0) 107) (w_ei ws (w_ar ws (n_v vs 0) 95)) (w_ei ws (w_ar ws (n_v vs 0) 102)) (w_ei ws (w_ar ws (n_v vs 0) 104)) (w_fi ws (n_v vs 0) 100) (w_fi ws (n_v vs 0) 101) (w_ei ws (w_ar ws (n_v vs 0) 105)) (w_ei ws (w_ar ws (n_v vs 0) 106)) (w_fi ws (n_v vs 0) 79) (w_ei ws (w_ar ws (n_v vs 0) 83)) (w_ei ws (w_ar ws (n_v vs 0) 84)) (w_ei ws (w_ar ws (n_v vs 0) 85)) (w_ei ws (w_ar ws (n_v vs 0) 86)) (w_fi ws (n_v vs 0) 80) (w_fi ws (n_v vs 0) 81) (v_iv (Value.int x)) k2 k3 k5 k6 k9 k10 k12 k13 k14 k15 k16 d0 d1 d2 h0 h2 f4 h5 h6 f7 f8 f9 h10 f11 f12 f13 h14 f15 g16 f17 f18 f19 f20 f21 f22 f23 hK_0_83 hK_0_84 hK_0_85 hK_0_86 hK_0_95 hK_0_102 hK_0_104 hK_0_105 hK_0_106 hK_0_108 hK_0_109 kz_0_79 kz_0_80 kz_0_81 kz_0_100 kz_0_101 kz_0_107 ex2 ex3
  have nf3 : fc_1 PRD (20, [1], [60, 2, 4, 380, 79, 80, 83, 84, 85, 86]) ws (vs ++ [Value.int x]) := by
    refine ⟨fun n hn => ?_, ?_⟩
    · have hn : n ∈ [1] := hn
      rw [List.length_append, hl]
      simp only [List.mem_cons, List.not_mem_nil, or_false] at hn
      show n < 21 + 1; omega
    · show PCQ (w_fi ws (n_v (vs ++ [Value.int x]) 1) 79) (w_fi ws (n_v (vs ++ [Value.int x]) 1) 80) (w_ei ws (w_ar ws (n_v (vs ++ [Value.int x]) 1) 83)) (w_ei ws (w_ar ws (n_v (vs ++ [Value.int x]) 1) 84)) (w_ei ws (w_ar ws (n_v (vs ++ [Value.int x]) 1) 85)) (w_ei ws (w_ar ws (n_v (vs ++ [Value.int x]) 1) 86))
      rw [e_1]
      rw [q1]
      exact vc_Mo_across2_3_3 (v_iv (n_v vs 2)) (v_iv (n_v vs 3)) (v_iv (n_v vs 5)) (v_iv (n_v vs 6)) (v_iv (n_v vs 9)) (v_iv (n_v vs 10)) (v_iv (n_v vs 12)) (v_iv (n_v vs 13)) (v_iv (n_v vs 14)) (v_iv (n_v vs 15)) (v_iv (n_v vs 16)) (w_ei ws (w_ar ws (n_v vs 0) 109)) (w_ei ws (w_ar ws (n_v vs 0) 108)) (w_ei ws (w_ar ws (n_v vs 0) 2)) (w_fi ws (n_v vs 0) 5) (w_fi ws (n_v vs 0) 107) (w_ei ws (w_ar ws (n_v vs 0) 95)) (w_ei ws (w_ar ws (n_v vs 0) 102)) (w_ei ws (w_ar ws (n_v vs 0) 104)) (w_fi ws (n_v vs 0) 100) (w_fi ws (n_v vs 0) 101) (w_ei ws (w_ar ws (n_v vs 0) 105)) (w_ei ws (w_ar ws (n_v vs 0) 106)) (w_fi ws (n_v vs 0) 79) (w_ei ws (w_ar ws (n_v vs 0) 83)) (w_ei ws (w_ar ws (n_v vs 0) 84)) (w_ei ws (w_ar ws (n_v vs 0) 85)) (w_ei ws (w_ar ws (n_v vs 0) 86)) (w_fi ws (n_v vs 0) 80) (w_fi ws (n_v vs 0) 81) (v_iv (Value.int x)) k2 k3 k5 k6 k9 k10 k12 k13 k14 k15 k16 d0 d1 d2 h0 h2 f4 h5 h6 f7 f8 f9 h10 f11 f12 f13 h14 f15 g16 f17 f18 f19 f20 f21 f22 f23 hK_0_83 hK_0_84 hK_0_85 hK_0_86 hK_0_95 hK_0_102 hK_0_104 hK_0_105 hK_0_106 hK_0_108 hK_0_109 kz_0_79 kz_0_80 kz_0_81 kz_0_100 kz_0_101 kz_0_107 ex2 ex3
  have nf4 : fc_1 PRD (20, [15, 1], [50, 1, 0, 1079, 2, 6, 0, 2, 0, 0, 1, 0, 0, 6, 4, 2, 1, 0, 0, 1, 2, 1, 79]) ws (vs ++ [Value.int x]) := by
    refine ⟨fun n hn => ?_, ?_⟩
    · have hn : n ∈ [15, 1] := hn
      rw [List.length_append, hl]
      simp only [List.mem_cons, List.not_mem_nil, or_false] at hn
      show n < 21 + 1; omega
    · show (0 ≤ v_iv (n_v (vs ++ [Value.int x]) 15)) ∧ ((v_iv (n_v (vs ++ [Value.int x]) 15) + 1) ≤ w_fi ws (n_v (vs ++ [Value.int x]) 1) 79)
      rw [e_1]
      rw [e_15]
      rw [q1]
      exact vc_Mo_across2_3_4 (v_iv (n_v vs 2)) (v_iv (n_v vs 3)) (v_iv (n_v vs 5)) (v_iv (n_v vs 6)) (v_iv (n_v vs 9)) (v_iv (n_v vs 10)) (v_iv (n_v vs 12)) (v_iv (n_v vs 13)) (v_iv (n_v vs 14)) (v_iv (n_v vs 15)) (v_iv (n_v vs 16)) (w_ei ws (w_ar ws (n_v vs 0) 109)) (w_ei ws (w_ar ws (n_v vs 0) 108)) (w_ei ws (w_ar ws (n_v vs 0) 2)) (w_fi ws (n_v vs 0) 5) (w_fi ws (n_v vs 0) 107) (w_ei ws (w_ar ws (n_v vs 0) 95)) (w_ei ws (w_ar ws (n_v vs 0) 102)) (w_ei ws (w_ar ws (n_v vs 0) 104)) (w_fi ws (n_v vs 0) 100) (w_fi ws (n_v vs 0) 101) (w_ei ws (w_ar ws (n_v vs 0) 105)) (w_ei ws (w_ar ws (n_v vs 0) 106)) (w_fi ws (n_v vs 0) 79) (w_ei ws (w_ar ws (n_v vs 0) 83)) (w_ei ws (w_ar ws (n_v vs 0) 84)) (w_ei ws (w_ar ws (n_v vs 0) 85)) (w_ei ws (w_ar ws (n_v vs 0) 86)) (w_fi ws (n_v vs 0) 80) (w_fi ws (n_v vs 0) 81) (v_iv (Value.int x)) k2 k3 k5 k6 k9 k10 k12 k13 k14 k15 k16 d0 d1 d2 h0 h2 f4 h5 h6 f7 f8 f9 h10 f11 f12 f13 h14 f15 g16 f17 f18 f19 f20 f21 f22 f23 hK_0_83 hK_0_84 hK_0_85 hK_0_86 hK_0_95 hK_0_102 hK_0_104 hK_0_105 hK_0_106 hK_0_108 hK_0_109 kz_0_79 kz_0_80 kz_0_81 kz_0_100 kz_0_101 kz_0_107 ex2 ex3
  have nf5 : fc_1 PRD (20, [16, 1], [50, 1, 0, 1079, 2, 6, 0, 2, 0, 0, 1, 0, 0, 6, 4, 2, 1, 0, 0, 1, 2, 1, 79]) ws (vs ++ [Value.int x]) := by
    refine ⟨fun n hn => ?_, ?_⟩
    · have hn : n ∈ [16, 1] := hn
      rw [List.length_append, hl]
      simp only [List.mem_cons, List.not_mem_nil, or_false] at hn
      show n < 21 + 1; omega
    · show (0 ≤ v_iv (n_v (vs ++ [Value.int x]) 16)) ∧ ((v_iv (n_v (vs ++ [Value.int x]) 16) + 1) ≤ w_fi ws (n_v (vs ++ [Value.int x]) 1) 79)
      rw [e_1]
      rw [e_16]
      rw [q1]
      exact vc_Mo_across2_3_5 (v_iv (n_v vs 2)) (v_iv (n_v vs 3)) (v_iv (n_v vs 5)) (v_iv (n_v vs 6)) (v_iv (n_v vs 9)) (v_iv (n_v vs 10)) (v_iv (n_v vs 12)) (v_iv (n_v vs 13)) (v_iv (n_v vs 14)) (v_iv (n_v vs 15)) (v_iv (n_v vs 16)) (w_ei ws (w_ar ws (n_v vs 0) 109)) (w_ei ws (w_ar ws (n_v vs 0) 108)) (w_ei ws (w_ar ws (n_v vs 0) 2)) (w_fi ws (n_v vs 0) 5) (w_fi ws (n_v vs 0) 107) (w_ei ws (w_ar ws (n_v vs 0) 95)) (w_ei ws (w_ar ws (n_v vs 0) 102)) (w_ei ws (w_ar ws (n_v vs 0) 104)) (w_fi ws (n_v vs 0) 100) (w_fi ws (n_v vs 0) 101) (w_ei ws (w_ar ws (n_v vs 0) 105)) (w_ei ws (w_ar ws (n_v vs 0) 106)) (w_fi ws (n_v vs 0) 79) (w_ei ws (w_ar ws (n_v vs 0) 83)) (w_ei ws (w_ar ws (n_v vs 0) 84)) (w_ei ws (w_ar ws (n_v vs 0) 85)) (w_ei ws (w_ar ws (n_v vs 0) 86)) (w_fi ws (n_v vs 0) 80) (w_fi ws (n_v vs 0) 81) (v_iv (Value.int x)) k2 k3 k5 k6 k9 k10 k12 k13 k14 k15 k16 d0 d1 d2 h0 h2 f4 h5 h6 f7 f8 f9 h10 f11 f12 f13 h14 f15 g16 f17 f18 f19 f20 f21 f22 f23 hK_0_83 hK_0_84 hK_0_85 hK_0_86 hK_0_95 hK_0_102 hK_0_104 hK_0_105 hK_0_106 hK_0_108 hK_0_109 kz_0_79 kz_0_80 kz_0_81 kz_0_100 kz_0_101 kz_0_107 ex2 ex3
  exact ⟨(fun _ h => (by cases h)), [Value.int x], ag_one hx, List.forall_mem_cons.mpr ⟨⟨show (23 : Nat) < 100 from by decide, nf0⟩, List.forall_mem_cons.mpr ⟨⟨show (23 : Nat) < 100 from by decide, nf1⟩, List.forall_mem_cons.mpr ⟨⟨show (20 : Nat) < 100 from by decide, nf2⟩, List.forall_mem_cons.mpr ⟨⟨show (20 : Nat) < 100 from by decide, nf3⟩, List.forall_mem_cons.mpr ⟨⟨show (20 : Nat) < 100 from by decide, nf4⟩, List.forall_mem_cons.mpr ⟨⟨show (20 : Nat) < 100 from by decide, nf5⟩, (fun _ h => (by cases h))⟩⟩⟩⟩⟩⟩, (fun _ h => (by cases h))⟩
set_option maxHeartbeats 4000000 in
theorem vc_Mo_across2_4_0 (x2 : Int) (x3 : Int) (x5 : Int) (x6 : Int) (x9 : Int) (x10 : Int) (x12 : Int) (x13 : Int) (x14 : Int) (x15 : Int) (x16 : Int) (x21 : Int) (x22 : Int) (pointMany_0 : Int) (all_0 : Int → Int) (r_0 : Int) (turned_0 : Int → Int) (itemLayer_0 : Int → Int) (firstJoint_0 : Int → Int) (lineA_0 : Int → Int) (lineB_0 : Int → Int) (items_0 : Int) (layerMany_0 : Int) (lines_0 : Int) (layerSize_0 : Int → Int) (layerItem_0 : Int → Int) (apartMany_0 : Int) (costMany_0 : Int) (costA_0 : Int → Int) (costB_0 : Int → Int) (costW_0 : Int → Int) (costPlain_0 : Int → Int) (k2 : 0 ≤ x2 ∧ x2 ≤ 129) (k3 : 1 ≤ x3 ∧ x3 ≤ 130) (k5 : 0 ≤ x5 ∧ x5 ≤ 23) (k6 : 1 ≤ x6 ∧ x6 ≤ 24) (k9 : 0 ≤ x9 ∧ x9 ≤ 23) (k10 : 1 ≤ x10 ∧ x10 ≤ 24) (k12 : 0 ≤ x12 ∧ x12 ≤ 75) (k13 : 0 ≤ x13 ∧ x13 ≤ 75) (k14 : 0 ≤ x14 ∧ x14 ≤ 47) (k15 : 0 ≤ x15 ∧ x15 ≤ 75) (k16 : 0 ≤ x16 ∧ x16 ≤ 75) (k21 : 0 ≤ x21 ∧ x21 ≤ 199) (k22 : 1 ≤ x22 ∧ x22 ≤ 130) (d0 : x2 + 1 ≤ x22 ∧ x22 ≤ x2 + 1) (d1 : x3 + (-4294967296) ≤ x22 ∧ x22 ≤ x3 + 0) (d2 : x10 + (-4294967296) ≤ x9 ∧ x9 ≤ x10 + (-1)) (d3 : x6 + (-4294967296) ≤ x5 ∧ x5 ≤ x6 + (-1)) (d4 : x3 + (-4294967296) ≤ x2 ∧ x2 ≤ x3 + (-1)) (f0 : x22 = x2 + 1) (f1 : 1 * x21 + ((-1) * x2 + 0) ≤ 0) (f2 : (-1) * x21 + (1 * x2 + 0) ≤ 0) (f3 : (0 ≤ x15) ∧ ((x15 + 1) ≤ pointMany_0)) (f4 : (0 ≤ x16) ∧ ((x16 + 1) ≤ pointMany_0)) (f5 : BTP (r_0) (all_0) (x12) (x13) (x14)) (f6 : 1 * x10 + ((-1) * all_0 (r_0 + 0) + 0) ≤ 0) (f7 : (-1) * x10 + (1 * all_0 (r_0 + 0) + 0) ≤ 0) (f8 : 1 * x6 + ((-1) * all_0 (r_0 + 0) + 0) ≤ 0) (f9 : (-1) * x6 + (1 * all_0 (r_0 + 0) + 0) ≤ 0) (f10 : LSA (r_0) (items_0) (layerMany_0) (lines_0) (all_0) (turned_0) (itemLayer_0) (firstJoint_0) (lineA_0) (lineB_0)) (f11 : LSB (items_0) (layerMany_0) (itemLayer_0) (layerSize_0) (layerItem_0)) (f12 : SGR (r_0) (all_0)) (f13 : pointMany_0 = items_0) (f14 : apartMany_0 = 0) (f16 : costMany_0 = (x21 + 1)) (f17 : PCQ (pointMany_0) (costMany_0) (costA_0) (costB_0) (costW_0) (costPlain_0)) (f19 : 1 * x21 + ((-1) * x2 + 0) ≤ 0) (f20 : (-1) * x21 + (1 * x2 + 0) ≤ 0) (f21 : x9 < x10) (f22 : x5 < x6) (f23 : x2 < x3) (hK_0_83 : ∀ j : Int, 0 ≤ j → j < 200 → 0 ≤ costA_0 j ∧ costA_0 j ≤ 75) (hK_0_84 : ∀ j : Int, 0 ≤ j → j < 200 → 0 ≤ costB_0 j ∧ costB_0 j ≤ 75) (hK_0_85 : ∀ j : Int, 0 ≤ j → j < 200 → 0 ≤ costW_0 j ∧ costW_0 j ≤ 72) (hK_0_86 : ∀ j : Int, 0 ≤ j → j < 200 → 0 ≤ costPlain_0 j ∧ costPlain_0 j ≤ 1) (hK_0_95 : ∀ j : Int, 0 ≤ j → j < 48 → 0 ≤ turned_0 j ∧ turned_0 j ≤ 1) (hK_0_102 : ∀ j : Int, 0 ≤ j → j < 76 → 0 ≤ itemLayer_0 j ∧ itemLayer_0 j ≤ 75) (hK_0_104 : ∀ j : Int, 0 ≤ j → j < 48 → 0 ≤ firstJoint_0 j ∧ firstJoint_0 j ≤ 76) (hK_0_105 : ∀ j : Int, 0 ≤ j → j < 76 → 0 ≤ layerSize_0 j ∧ layerSize_0 j ≤ 76) (hK_0_106 : ∀ j : Int, 0 ≤ j → j < 5776 → 0 ≤ layerItem_0 j ∧ layerItem_0 j ≤ 75) (hK_0_108 : ∀ j : Int, 0 ≤ j → j < 130 → 0 ≤ lineA_0 j ∧ lineA_0 j ≤ 75) (hK_0_109 : ∀ j : Int, 0 ≤ j → j < 130 → 0 ≤ lineB_0 j ∧ lineB_0 j ≤ 75) (kz_0_79 : 0 ≤ pointMany_0 ∧ pointMany_0 ≤ 76) (kz_0_80 : 0 ≤ costMany_0 ∧ costMany_0 ≤ 200) (kz_0_81 : 0 ≤ apartMany_0 ∧ apartMany_0 ≤ 200) (kz_0_100 : 0 ≤ items_0 ∧ items_0 ≤ 76) (kz_0_101 : 0 ≤ layerMany_0 ∧ layerMany_0 ≤ 76) (kz_0_107 : 0 ≤ lines_0 ∧ lines_0 ≤ 130) : costMany_0 = x22 := by
  try simp only [Int.add_zero] at *
  first
    | omega
    | (have h := ‹LSA _ _ _ _ _ _ _ _ _ _›.2.1; omega)
    | (have h := lsa_la (p := x2) (x := x15) ‹LSA _ _ _ _ _ _ _ _ _ _› (by omega) (by omega) (by assumption); omega)
    | (have h := lsa_lb (p := x2) (x := x16) ‹LSA _ _ _ _ _ _ _ _ _ _› (by omega) (by omega) (by assumption); omega)
def o_Mo_across2_4 : or_T := (20, 23, [(0, (2, 0, 0, [150])), (1, (2, 0, 0, [150])), (2, (0, 0, 129, [])), (3, (0, 1, 130, [])), (5, (0, 0, 23, [])), (6, (0, 1, 24, [])), (9, (0, 0, 23, [])), (10, (0, 1, 24, [])), (12, (0, 0, 75, [])), (13, (0, 0, 75, [])), (14, (0, 0, 47, [])), (15, (0, 0, 75, [])), (16, (0, 0, 75, [])), (21, (0, 0, 199, [])), (22, (0, 1, 130, []))], [(6, [22, 2], [1]), (23, [21, 2], [0, 1, -1]), (23, [21, 2], [0, -1, 1]), (20, [15, 1], [50, 1, 0, 1079, 2, 6, 0, 2, 0, 0, 1, 0, 0, 6, 4, 2, 1, 0, 0, 1, 2, 1, 79]), (20, [16, 1], [50, 1, 0, 1079, 2, 6, 0, 2, 0, 0, 1, 0, 0, 6, 4, 2, 1, 0, 0, 1, 2, 1, 79]), (20, [1, 12, 13, 14], [60, 1, 1, 130, 5, 2]), (20, [10, 1], [30, 0, 1, 0, 0, -1, 3, 2005000]), (20, [10, 1], [30, 0, -1, 0, 0, 1, 3, 2005000]), (20, [6, 1], [30, 0, 1, 0, 0, -1, 3, 2005000]), (20, [6, 1], [30, 0, -1, 0, 0, 1, 3, 2005000]), (20, [1], [60, 4, 6, 369, 5, 100, 101, 107, 2, 95, 102, 104, 108, 109]), (20, [1], [60, 2, 3, 372, 100, 101, 102, 105, 106]), (20, [1], [60, 1, 1, 122, 5, 2]), (20, [1], [50, 2, 0, 79, 100, 1, 3, 2, 0, 79, 2, 0, 100]), (20, [1], [50, 1, 0, 81, 1, 3, 2, 0, 81, 0, 0]), (24, [0, 1], []), (20, [1, 21], [50, 1, 0, 80, 1, 3, 2, 0, 80, 4, 2, 1, 1, 0, 1]), (20, [1], [60, 2, 4, 380, 79, 80, 83, 84, 85, 86]), (102, [21], [771330261244315332260141804323758049210657437015740560944660480, 13080]), (23, [21, 2], [0, 1, -1]), (23, [21, 2], [0, -1, 1]), (7, [9, 10], [2]), (7, [5, 6], [2]), (7, [2, 3], [2])], [], [], [(20, [1, 22], [50, 1, 0, 80, 1, 3, 2, 0, 80, 1, 1])], [], [(22, 2, 1, 1), (22, 3, -4294967296, 0), (9, 10, -4294967296, -1), (5, 6, -4294967296, -1), (2, 3, -4294967296, -1)])
theorem oo_Mo_across2_4 {kA : Nat → ClassId} : or_ok PRD kA GG o_Mo_across2_4 := by
  intro A ta ws vs hD hth hl hk hds hf
  have hl : vs.length = 23 := hl
  have hk : ∀ q ∈ ([(0, (2, 0, 0, [150])), (1, (2, 0, 0, [150])), (2, (0, 0, 129, [])), (3, (0, 1, 130, [])), (5, (0, 0, 23, [])), (6, (0, 1, 24, [])), (9, (0, 0, 23, [])), (10, (0, 1, 24, [])), (12, (0, 0, 75, [])), (13, (0, 0, 75, [])), (14, (0, 0, 47, [])), (15, (0, 0, 75, [])), (16, (0, 0, 75, [])), (21, (0, 0, 199, [])), (22, (0, 1, 130, []))] : List (Nat × tv_T)), tv_ok ta q.2 (n_v vs q.1) := hk
  obtain ⟨t0, hk⟩ := List.forall_mem_cons.mp hk
  have t0 : tv_ok ta (2, 0, 0, [150]) (n_v vs 0) := t0
  have r0 : ta (v_ad (n_v vs 0)) = some 150 := tv_rg t0
  obtain ⟨t1, hk⟩ := List.forall_mem_cons.mp hk
  have t1 : tv_ok ta (2, 0, 0, [150]) (n_v vs 1) := t1
  have r1 : ta (v_ad (n_v vs 1)) = some 150 := tv_rg t1
  obtain ⟨t2, hk⟩ := List.forall_mem_cons.mp hk
  have t2 : tv_ok ta (0, 0, 129, []) (n_v vs 2) := t2
  have k2 : 0 ≤ v_iv (n_v vs 2) ∧ v_iv (n_v vs 2) ≤ 129 := tv_rng t2
  obtain ⟨t3, hk⟩ := List.forall_mem_cons.mp hk
  have t3 : tv_ok ta (0, 1, 130, []) (n_v vs 3) := t3
  have k3 : 1 ≤ v_iv (n_v vs 3) ∧ v_iv (n_v vs 3) ≤ 130 := tv_rng t3
  obtain ⟨t5, hk⟩ := List.forall_mem_cons.mp hk
  have t5 : tv_ok ta (0, 0, 23, []) (n_v vs 5) := t5
  have k5 : 0 ≤ v_iv (n_v vs 5) ∧ v_iv (n_v vs 5) ≤ 23 := tv_rng t5
  obtain ⟨t6, hk⟩ := List.forall_mem_cons.mp hk
  have t6 : tv_ok ta (0, 1, 24, []) (n_v vs 6) := t6
  have k6 : 1 ≤ v_iv (n_v vs 6) ∧ v_iv (n_v vs 6) ≤ 24 := tv_rng t6
  obtain ⟨t9, hk⟩ := List.forall_mem_cons.mp hk
  have t9 : tv_ok ta (0, 0, 23, []) (n_v vs 9) := t9
  have k9 : 0 ≤ v_iv (n_v vs 9) ∧ v_iv (n_v vs 9) ≤ 23 := tv_rng t9
  obtain ⟨t10, hk⟩ := List.forall_mem_cons.mp hk
  have t10 : tv_ok ta (0, 1, 24, []) (n_v vs 10) := t10
  have k10 : 1 ≤ v_iv (n_v vs 10) ∧ v_iv (n_v vs 10) ≤ 24 := tv_rng t10
  obtain ⟨t12, hk⟩ := List.forall_mem_cons.mp hk
  have t12 : tv_ok ta (0, 0, 75, []) (n_v vs 12) := t12
  have k12 : 0 ≤ v_iv (n_v vs 12) ∧ v_iv (n_v vs 12) ≤ 75 := tv_rng t12
  obtain ⟨t13, hk⟩ := List.forall_mem_cons.mp hk
  have t13 : tv_ok ta (0, 0, 75, []) (n_v vs 13) := t13
  have k13 : 0 ≤ v_iv (n_v vs 13) ∧ v_iv (n_v vs 13) ≤ 75 := tv_rng t13
  obtain ⟨t14, hk⟩ := List.forall_mem_cons.mp hk
  have t14 : tv_ok ta (0, 0, 47, []) (n_v vs 14) := t14
  have k14 : 0 ≤ v_iv (n_v vs 14) ∧ v_iv (n_v vs 14) ≤ 47 := tv_rng t14
  obtain ⟨t15, hk⟩ := List.forall_mem_cons.mp hk
  have t15 : tv_ok ta (0, 0, 75, []) (n_v vs 15) := t15
  have k15 : 0 ≤ v_iv (n_v vs 15) ∧ v_iv (n_v vs 15) ≤ 75 := tv_rng t15
  obtain ⟨t16, hk⟩ := List.forall_mem_cons.mp hk
  have t16 : tv_ok ta (0, 0, 75, []) (n_v vs 16) := t16
  have k16 : 0 ≤ v_iv (n_v vs 16) ∧ v_iv (n_v vs 16) ≤ 75 := tv_rng t16
  obtain ⟨t21, hk⟩ := List.forall_mem_cons.mp hk
  have t21 : tv_ok ta (0, 0, 199, []) (n_v vs 21) := t21
  have k21 : 0 ≤ v_iv (n_v vs 21) ∧ v_iv (n_v vs 21) ≤ 199 := tv_rng t21
  obtain ⟨t22, hk⟩ := List.forall_mem_cons.mp hk
  have t22 : tv_ok ta (0, 1, 130, []) (n_v vs 22) := t22
  have k22 : 1 ≤ v_iv (n_v vs 22) ∧ v_iv (n_v vs 22) ≤ 130 := tv_rng t22
  have hds : ∀ q ∈ ([(22, 2, 1, 1), (22, 3, -4294967296, 0), (9, 10, -4294967296, -1), (5, 6, -4294967296, -1), (2, 3, -4294967296, -1)] : List of_T), n_iv vs q.2.1 + q.2.2.1 ≤ n_iv vs q.1 ∧ n_iv vs q.1 ≤ n_iv vs q.2.1 + q.2.2.2 := hds
  obtain ⟨d0, hds⟩ := List.forall_mem_cons.mp hds
  have d0 : v_iv (n_v vs 2) + 1 ≤ v_iv (n_v vs 22) ∧ v_iv (n_v vs 22) ≤ v_iv (n_v vs 2) + 1 := d0
  obtain ⟨d1, hds⟩ := List.forall_mem_cons.mp hds
  have d1 : v_iv (n_v vs 3) + (-4294967296) ≤ v_iv (n_v vs 22) ∧ v_iv (n_v vs 22) ≤ v_iv (n_v vs 3) + 0 := d1
  obtain ⟨d2, hds⟩ := List.forall_mem_cons.mp hds
  have d2 : v_iv (n_v vs 10) + (-4294967296) ≤ v_iv (n_v vs 9) ∧ v_iv (n_v vs 9) ≤ v_iv (n_v vs 10) + (-1) := d2
  obtain ⟨d3, hds⟩ := List.forall_mem_cons.mp hds
  have d3 : v_iv (n_v vs 6) + (-4294967296) ≤ v_iv (n_v vs 5) ∧ v_iv (n_v vs 5) ≤ v_iv (n_v vs 6) + (-1) := d3
  obtain ⟨d4, hds⟩ := List.forall_mem_cons.mp hds
  have d4 : v_iv (n_v vs 3) + (-4294967296) ≤ v_iv (n_v vs 2) ∧ v_iv (n_v vs 2) ≤ v_iv (n_v vs 3) + (-1) := d4
  have hf : fc_ok PRD [(6, [22, 2], [1]), (23, [21, 2], [0, 1, -1]), (23, [21, 2], [0, -1, 1]), (20, [15, 1], [50, 1, 0, 1079, 2, 6, 0, 2, 0, 0, 1, 0, 0, 6, 4, 2, 1, 0, 0, 1, 2, 1, 79]), (20, [16, 1], [50, 1, 0, 1079, 2, 6, 0, 2, 0, 0, 1, 0, 0, 6, 4, 2, 1, 0, 0, 1, 2, 1, 79]), (20, [1, 12, 13, 14], [60, 1, 1, 130, 5, 2]), (20, [10, 1], [30, 0, 1, 0, 0, -1, 3, 2005000]), (20, [10, 1], [30, 0, -1, 0, 0, 1, 3, 2005000]), (20, [6, 1], [30, 0, 1, 0, 0, -1, 3, 2005000]), (20, [6, 1], [30, 0, -1, 0, 0, 1, 3, 2005000]), (20, [1], [60, 4, 6, 369, 5, 100, 101, 107, 2, 95, 102, 104, 108, 109]), (20, [1], [60, 2, 3, 372, 100, 101, 102, 105, 106]), (20, [1], [60, 1, 1, 122, 5, 2]), (20, [1], [50, 2, 0, 79, 100, 1, 3, 2, 0, 79, 2, 0, 100]), (20, [1], [50, 1, 0, 81, 1, 3, 2, 0, 81, 0, 0]), (24, [0, 1], []), (20, [1, 21], [50, 1, 0, 80, 1, 3, 2, 0, 80, 4, 2, 1, 1, 0, 1]), (20, [1], [60, 2, 4, 380, 79, 80, 83, 84, 85, 86]), (102, [21], [771330261244315332260141804323758049210657437015740560944660480, 13080]), (23, [21, 2], [0, 1, -1]), (23, [21, 2], [0, -1, 1]), (7, [9, 10], [2]), (7, [5, 6], [2]), (7, [2, 3], [2])] ta ws vs := hf
  obtain ⟨f0, hf⟩ := fc_un (show (6 : Nat) < 100 from by decide) hf
  have f0 : v_iv (n_v vs 22) = v_iv (n_v vs 2) + 1 := f0
  obtain ⟨f1, hf⟩ := fc_un (show (23 : Nat) < 100 from by decide) hf
  have f1 : 1 * v_iv (n_v vs 21) + ((-1) * v_iv (n_v vs 2) + 0) ≤ 0 := f1
  obtain ⟨f2, hf⟩ := fc_un (show (23 : Nat) < 100 from by decide) hf
  have f2 : (-1) * v_iv (n_v vs 21) + (1 * v_iv (n_v vs 2) + 0) ≤ 0 := f2
  obtain ⟨f3, hf⟩ := fc_un (show (20 : Nat) < 100 from by decide) hf
  have f3 : (0 ≤ v_iv (n_v vs 15)) ∧ ((v_iv (n_v vs 15) + 1) ≤ w_fi ws (n_v vs 1) 79) := f3
  obtain ⟨f4, hf⟩ := fc_un (show (20 : Nat) < 100 from by decide) hf
  have f4 : (0 ≤ v_iv (n_v vs 16)) ∧ ((v_iv (n_v vs 16) + 1) ≤ w_fi ws (n_v vs 1) 79) := f4
  obtain ⟨f5, hf⟩ := fc_un (show (20 : Nat) < 100 from by decide) hf
  have f5 : BTP (w_fi ws (n_v vs 1) 5) (w_ei ws (w_ar ws (n_v vs 1) 2)) (v_iv (n_v vs 12)) (v_iv (n_v vs 13)) (v_iv (n_v vs 14)) := f5
  obtain ⟨f6, hf⟩ := fc_un (show (20 : Nat) < 100 from by decide) hf
  have f6 : 1 * v_iv (n_v vs 10) + ((-1) * w_el ws (w_ar ws (n_v vs 1) 2) (w_fi ws (n_v vs 1) 5 + 0).toNat + 0) ≤ 0 := f6
  obtain ⟨f7, hf⟩ := fc_un (show (20 : Nat) < 100 from by decide) hf
  have f7 : (-1) * v_iv (n_v vs 10) + (1 * w_el ws (w_ar ws (n_v vs 1) 2) (w_fi ws (n_v vs 1) 5 + 0).toNat + 0) ≤ 0 := f7
  obtain ⟨f8, hf⟩ := fc_un (show (20 : Nat) < 100 from by decide) hf
  have f8 : 1 * v_iv (n_v vs 6) + ((-1) * w_el ws (w_ar ws (n_v vs 1) 2) (w_fi ws (n_v vs 1) 5 + 0).toNat + 0) ≤ 0 := f8
  obtain ⟨f9, hf⟩ := fc_un (show (20 : Nat) < 100 from by decide) hf
  have f9 : (-1) * v_iv (n_v vs 6) + (1 * w_el ws (w_ar ws (n_v vs 1) 2) (w_fi ws (n_v vs 1) 5 + 0).toNat + 0) ≤ 0 := f9
  obtain ⟨f10, hf⟩ := fc_un (show (20 : Nat) < 100 from by decide) hf
  have f10 : LSA (w_fi ws (n_v vs 1) 5) (w_fi ws (n_v vs 1) 100) (w_fi ws (n_v vs 1) 101) (w_fi ws (n_v vs 1) 107) (w_ei ws (w_ar ws (n_v vs 1) 2)) (w_ei ws (w_ar ws (n_v vs 1) 95)) (w_ei ws (w_ar ws (n_v vs 1) 102)) (w_ei ws (w_ar ws (n_v vs 1) 104)) (w_ei ws (w_ar ws (n_v vs 1) 108)) (w_ei ws (w_ar ws (n_v vs 1) 109)) := f10
  obtain ⟨f11, hf⟩ := fc_un (show (20 : Nat) < 100 from by decide) hf
  have f11 : LSB (w_fi ws (n_v vs 1) 100) (w_fi ws (n_v vs 1) 101) (w_ei ws (w_ar ws (n_v vs 1) 102)) (w_ei ws (w_ar ws (n_v vs 1) 105)) (w_ei ws (w_ar ws (n_v vs 1) 106)) := f11
  obtain ⟨f12, hf⟩ := fc_un (show (20 : Nat) < 100 from by decide) hf
  have f12 : SGR (w_fi ws (n_v vs 1) 5) (w_ei ws (w_ar ws (n_v vs 1) 2)) := f12
  obtain ⟨f13, hf⟩ := fc_un (show (20 : Nat) < 100 from by decide) hf
  have f13 : w_fi ws (n_v vs 1) 79 = w_fi ws (n_v vs 1) 100 := f13
  obtain ⟨f14, hf⟩ := fc_un (show (20 : Nat) < 100 from by decide) hf
  have f14 : w_fi ws (n_v vs 1) 81 = 0 := f14
  obtain ⟨f15, hf⟩ := fc_un (show (24 : Nat) < 100 from by decide) hf
  have f15 : n_v vs 0 = n_v vs 1 := f15
  obtain ⟨f16, hf⟩ := fc_un (show (20 : Nat) < 100 from by decide) hf
  have f16 : w_fi ws (n_v vs 1) 80 = (v_iv (n_v vs 21) + 1) := f16
  obtain ⟨f17, hf⟩ := fc_un (show (20 : Nat) < 100 from by decide) hf
  have f17 : PCQ (w_fi ws (n_v vs 1) 79) (w_fi ws (n_v vs 1) 80) (w_ei ws (w_ar ws (n_v vs 1) 83)) (w_ei ws (w_ar ws (n_v vs 1) 84)) (w_ei ws (w_ar ws (n_v vs 1) 85)) (w_ei ws (w_ar ws (n_v vs 1) 86)) := f17
  obtain ⟨ta1, w1, le1, ⟨_, s1⟩, hf⟩ := fc_us (show ¬ (102 : Nat) < 100 from by decide) hf
  obtain ⟨f19, hf⟩ := fc_un (show (23 : Nat) < 100 from by decide) hf
  have f19 : 1 * v_iv (n_v vs 21) + ((-1) * v_iv (n_v vs 2) + 0) ≤ 0 := f19
  obtain ⟨f20, hf⟩ := fc_un (show (23 : Nat) < 100 from by decide) hf
  have f20 : (-1) * v_iv (n_v vs 21) + (1 * v_iv (n_v vs 2) + 0) ≤ 0 := f20
  obtain ⟨f21, hf⟩ := fc_un (show (7 : Nat) < 100 from by decide) hf
  have f21 : v_iv (n_v vs 9) < v_iv (n_v vs 10) := f21
  obtain ⟨f22, hf⟩ := fc_un (show (7 : Nat) < 100 from by decide) hf
  have f22 : v_iv (n_v vs 5) < v_iv (n_v vs 6) := f22
  obtain ⟨f23, hf⟩ := fc_un (show (7 : Nat) < 100 from by decide) hf
  have f23 : v_iv (n_v vs 2) < v_iv (n_v vs 3) := f23
  have q1 : n_v vs 1 = n_v vs 0 := f15.symm
  rw [q1] at f3
  rw [q1] at f4
  rw [q1] at f5
  rw [q1] at f6
  rw [q1] at f7
  rw [q1] at f8
  rw [q1] at f9
  rw [q1] at f10
  rw [q1] at f11
  rw [q1] at f12
  rw [q1] at f13
  rw [q1] at f14
  rw [q1] at f16
  rw [q1] at f17
  have cr_0_2 : ta (w_ar ws (n_v vs 0) 2) = some 152 := tv_rg (th_fd hD hth r0 (g := GG_150) rfl (k := 2) (t := (2, 0, 0, [152])) rfl rfl)
  have cr_0_83 : ta (w_ar ws (n_v vs 0) 83) = some 205 := tv_rg (th_fd hD hth r0 (g := GG_150) rfl (k := 83) (t := (2, 0, 0, [205])) rfl rfl)
  have cr_0_84 : ta (w_ar ws (n_v vs 0) 84) = some 206 := tv_rg (th_fd hD hth r0 (g := GG_150) rfl (k := 84) (t := (2, 0, 0, [206])) rfl rfl)
  have cr_0_85 : ta (w_ar ws (n_v vs 0) 85) = some 207 := tv_rg (th_fd hD hth r0 (g := GG_150) rfl (k := 85) (t := (2, 0, 0, [207])) rfl rfl)
  have cr_0_86 : ta (w_ar ws (n_v vs 0) 86) = some 208 := tv_rg (th_fd hD hth r0 (g := GG_150) rfl (k := 86) (t := (2, 0, 0, [208])) rfl rfl)
  have cr_0_95 : ta (w_ar ws (n_v vs 0) 95) = some 216 := tv_rg (th_fd hD hth r0 (g := GG_150) rfl (k := 95) (t := (2, 0, 0, [216])) rfl rfl)
  have cr_0_102 : ta (w_ar ws (n_v vs 0) 102) = some 220 := tv_rg (th_fd hD hth r0 (g := GG_150) rfl (k := 102) (t := (2, 0, 0, [220])) rfl rfl)
  have cr_0_104 : ta (w_ar ws (n_v vs 0) 104) = some 222 := tv_rg (th_fd hD hth r0 (g := GG_150) rfl (k := 104) (t := (2, 0, 0, [222])) rfl rfl)
  have cr_0_105 : ta (w_ar ws (n_v vs 0) 105) = some 223 := tv_rg (th_fd hD hth r0 (g := GG_150) rfl (k := 105) (t := (2, 0, 0, [223])) rfl rfl)
  have cr_0_106 : ta (w_ar ws (n_v vs 0) 106) = some 224 := tv_rg (th_fd hD hth r0 (g := GG_150) rfl (k := 106) (t := (2, 0, 0, [224])) rfl rfl)
  have cr_0_108 : ta (w_ar ws (n_v vs 0) 108) = some 225 := tv_rg (th_fd hD hth r0 (g := GG_150) rfl (k := 108) (t := (2, 0, 0, [225])) rfl rfl)
  have cr_0_109 : ta (w_ar ws (n_v vs 0) 109) = some 226 := tv_rg (th_fd hD hth r0 (g := GG_150) rfl (k := 109) (t := (2, 0, 0, [226])) rfl rfl)
  have hK_0_83 : ∀ j : Int, 0 ≤ j → j < 200 → 0 ≤ w_ei ws (w_ar ws (n_v vs 0) 83) j ∧ w_ei ws (w_ar ws (n_v vs 0) 83) j ≤ 75 := fun j h0 h1 => th_el hD hth cr_0_83 (kd := 0) (n := 200) (m := 200) (lo := 0) (hi := 75) (rs := []) (L := []) rfl (by decide) (j := j.toNat) (by omega)
  have hK_0_84 : ∀ j : Int, 0 ≤ j → j < 200 → 0 ≤ w_ei ws (w_ar ws (n_v vs 0) 84) j ∧ w_ei ws (w_ar ws (n_v vs 0) 84) j ≤ 75 := fun j h0 h1 => th_el hD hth cr_0_84 (kd := 0) (n := 200) (m := 200) (lo := 0) (hi := 75) (rs := []) (L := []) rfl (by decide) (j := j.toNat) (by omega)
  have hK_0_85 : ∀ j : Int, 0 ≤ j → j < 200 → 0 ≤ w_ei ws (w_ar ws (n_v vs 0) 85) j ∧ w_ei ws (w_ar ws (n_v vs 0) 85) j ≤ 72 := fun j h0 h1 => th_el hD hth cr_0_85 (kd := 0) (n := 200) (m := 200) (lo := 0) (hi := 72) (rs := []) (L := []) rfl (by decide) (j := j.toNat) (by omega)
  have hK_0_86 : ∀ j : Int, 0 ≤ j → j < 200 → 0 ≤ w_ei ws (w_ar ws (n_v vs 0) 86) j ∧ w_ei ws (w_ar ws (n_v vs 0) 86) j ≤ 1 := fun j h0 h1 => th_el hD hth cr_0_86 (kd := 2) (n := 200) (m := 200) (lo := 0) (hi := 1) (rs := []) (L := []) rfl (by decide) (j := j.toNat) (by omega)
  have hK_0_95 : ∀ j : Int, 0 ≤ j → j < 48 → 0 ≤ w_ei ws (w_ar ws (n_v vs 0) 95) j ∧ w_ei ws (w_ar ws (n_v vs 0) 95) j ≤ 1 := fun j h0 h1 => th_el hD hth cr_0_95 (kd := 2) (n := 48) (m := 48) (lo := 0) (hi := 1) (rs := []) (L := []) rfl (by decide) (j := j.toNat) (by omega)
  have hK_0_102 : ∀ j : Int, 0 ≤ j → j < 76 → 0 ≤ w_ei ws (w_ar ws (n_v vs 0) 102) j ∧ w_ei ws (w_ar ws (n_v vs 0) 102) j ≤ 75 := fun j h0 h1 => th_el hD hth cr_0_102 (kd := 0) (n := 76) (m := 76) (lo := 0) (hi := 75) (rs := []) (L := []) rfl (by decide) (j := j.toNat) (by omega)
  have hK_0_104 : ∀ j : Int, 0 ≤ j → j < 48 → 0 ≤ w_ei ws (w_ar ws (n_v vs 0) 104) j ∧ w_ei ws (w_ar ws (n_v vs 0) 104) j ≤ 76 := fun j h0 h1 => th_el hD hth cr_0_104 (kd := 0) (n := 48) (m := 48) (lo := 0) (hi := 76) (rs := []) (L := []) rfl (by decide) (j := j.toNat) (by omega)
  have hK_0_105 : ∀ j : Int, 0 ≤ j → j < 76 → 0 ≤ w_ei ws (w_ar ws (n_v vs 0) 105) j ∧ w_ei ws (w_ar ws (n_v vs 0) 105) j ≤ 76 := fun j h0 h1 => th_el hD hth cr_0_105 (kd := 0) (n := 76) (m := 76) (lo := 0) (hi := 76) (rs := []) (L := []) rfl (by decide) (j := j.toNat) (by omega)
  have hK_0_106 : ∀ j : Int, 0 ≤ j → j < 5776 → 0 ≤ w_ei ws (w_ar ws (n_v vs 0) 106) j ∧ w_ei ws (w_ar ws (n_v vs 0) 106) j ≤ 75 := fun j h0 h1 => th_el hD hth cr_0_106 (kd := 0) (n := 5776) (m := 5776) (lo := 0) (hi := 75) (rs := []) (L := []) rfl (by decide) (j := j.toNat) (by omega)
  have hK_0_108 : ∀ j : Int, 0 ≤ j → j < 130 → 0 ≤ w_ei ws (w_ar ws (n_v vs 0) 108) j ∧ w_ei ws (w_ar ws (n_v vs 0) 108) j ≤ 75 := fun j h0 h1 => th_el hD hth cr_0_108 (kd := 0) (n := 130) (m := 130) (lo := 0) (hi := 75) (rs := []) (L := []) rfl (by decide) (j := j.toNat) (by omega)
  have hK_0_109 : ∀ j : Int, 0 ≤ j → j < 130 → 0 ≤ w_ei ws (w_ar ws (n_v vs 0) 109) j ∧ w_ei ws (w_ar ws (n_v vs 0) 109) j ≤ 75 := fun j h0 h1 => th_el hD hth cr_0_109 (kd := 0) (n := 130) (m := 130) (lo := 0) (hi := 75) (rs := []) (L := []) rfl (by decide) (j := j.toNat) (by omega)
  have kz_0_79 : 0 ≤ w_fi ws (n_v vs 0) 79 ∧ w_fi ws (n_v vs 0) 79 ≤ 76 := tv_rng (th_fd hD hth r0 (g := GG_150) rfl (k := 79) (t := (0, 0, 76, [])) rfl rfl)
  have kz_0_80 : 0 ≤ w_fi ws (n_v vs 0) 80 ∧ w_fi ws (n_v vs 0) 80 ≤ 200 := tv_rng (th_fd hD hth r0 (g := GG_150) rfl (k := 80) (t := (0, 0, 200, [])) rfl rfl)
  have kz_0_81 : 0 ≤ w_fi ws (n_v vs 0) 81 ∧ w_fi ws (n_v vs 0) 81 ≤ 200 := tv_rng (th_fd hD hth r0 (g := GG_150) rfl (k := 81) (t := (0, 0, 200, [])) rfl rfl)
  have kz_0_100 : 0 ≤ w_fi ws (n_v vs 0) 100 ∧ w_fi ws (n_v vs 0) 100 ≤ 76 := tv_rng (th_fd hD hth r0 (g := GG_150) rfl (k := 100) (t := (0, 0, 76, [])) rfl rfl)
  have kz_0_101 : 0 ≤ w_fi ws (n_v vs 0) 101 ∧ w_fi ws (n_v vs 0) 101 ≤ 76 := tv_rng (th_fd hD hth r0 (g := GG_150) rfl (k := 101) (t := (0, 0, 76, [])) rfl rfl)
  have kz_0_107 : 0 ≤ w_fi ws (n_v vs 0) 107 ∧ w_fi ws (n_v vs 0) 107 ≤ 130 := tv_rng (th_fd hD hth r0 (g := GG_150) rfl (k := 107) (t := (0, 0, 130, [])) rfl rfl)
  have nf0 : fc_1 PRD (20, [1, 22], [50, 1, 0, 80, 1, 3, 2, 0, 80, 1, 1]) ws (vs) := by
    refine ⟨fun n hn => ?_, ?_⟩
    · have hn : n ∈ [1, 22] := hn
      rw [hl]
      simp only [List.mem_cons, List.not_mem_nil, or_false] at hn
      show n < 23; omega
    · show w_fi ws (n_v vs 1) 80 = v_iv (n_v vs 22)
      rw [q1]
      exact vc_Mo_across2_4_0 (v_iv (n_v vs 2)) (v_iv (n_v vs 3)) (v_iv (n_v vs 5)) (v_iv (n_v vs 6)) (v_iv (n_v vs 9)) (v_iv (n_v vs 10)) (v_iv (n_v vs 12)) (v_iv (n_v vs 13)) (v_iv (n_v vs 14)) (v_iv (n_v vs 15)) (v_iv (n_v vs 16)) (v_iv (n_v vs 21)) (v_iv (n_v vs 22)) (w_fi ws (n_v vs 0) 79) (w_ei ws (w_ar ws (n_v vs 0) 2)) (w_fi ws (n_v vs 0) 5) (w_ei ws (w_ar ws (n_v vs 0) 95)) (w_ei ws (w_ar ws (n_v vs 0) 102)) (w_ei ws (w_ar ws (n_v vs 0) 104)) (w_ei ws (w_ar ws (n_v vs 0) 108)) (w_ei ws (w_ar ws (n_v vs 0) 109)) (w_fi ws (n_v vs 0) 100) (w_fi ws (n_v vs 0) 101) (w_fi ws (n_v vs 0) 107) (w_ei ws (w_ar ws (n_v vs 0) 105)) (w_ei ws (w_ar ws (n_v vs 0) 106)) (w_fi ws (n_v vs 0) 81) (w_fi ws (n_v vs 0) 80) (w_ei ws (w_ar ws (n_v vs 0) 83)) (w_ei ws (w_ar ws (n_v vs 0) 84)) (w_ei ws (w_ar ws (n_v vs 0) 85)) (w_ei ws (w_ar ws (n_v vs 0) 86)) k2 k3 k5 k6 k9 k10 k12 k13 k14 k15 k16 k21 k22 d0 d1 d2 d3 d4 f0 f1 f2 f3 f4 f5 f6 f7 f8 f9 f10 f11 f12 f13 f14 f16 f17 f19 f20 f21 f22 f23 hK_0_83 hK_0_84 hK_0_85 hK_0_86 hK_0_95 hK_0_102 hK_0_104 hK_0_105 hK_0_106 hK_0_108 hK_0_109 kz_0_79 kz_0_80 kz_0_81 kz_0_100 kz_0_101 kz_0_107
  refine ⟨(fun _ h => (by cases h)), [], trivial, ?_, (fun _ h => (by cases h))⟩
  rw [List.append_nil]
  exact List.forall_mem_cons.mpr ⟨⟨show (20 : Nat) < 100 from by decide, nf0⟩, (fun _ h => (by cases h))⟩
set_option maxHeartbeats 4000000 in
theorem vc_Mo_across2_5_0 (x2 : Int) (x3 : Int) (x5 : Int) (x6 : Int) (x9 : Int) (x10 : Int) (x13 : Int) (x15 : Int) (x16 : Int) (lineB_0 : Int → Int) (lineA_0 : Int → Int) (all_0 : Int → Int) (r_0 : Int) (lines_0 : Int) (turned_0 : Int → Int) (itemLayer_0 : Int → Int) (firstJoint_0 : Int → Int) (items_0 : Int) (layerMany_0 : Int) (layerSize_0 : Int → Int) (layerItem_0 : Int → Int) (pointMany_0 : Int) (costA_0 : Int → Int) (costB_0 : Int → Int) (costW_0 : Int → Int) (costPlain_0 : Int → Int) (costMany_0 : Int) (apartMany_0 : Int) (gx : Int) (k2 : 0 ≤ x2 ∧ x2 ≤ 129) (k3 : 1 ≤ x3 ∧ x3 ≤ 130) (k5 : 0 ≤ x5 ∧ x5 ≤ 23) (k6 : 1 ≤ x6 ∧ x6 ≤ 24) (k9 : 0 ≤ x9 ∧ x9 ≤ 75) (k10 : 0 ≤ x10 ∧ x10 ≤ 24) (k13 : 0 ≤ x13 ∧ x13 ≤ 75) (k15 : 0 ≤ x15 ∧ x15 ≤ 75) (k16 : 0 ≤ x16 ∧ x16 ≤ 75) (d0 : x10 + 0 ≤ x9 ∧ x9 ≤ x10 + 4294967296) (d1 : x6 + (-4294967296) ≤ x5 ∧ x5 ≤ x6 + (-1)) (d2 : x3 + (-4294967296) ≤ x2 ∧ x2 ≤ x3 + (-1)) (h0 : x16 = lineB_0 (x2)) (h2 : x15 = lineA_0 (x2)) (h4 : x13 = lineB_0 (x2)) (f5 : x10 ≤ x9) (f6 : 1 * x10 + ((-1) * all_0 (r_0 + 0) + 0) ≤ 0) (f7 : (-1) * x10 + (1 * all_0 (r_0 + 0) + 0) ≤ 0) (h8 : x9 = lineB_0 (x2)) (f9 : x5 < x6) (f10 : 1 * x6 + ((-1) * all_0 (r_0 + 0) + 0) ≤ 0) (f11 : (-1) * x6 + (1 * all_0 (r_0 + 0) + 0) ≤ 0) (h12 : x5 = lineA_0 (x2)) (f13 : x2 < x3) (g14 : x3 = lines_0) (f15 : LSA (r_0) (items_0) (layerMany_0) (lines_0) (all_0) (turned_0) (itemLayer_0) (firstJoint_0) (lineA_0) (lineB_0)) (f16 : LSB (items_0) (layerMany_0) (itemLayer_0) (layerSize_0) (layerItem_0)) (f17 : SGR (r_0) (all_0)) (f18 : pointMany_0 = items_0) (f19 : PCQ (pointMany_0) (costMany_0) (costA_0) (costB_0) (costW_0) (costPlain_0)) (f20 : costMany_0 = x2) (f21 : apartMany_0 = 0) (hK_0_83 : ∀ j : Int, 0 ≤ j → j < 200 → 0 ≤ costA_0 j ∧ costA_0 j ≤ 75) (hK_0_84 : ∀ j : Int, 0 ≤ j → j < 200 → 0 ≤ costB_0 j ∧ costB_0 j ≤ 75) (hK_0_85 : ∀ j : Int, 0 ≤ j → j < 200 → 0 ≤ costW_0 j ∧ costW_0 j ≤ 72) (hK_0_86 : ∀ j : Int, 0 ≤ j → j < 200 → 0 ≤ costPlain_0 j ∧ costPlain_0 j ≤ 1) (hK_0_95 : ∀ j : Int, 0 ≤ j → j < 48 → 0 ≤ turned_0 j ∧ turned_0 j ≤ 1) (hK_0_102 : ∀ j : Int, 0 ≤ j → j < 76 → 0 ≤ itemLayer_0 j ∧ itemLayer_0 j ≤ 75) (hK_0_104 : ∀ j : Int, 0 ≤ j → j < 48 → 0 ≤ firstJoint_0 j ∧ firstJoint_0 j ≤ 76) (hK_0_105 : ∀ j : Int, 0 ≤ j → j < 76 → 0 ≤ layerSize_0 j ∧ layerSize_0 j ≤ 76) (hK_0_106 : ∀ j : Int, 0 ≤ j → j < 5776 → 0 ≤ layerItem_0 j ∧ layerItem_0 j ≤ 75) (hK_0_108 : ∀ j : Int, 0 ≤ j → j < 130 → 0 ≤ lineA_0 j ∧ lineA_0 j ≤ 75) (hK_0_109 : ∀ j : Int, 0 ≤ j → j < 130 → 0 ≤ lineB_0 j ∧ lineB_0 j ≤ 75) (kz_0_79 : 0 ≤ pointMany_0 ∧ pointMany_0 ≤ 76) (kz_0_80 : 0 ≤ costMany_0 ∧ costMany_0 ≤ 200) (kz_0_81 : 0 ≤ apartMany_0 ∧ apartMany_0 ≤ 200) (kz_0_100 : 0 ≤ items_0 ∧ items_0 ≤ 76) (kz_0_101 : 0 ≤ layerMany_0 ∧ layerMany_0 ≤ 76) (kz_0_107 : 0 ≤ lines_0 ∧ lines_0 ≤ 130) (ex2 : gx = x2) (ex3 : 0 ≤ gx ∧ gx ≤ 199) : 1 * gx + ((-1) * x2 + 0) ≤ 0 := by
  try simp only [Int.add_zero] at *
  first
    | omega
    | (have h := ‹LSA _ _ _ _ _ _ _ _ _ _›.2.1; omega)
    | (have h := lsa_la (p := x2) (x := x15) ‹LSA _ _ _ _ _ _ _ _ _ _› (by omega) (by omega) (by assumption); omega)
    | (have h := lsa_lb (p := x2) (x := x16) ‹LSA _ _ _ _ _ _ _ _ _ _› (by omega) (by omega) (by assumption); omega)
set_option maxHeartbeats 4000000 in
theorem vc_Mo_across2_5_1 (x2 : Int) (x3 : Int) (x5 : Int) (x6 : Int) (x9 : Int) (x10 : Int) (x13 : Int) (x15 : Int) (x16 : Int) (lineB_0 : Int → Int) (lineA_0 : Int → Int) (all_0 : Int → Int) (r_0 : Int) (lines_0 : Int) (turned_0 : Int → Int) (itemLayer_0 : Int → Int) (firstJoint_0 : Int → Int) (items_0 : Int) (layerMany_0 : Int) (layerSize_0 : Int → Int) (layerItem_0 : Int → Int) (pointMany_0 : Int) (costA_0 : Int → Int) (costB_0 : Int → Int) (costW_0 : Int → Int) (costPlain_0 : Int → Int) (costMany_0 : Int) (apartMany_0 : Int) (gx : Int) (k2 : 0 ≤ x2 ∧ x2 ≤ 129) (k3 : 1 ≤ x3 ∧ x3 ≤ 130) (k5 : 0 ≤ x5 ∧ x5 ≤ 23) (k6 : 1 ≤ x6 ∧ x6 ≤ 24) (k9 : 0 ≤ x9 ∧ x9 ≤ 75) (k10 : 0 ≤ x10 ∧ x10 ≤ 24) (k13 : 0 ≤ x13 ∧ x13 ≤ 75) (k15 : 0 ≤ x15 ∧ x15 ≤ 75) (k16 : 0 ≤ x16 ∧ x16 ≤ 75) (d0 : x10 + 0 ≤ x9 ∧ x9 ≤ x10 + 4294967296) (d1 : x6 + (-4294967296) ≤ x5 ∧ x5 ≤ x6 + (-1)) (d2 : x3 + (-4294967296) ≤ x2 ∧ x2 ≤ x3 + (-1)) (h0 : x16 = lineB_0 (x2)) (h2 : x15 = lineA_0 (x2)) (h4 : x13 = lineB_0 (x2)) (f5 : x10 ≤ x9) (f6 : 1 * x10 + ((-1) * all_0 (r_0 + 0) + 0) ≤ 0) (f7 : (-1) * x10 + (1 * all_0 (r_0 + 0) + 0) ≤ 0) (h8 : x9 = lineB_0 (x2)) (f9 : x5 < x6) (f10 : 1 * x6 + ((-1) * all_0 (r_0 + 0) + 0) ≤ 0) (f11 : (-1) * x6 + (1 * all_0 (r_0 + 0) + 0) ≤ 0) (h12 : x5 = lineA_0 (x2)) (f13 : x2 < x3) (g14 : x3 = lines_0) (f15 : LSA (r_0) (items_0) (layerMany_0) (lines_0) (all_0) (turned_0) (itemLayer_0) (firstJoint_0) (lineA_0) (lineB_0)) (f16 : LSB (items_0) (layerMany_0) (itemLayer_0) (layerSize_0) (layerItem_0)) (f17 : SGR (r_0) (all_0)) (f18 : pointMany_0 = items_0) (f19 : PCQ (pointMany_0) (costMany_0) (costA_0) (costB_0) (costW_0) (costPlain_0)) (f20 : costMany_0 = x2) (f21 : apartMany_0 = 0) (hK_0_83 : ∀ j : Int, 0 ≤ j → j < 200 → 0 ≤ costA_0 j ∧ costA_0 j ≤ 75) (hK_0_84 : ∀ j : Int, 0 ≤ j → j < 200 → 0 ≤ costB_0 j ∧ costB_0 j ≤ 75) (hK_0_85 : ∀ j : Int, 0 ≤ j → j < 200 → 0 ≤ costW_0 j ∧ costW_0 j ≤ 72) (hK_0_86 : ∀ j : Int, 0 ≤ j → j < 200 → 0 ≤ costPlain_0 j ∧ costPlain_0 j ≤ 1) (hK_0_95 : ∀ j : Int, 0 ≤ j → j < 48 → 0 ≤ turned_0 j ∧ turned_0 j ≤ 1) (hK_0_102 : ∀ j : Int, 0 ≤ j → j < 76 → 0 ≤ itemLayer_0 j ∧ itemLayer_0 j ≤ 75) (hK_0_104 : ∀ j : Int, 0 ≤ j → j < 48 → 0 ≤ firstJoint_0 j ∧ firstJoint_0 j ≤ 76) (hK_0_105 : ∀ j : Int, 0 ≤ j → j < 76 → 0 ≤ layerSize_0 j ∧ layerSize_0 j ≤ 76) (hK_0_106 : ∀ j : Int, 0 ≤ j → j < 5776 → 0 ≤ layerItem_0 j ∧ layerItem_0 j ≤ 75) (hK_0_108 : ∀ j : Int, 0 ≤ j → j < 130 → 0 ≤ lineA_0 j ∧ lineA_0 j ≤ 75) (hK_0_109 : ∀ j : Int, 0 ≤ j → j < 130 → 0 ≤ lineB_0 j ∧ lineB_0 j ≤ 75) (kz_0_79 : 0 ≤ pointMany_0 ∧ pointMany_0 ≤ 76) (kz_0_80 : 0 ≤ costMany_0 ∧ costMany_0 ≤ 200) (kz_0_81 : 0 ≤ apartMany_0 ∧ apartMany_0 ≤ 200) (kz_0_100 : 0 ≤ items_0 ∧ items_0 ≤ 76) (kz_0_101 : 0 ≤ layerMany_0 ∧ layerMany_0 ≤ 76) (kz_0_107 : 0 ≤ lines_0 ∧ lines_0 ≤ 130) (ex2 : gx = x2) (ex3 : 0 ≤ gx ∧ gx ≤ 199) : (-1) * gx + (1 * x2 + 0) ≤ 0 := by
  try simp only [Int.add_zero] at *
  first
    | omega
    | (have h := ‹LSA _ _ _ _ _ _ _ _ _ _›.2.1; omega)
    | (have h := lsa_la (p := x2) (x := x15) ‹LSA _ _ _ _ _ _ _ _ _ _› (by omega) (by omega) (by assumption); omega)
    | (have h := lsa_lb (p := x2) (x := x16) ‹LSA _ _ _ _ _ _ _ _ _ _› (by omega) (by omega) (by assumption); omega)
set_option maxHeartbeats 4000000 in
theorem vc_Mo_across2_5_2 (x2 : Int) (x3 : Int) (x5 : Int) (x6 : Int) (x9 : Int) (x10 : Int) (x13 : Int) (x15 : Int) (x16 : Int) (lineB_0 : Int → Int) (lineA_0 : Int → Int) (all_0 : Int → Int) (r_0 : Int) (lines_0 : Int) (turned_0 : Int → Int) (itemLayer_0 : Int → Int) (firstJoint_0 : Int → Int) (items_0 : Int) (layerMany_0 : Int) (layerSize_0 : Int → Int) (layerItem_0 : Int → Int) (pointMany_0 : Int) (costA_0 : Int → Int) (costB_0 : Int → Int) (costW_0 : Int → Int) (costPlain_0 : Int → Int) (costMany_0 : Int) (apartMany_0 : Int) (gx : Int) (k2 : 0 ≤ x2 ∧ x2 ≤ 129) (k3 : 1 ≤ x3 ∧ x3 ≤ 130) (k5 : 0 ≤ x5 ∧ x5 ≤ 23) (k6 : 1 ≤ x6 ∧ x6 ≤ 24) (k9 : 0 ≤ x9 ∧ x9 ≤ 75) (k10 : 0 ≤ x10 ∧ x10 ≤ 24) (k13 : 0 ≤ x13 ∧ x13 ≤ 75) (k15 : 0 ≤ x15 ∧ x15 ≤ 75) (k16 : 0 ≤ x16 ∧ x16 ≤ 75) (d0 : x10 + 0 ≤ x9 ∧ x9 ≤ x10 + 4294967296) (d1 : x6 + (-4294967296) ≤ x5 ∧ x5 ≤ x6 + (-1)) (d2 : x3 + (-4294967296) ≤ x2 ∧ x2 ≤ x3 + (-1)) (h0 : x16 = lineB_0 (x2)) (h2 : x15 = lineA_0 (x2)) (h4 : x13 = lineB_0 (x2)) (f5 : x10 ≤ x9) (f6 : 1 * x10 + ((-1) * all_0 (r_0 + 0) + 0) ≤ 0) (f7 : (-1) * x10 + (1 * all_0 (r_0 + 0) + 0) ≤ 0) (h8 : x9 = lineB_0 (x2)) (f9 : x5 < x6) (f10 : 1 * x6 + ((-1) * all_0 (r_0 + 0) + 0) ≤ 0) (f11 : (-1) * x6 + (1 * all_0 (r_0 + 0) + 0) ≤ 0) (h12 : x5 = lineA_0 (x2)) (f13 : x2 < x3) (g14 : x3 = lines_0) (f15 : LSA (r_0) (items_0) (layerMany_0) (lines_0) (all_0) (turned_0) (itemLayer_0) (firstJoint_0) (lineA_0) (lineB_0)) (f16 : LSB (items_0) (layerMany_0) (itemLayer_0) (layerSize_0) (layerItem_0)) (f17 : SGR (r_0) (all_0)) (f18 : pointMany_0 = items_0) (f19 : PCQ (pointMany_0) (costMany_0) (costA_0) (costB_0) (costW_0) (costPlain_0)) (f20 : costMany_0 = x2) (f21 : apartMany_0 = 0) (hK_0_83 : ∀ j : Int, 0 ≤ j → j < 200 → 0 ≤ costA_0 j ∧ costA_0 j ≤ 75) (hK_0_84 : ∀ j : Int, 0 ≤ j → j < 200 → 0 ≤ costB_0 j ∧ costB_0 j ≤ 75) (hK_0_85 : ∀ j : Int, 0 ≤ j → j < 200 → 0 ≤ costW_0 j ∧ costW_0 j ≤ 72) (hK_0_86 : ∀ j : Int, 0 ≤ j → j < 200 → 0 ≤ costPlain_0 j ∧ costPlain_0 j ≤ 1) (hK_0_95 : ∀ j : Int, 0 ≤ j → j < 48 → 0 ≤ turned_0 j ∧ turned_0 j ≤ 1) (hK_0_102 : ∀ j : Int, 0 ≤ j → j < 76 → 0 ≤ itemLayer_0 j ∧ itemLayer_0 j ≤ 75) (hK_0_104 : ∀ j : Int, 0 ≤ j → j < 48 → 0 ≤ firstJoint_0 j ∧ firstJoint_0 j ≤ 76) (hK_0_105 : ∀ j : Int, 0 ≤ j → j < 76 → 0 ≤ layerSize_0 j ∧ layerSize_0 j ≤ 76) (hK_0_106 : ∀ j : Int, 0 ≤ j → j < 5776 → 0 ≤ layerItem_0 j ∧ layerItem_0 j ≤ 75) (hK_0_108 : ∀ j : Int, 0 ≤ j → j < 130 → 0 ≤ lineA_0 j ∧ lineA_0 j ≤ 75) (hK_0_109 : ∀ j : Int, 0 ≤ j → j < 130 → 0 ≤ lineB_0 j ∧ lineB_0 j ≤ 75) (kz_0_79 : 0 ≤ pointMany_0 ∧ pointMany_0 ≤ 76) (kz_0_80 : 0 ≤ costMany_0 ∧ costMany_0 ≤ 200) (kz_0_81 : 0 ≤ apartMany_0 ∧ apartMany_0 ≤ 200) (kz_0_100 : 0 ≤ items_0 ∧ items_0 ≤ 76) (kz_0_101 : 0 ≤ layerMany_0 ∧ layerMany_0 ≤ 76) (kz_0_107 : 0 ≤ lines_0 ∧ lines_0 ≤ 130) (ex2 : gx = x2) (ex3 : 0 ≤ gx ∧ gx ≤ 199) : costMany_0 = gx := by
  try simp only [Int.add_zero] at *
  first
    | omega
    | (have h := ‹LSA _ _ _ _ _ _ _ _ _ _›.2.1; omega)
    | (have h := lsa_la (p := x2) (x := x15) ‹LSA _ _ _ _ _ _ _ _ _ _› (by omega) (by omega) (by assumption); omega)
    | (have h := lsa_lb (p := x2) (x := x16) ‹LSA _ _ _ _ _ _ _ _ _ _› (by omega) (by omega) (by assumption); omega)
set_option maxHeartbeats 4000000 in
theorem vc_Mo_across2_5_3 (x2 : Int) (x3 : Int) (x5 : Int) (x6 : Int) (x9 : Int) (x10 : Int) (x13 : Int) (x15 : Int) (x16 : Int) (lineB_0 : Int → Int) (lineA_0 : Int → Int) (all_0 : Int → Int) (r_0 : Int) (lines_0 : Int) (turned_0 : Int → Int) (itemLayer_0 : Int → Int) (firstJoint_0 : Int → Int) (items_0 : Int) (layerMany_0 : Int) (layerSize_0 : Int → Int) (layerItem_0 : Int → Int) (pointMany_0 : Int) (costA_0 : Int → Int) (costB_0 : Int → Int) (costW_0 : Int → Int) (costPlain_0 : Int → Int) (costMany_0 : Int) (apartMany_0 : Int) (gx : Int) (k2 : 0 ≤ x2 ∧ x2 ≤ 129) (k3 : 1 ≤ x3 ∧ x3 ≤ 130) (k5 : 0 ≤ x5 ∧ x5 ≤ 23) (k6 : 1 ≤ x6 ∧ x6 ≤ 24) (k9 : 0 ≤ x9 ∧ x9 ≤ 75) (k10 : 0 ≤ x10 ∧ x10 ≤ 24) (k13 : 0 ≤ x13 ∧ x13 ≤ 75) (k15 : 0 ≤ x15 ∧ x15 ≤ 75) (k16 : 0 ≤ x16 ∧ x16 ≤ 75) (d0 : x10 + 0 ≤ x9 ∧ x9 ≤ x10 + 4294967296) (d1 : x6 + (-4294967296) ≤ x5 ∧ x5 ≤ x6 + (-1)) (d2 : x3 + (-4294967296) ≤ x2 ∧ x2 ≤ x3 + (-1)) (h0 : x16 = lineB_0 (x2)) (h2 : x15 = lineA_0 (x2)) (h4 : x13 = lineB_0 (x2)) (f5 : x10 ≤ x9) (f6 : 1 * x10 + ((-1) * all_0 (r_0 + 0) + 0) ≤ 0) (f7 : (-1) * x10 + (1 * all_0 (r_0 + 0) + 0) ≤ 0) (h8 : x9 = lineB_0 (x2)) (f9 : x5 < x6) (f10 : 1 * x6 + ((-1) * all_0 (r_0 + 0) + 0) ≤ 0) (f11 : (-1) * x6 + (1 * all_0 (r_0 + 0) + 0) ≤ 0) (h12 : x5 = lineA_0 (x2)) (f13 : x2 < x3) (g14 : x3 = lines_0) (f15 : LSA (r_0) (items_0) (layerMany_0) (lines_0) (all_0) (turned_0) (itemLayer_0) (firstJoint_0) (lineA_0) (lineB_0)) (f16 : LSB (items_0) (layerMany_0) (itemLayer_0) (layerSize_0) (layerItem_0)) (f17 : SGR (r_0) (all_0)) (f18 : pointMany_0 = items_0) (f19 : PCQ (pointMany_0) (costMany_0) (costA_0) (costB_0) (costW_0) (costPlain_0)) (f20 : costMany_0 = x2) (f21 : apartMany_0 = 0) (hK_0_83 : ∀ j : Int, 0 ≤ j → j < 200 → 0 ≤ costA_0 j ∧ costA_0 j ≤ 75) (hK_0_84 : ∀ j : Int, 0 ≤ j → j < 200 → 0 ≤ costB_0 j ∧ costB_0 j ≤ 75) (hK_0_85 : ∀ j : Int, 0 ≤ j → j < 200 → 0 ≤ costW_0 j ∧ costW_0 j ≤ 72) (hK_0_86 : ∀ j : Int, 0 ≤ j → j < 200 → 0 ≤ costPlain_0 j ∧ costPlain_0 j ≤ 1) (hK_0_95 : ∀ j : Int, 0 ≤ j → j < 48 → 0 ≤ turned_0 j ∧ turned_0 j ≤ 1) (hK_0_102 : ∀ j : Int, 0 ≤ j → j < 76 → 0 ≤ itemLayer_0 j ∧ itemLayer_0 j ≤ 75) (hK_0_104 : ∀ j : Int, 0 ≤ j → j < 48 → 0 ≤ firstJoint_0 j ∧ firstJoint_0 j ≤ 76) (hK_0_105 : ∀ j : Int, 0 ≤ j → j < 76 → 0 ≤ layerSize_0 j ∧ layerSize_0 j ≤ 76) (hK_0_106 : ∀ j : Int, 0 ≤ j → j < 5776 → 0 ≤ layerItem_0 j ∧ layerItem_0 j ≤ 75) (hK_0_108 : ∀ j : Int, 0 ≤ j → j < 130 → 0 ≤ lineA_0 j ∧ lineA_0 j ≤ 75) (hK_0_109 : ∀ j : Int, 0 ≤ j → j < 130 → 0 ≤ lineB_0 j ∧ lineB_0 j ≤ 75) (kz_0_79 : 0 ≤ pointMany_0 ∧ pointMany_0 ≤ 76) (kz_0_80 : 0 ≤ costMany_0 ∧ costMany_0 ≤ 200) (kz_0_81 : 0 ≤ apartMany_0 ∧ apartMany_0 ≤ 200) (kz_0_100 : 0 ≤ items_0 ∧ items_0 ≤ 76) (kz_0_101 : 0 ≤ layerMany_0 ∧ layerMany_0 ≤ 76) (kz_0_107 : 0 ≤ lines_0 ∧ lines_0 ≤ 130) (ex2 : gx = x2) (ex3 : 0 ≤ gx ∧ gx ≤ 199) : PCQ (pointMany_0) (costMany_0) (costA_0) (costB_0) (costW_0) (costPlain_0) := by
  assumption
set_option maxHeartbeats 4000000 in
theorem vc_Mo_across2_5_4 (x2 : Int) (x3 : Int) (x5 : Int) (x6 : Int) (x9 : Int) (x10 : Int) (x13 : Int) (x15 : Int) (x16 : Int) (lineB_0 : Int → Int) (lineA_0 : Int → Int) (all_0 : Int → Int) (r_0 : Int) (lines_0 : Int) (turned_0 : Int → Int) (itemLayer_0 : Int → Int) (firstJoint_0 : Int → Int) (items_0 : Int) (layerMany_0 : Int) (layerSize_0 : Int → Int) (layerItem_0 : Int → Int) (pointMany_0 : Int) (costA_0 : Int → Int) (costB_0 : Int → Int) (costW_0 : Int → Int) (costPlain_0 : Int → Int) (costMany_0 : Int) (apartMany_0 : Int) (gx : Int) (k2 : 0 ≤ x2 ∧ x2 ≤ 129) (k3 : 1 ≤ x3 ∧ x3 ≤ 130) (k5 : 0 ≤ x5 ∧ x5 ≤ 23) (k6 : 1 ≤ x6 ∧ x6 ≤ 24) (k9 : 0 ≤ x9 ∧ x9 ≤ 75) (k10 : 0 ≤ x10 ∧ x10 ≤ 24) (k13 : 0 ≤ x13 ∧ x13 ≤ 75) (k15 : 0 ≤ x15 ∧ x15 ≤ 75) (k16 : 0 ≤ x16 ∧ x16 ≤ 75) (d0 : x10 + 0 ≤ x9 ∧ x9 ≤ x10 + 4294967296) (d1 : x6 + (-4294967296) ≤ x5 ∧ x5 ≤ x6 + (-1)) (d2 : x3 + (-4294967296) ≤ x2 ∧ x2 ≤ x3 + (-1)) (h0 : x16 = lineB_0 (x2)) (h2 : x15 = lineA_0 (x2)) (h4 : x13 = lineB_0 (x2)) (f5 : x10 ≤ x9) (f6 : 1 * x10 + ((-1) * all_0 (r_0 + 0) + 0) ≤ 0) (f7 : (-1) * x10 + (1 * all_0 (r_0 + 0) + 0) ≤ 0) (h8 : x9 = lineB_0 (x2)) (f9 : x5 < x6) (f10 : 1 * x6 + ((-1) * all_0 (r_0 + 0) + 0) ≤ 0) (f11 : (-1) * x6 + (1 * all_0 (r_0 + 0) + 0) ≤ 0) (h12 : x5 = lineA_0 (x2)) (f13 : x2 < x3) (g14 : x3 = lines_0) (f15 : LSA (r_0) (items_0) (layerMany_0) (lines_0) (all_0) (turned_0) (itemLayer_0) (firstJoint_0) (lineA_0) (lineB_0)) (f16 : LSB (items_0) (layerMany_0) (itemLayer_0) (layerSize_0) (layerItem_0)) (f17 : SGR (r_0) (all_0)) (f18 : pointMany_0 = items_0) (f19 : PCQ (pointMany_0) (costMany_0) (costA_0) (costB_0) (costW_0) (costPlain_0)) (f20 : costMany_0 = x2) (f21 : apartMany_0 = 0) (hK_0_83 : ∀ j : Int, 0 ≤ j → j < 200 → 0 ≤ costA_0 j ∧ costA_0 j ≤ 75) (hK_0_84 : ∀ j : Int, 0 ≤ j → j < 200 → 0 ≤ costB_0 j ∧ costB_0 j ≤ 75) (hK_0_85 : ∀ j : Int, 0 ≤ j → j < 200 → 0 ≤ costW_0 j ∧ costW_0 j ≤ 72) (hK_0_86 : ∀ j : Int, 0 ≤ j → j < 200 → 0 ≤ costPlain_0 j ∧ costPlain_0 j ≤ 1) (hK_0_95 : ∀ j : Int, 0 ≤ j → j < 48 → 0 ≤ turned_0 j ∧ turned_0 j ≤ 1) (hK_0_102 : ∀ j : Int, 0 ≤ j → j < 76 → 0 ≤ itemLayer_0 j ∧ itemLayer_0 j ≤ 75) (hK_0_104 : ∀ j : Int, 0 ≤ j → j < 48 → 0 ≤ firstJoint_0 j ∧ firstJoint_0 j ≤ 76) (hK_0_105 : ∀ j : Int, 0 ≤ j → j < 76 → 0 ≤ layerSize_0 j ∧ layerSize_0 j ≤ 76) (hK_0_106 : ∀ j : Int, 0 ≤ j → j < 5776 → 0 ≤ layerItem_0 j ∧ layerItem_0 j ≤ 75) (hK_0_108 : ∀ j : Int, 0 ≤ j → j < 130 → 0 ≤ lineA_0 j ∧ lineA_0 j ≤ 75) (hK_0_109 : ∀ j : Int, 0 ≤ j → j < 130 → 0 ≤ lineB_0 j ∧ lineB_0 j ≤ 75) (kz_0_79 : 0 ≤ pointMany_0 ∧ pointMany_0 ≤ 76) (kz_0_80 : 0 ≤ costMany_0 ∧ costMany_0 ≤ 200) (kz_0_81 : 0 ≤ apartMany_0 ∧ apartMany_0 ≤ 200) (kz_0_100 : 0 ≤ items_0 ∧ items_0 ≤ 76) (kz_0_101 : 0 ≤ layerMany_0 ∧ layerMany_0 ≤ 76) (kz_0_107 : 0 ≤ lines_0 ∧ lines_0 ≤ 130) (ex2 : gx = x2) (ex3 : 0 ≤ gx ∧ gx ≤ 199) : (0 ≤ x15) ∧ ((x15 + 1) ≤ pointMany_0) := by
  try simp only [Int.add_zero] at *
  first
    | omega
    | (have h := ‹LSA _ _ _ _ _ _ _ _ _ _›.2.1; omega)
    | (have h := lsa_la (p := x2) (x := x15) ‹LSA _ _ _ _ _ _ _ _ _ _› (by omega) (by omega) (by assumption); omega)
    | (have h := lsa_lb (p := x2) (x := x16) ‹LSA _ _ _ _ _ _ _ _ _ _› (by omega) (by omega) (by assumption); omega)
set_option maxHeartbeats 4000000 in
theorem vc_Mo_across2_5_5 (x2 : Int) (x3 : Int) (x5 : Int) (x6 : Int) (x9 : Int) (x10 : Int) (x13 : Int) (x15 : Int) (x16 : Int) (lineB_0 : Int → Int) (lineA_0 : Int → Int) (all_0 : Int → Int) (r_0 : Int) (lines_0 : Int) (turned_0 : Int → Int) (itemLayer_0 : Int → Int) (firstJoint_0 : Int → Int) (items_0 : Int) (layerMany_0 : Int) (layerSize_0 : Int → Int) (layerItem_0 : Int → Int) (pointMany_0 : Int) (costA_0 : Int → Int) (costB_0 : Int → Int) (costW_0 : Int → Int) (costPlain_0 : Int → Int) (costMany_0 : Int) (apartMany_0 : Int) (gx : Int) (k2 : 0 ≤ x2 ∧ x2 ≤ 129) (k3 : 1 ≤ x3 ∧ x3 ≤ 130) (k5 : 0 ≤ x5 ∧ x5 ≤ 23) (k6 : 1 ≤ x6 ∧ x6 ≤ 24) (k9 : 0 ≤ x9 ∧ x9 ≤ 75) (k10 : 0 ≤ x10 ∧ x10 ≤ 24) (k13 : 0 ≤ x13 ∧ x13 ≤ 75) (k15 : 0 ≤ x15 ∧ x15 ≤ 75) (k16 : 0 ≤ x16 ∧ x16 ≤ 75) (d0 : x10 + 0 ≤ x9 ∧ x9 ≤ x10 + 4294967296) (d1 : x6 + (-4294967296) ≤ x5 ∧ x5 ≤ x6 + (-1)) (d2 : x3 + (-4294967296) ≤ x2 ∧ x2 ≤ x3 + (-1)) (h0 : x16 = lineB_0 (x2)) (h2 : x15 = lineA_0 (x2)) (h4 : x13 = lineB_0 (x2)) (f5 : x10 ≤ x9) (f6 : 1 * x10 + ((-1) * all_0 (r_0 + 0) + 0) ≤ 0) (f7 : (-1) * x10 + (1 * all_0 (r_0 + 0) + 0) ≤ 0) (h8 : x9 = lineB_0 (x2)) (f9 : x5 < x6) (f10 : 1 * x6 + ((-1) * all_0 (r_0 + 0) + 0) ≤ 0) (f11 : (-1) * x6 + (1 * all_0 (r_0 + 0) + 0) ≤ 0) (h12 : x5 = lineA_0 (x2)) (f13 : x2 < x3) (g14 : x3 = lines_0) (f15 : LSA (r_0) (items_0) (layerMany_0) (lines_0) (all_0) (turned_0) (itemLayer_0) (firstJoint_0) (lineA_0) (lineB_0)) (f16 : LSB (items_0) (layerMany_0) (itemLayer_0) (layerSize_0) (layerItem_0)) (f17 : SGR (r_0) (all_0)) (f18 : pointMany_0 = items_0) (f19 : PCQ (pointMany_0) (costMany_0) (costA_0) (costB_0) (costW_0) (costPlain_0)) (f20 : costMany_0 = x2) (f21 : apartMany_0 = 0) (hK_0_83 : ∀ j : Int, 0 ≤ j → j < 200 → 0 ≤ costA_0 j ∧ costA_0 j ≤ 75) (hK_0_84 : ∀ j : Int, 0 ≤ j → j < 200 → 0 ≤ costB_0 j ∧ costB_0 j ≤ 75) (hK_0_85 : ∀ j : Int, 0 ≤ j → j < 200 → 0 ≤ costW_0 j ∧ costW_0 j ≤ 72) (hK_0_86 : ∀ j : Int, 0 ≤ j → j < 200 → 0 ≤ costPlain_0 j ∧ costPlain_0 j ≤ 1) (hK_0_95 : ∀ j : Int, 0 ≤ j → j < 48 → 0 ≤ turned_0 j ∧ turned_0 j ≤ 1) (hK_0_102 : ∀ j : Int, 0 ≤ j → j < 76 → 0 ≤ itemLayer_0 j ∧ itemLayer_0 j ≤ 75) (hK_0_104 : ∀ j : Int, 0 ≤ j → j < 48 → 0 ≤ firstJoint_0 j ∧ firstJoint_0 j ≤ 76) (hK_0_105 : ∀ j : Int, 0 ≤ j → j < 76 → 0 ≤ layerSize_0 j ∧ layerSize_0 j ≤ 76) (hK_0_106 : ∀ j : Int, 0 ≤ j → j < 5776 → 0 ≤ layerItem_0 j ∧ layerItem_0 j ≤ 75) (hK_0_108 : ∀ j : Int, 0 ≤ j → j < 130 → 0 ≤ lineA_0 j ∧ lineA_0 j ≤ 75) (hK_0_109 : ∀ j : Int, 0 ≤ j → j < 130 → 0 ≤ lineB_0 j ∧ lineB_0 j ≤ 75) (kz_0_79 : 0 ≤ pointMany_0 ∧ pointMany_0 ≤ 76) (kz_0_80 : 0 ≤ costMany_0 ∧ costMany_0 ≤ 200) (kz_0_81 : 0 ≤ apartMany_0 ∧ apartMany_0 ≤ 200) (kz_0_100 : 0 ≤ items_0 ∧ items_0 ≤ 76) (kz_0_101 : 0 ≤ layerMany_0 ∧ layerMany_0 ≤ 76) (kz_0_107 : 0 ≤ lines_0 ∧ lines_0 ≤ 130) (ex2 : gx = x2) (ex3 : 0 ≤ gx ∧ gx ≤ 199) : (0 ≤ x16) ∧ ((x16 + 1) ≤ pointMany_0) := by
  try simp only [Int.add_zero] at *
  first
    | omega
    | (have h := ‹LSA _ _ _ _ _ _ _ _ _ _›.2.1; omega)
    | (have h := lsa_la (p := x2) (x := x15) ‹LSA _ _ _ _ _ _ _ _ _ _› (by omega) (by omega) (by assumption); omega)
    | (have h := lsa_lb (p := x2) (x := x16) ‹LSA _ _ _ _ _ _ _ _ _ _› (by omega) (by omega) (by assumption); omega)
def o_Mo_across2_5 : or_T := (167, 21, [(0, (2, 0, 0, [150])), (1, (2, 0, 0, [150])), (2, (0, 0, 129, [])), (3, (0, 1, 130, [])), (4, (2, 0, 0, [225])), (5, (0, 0, 23, [])), (6, (0, 1, 24, [])), (8, (2, 0, 0, [226])), (9, (0, 0, 75, [])), (10, (0, 0, 24, [])), (13, (0, 0, 75, [])), (15, (0, 0, 75, [])), (16, (0, 0, 75, []))], [(10, [16, 8, 2], []), (9, [8, 1], [109]), (10, [15, 4, 2], []), (9, [4, 1], [108]), (10, [13, 8, 2], []), (7, [9, 10], [3]), (20, [10, 1], [30, 0, 1, 0, 0, -1, 3, 2005000]), (20, [10, 1], [30, 0, -1, 0, 0, 1, 3, 2005000]), (10, [9, 8, 2], []), (7, [5, 6], [2]), (20, [6, 1], [30, 0, 1, 0, 0, -1, 3, 2005000]), (20, [6, 1], [30, 0, -1, 0, 0, 1, 3, 2005000]), (10, [5, 4, 2], []), (7, [2, 3], [2]), (9, [3, 1], [107]), (20, [1], [60, 4, 6, 369, 5, 100, 101, 107, 2, 95, 102, 104, 108, 109]), (20, [1], [60, 2, 3, 372, 100, 101, 102, 105, 106]), (20, [1], [60, 1, 1, 122, 5, 2]), (20, [1], [50, 2, 0, 79, 100, 1, 3, 2, 0, 79, 2, 0, 100]), (20, [1], [60, 2, 4, 380, 79, 80, 83, 84, 85, 86]), (20, [1, 2], [50, 1, 0, 80, 1, 3, 2, 0, 80, 1, 1]), (20, [1], [50, 1, 0, 81, 1, 3, 2, 0, 81, 0, 0]), (24, [0, 1], [])], [], [(0, 0, 199, [])], [(23, [21, 2], [0, 1, -1]), (23, [21, 2], [0, -1, 1]), (20, [1, 21], [50, 1, 0, 80, 1, 3, 2, 0, 80, 1, 1]), (20, [1], [60, 2, 4, 380, 79, 80, 83, 84, 85, 86]), (20, [15, 1], [50, 1, 0, 1079, 2, 6, 0, 2, 0, 0, 1, 0, 0, 6, 4, 2, 1, 0, 0, 1, 2, 1, 79]), (20, [16, 1], [50, 1, 0, 1079, 2, 6, 0, 2, 0, 0, 1, 0, 0, 6, 4, 2, 1, 0, 0, 1, 2, 1, 79])], [], [(9, 10, 0, 4294967296), (5, 6, -4294967296, -1), (2, 3, -4294967296, -1)])
theorem oo_Mo_across2_5 {kA : Nat → ClassId} : or_ok PRD kA GG o_Mo_across2_5 := by
  intro A ta ws vs hD hth hl hk hds hf
  have hl : vs.length = 21 := hl
  have hk : ∀ q ∈ ([(0, (2, 0, 0, [150])), (1, (2, 0, 0, [150])), (2, (0, 0, 129, [])), (3, (0, 1, 130, [])), (4, (2, 0, 0, [225])), (5, (0, 0, 23, [])), (6, (0, 1, 24, [])), (8, (2, 0, 0, [226])), (9, (0, 0, 75, [])), (10, (0, 0, 24, [])), (13, (0, 0, 75, [])), (15, (0, 0, 75, [])), (16, (0, 0, 75, []))] : List (Nat × tv_T)), tv_ok ta q.2 (n_v vs q.1) := hk
  obtain ⟨t0, hk⟩ := List.forall_mem_cons.mp hk
  have t0 : tv_ok ta (2, 0, 0, [150]) (n_v vs 0) := t0
  have r0 : ta (v_ad (n_v vs 0)) = some 150 := tv_rg t0
  obtain ⟨t1, hk⟩ := List.forall_mem_cons.mp hk
  have t1 : tv_ok ta (2, 0, 0, [150]) (n_v vs 1) := t1
  have r1 : ta (v_ad (n_v vs 1)) = some 150 := tv_rg t1
  obtain ⟨t2, hk⟩ := List.forall_mem_cons.mp hk
  have t2 : tv_ok ta (0, 0, 129, []) (n_v vs 2) := t2
  have k2 : 0 ≤ v_iv (n_v vs 2) ∧ v_iv (n_v vs 2) ≤ 129 := tv_rng t2
  obtain ⟨t3, hk⟩ := List.forall_mem_cons.mp hk
  have t3 : tv_ok ta (0, 1, 130, []) (n_v vs 3) := t3
  have k3 : 1 ≤ v_iv (n_v vs 3) ∧ v_iv (n_v vs 3) ≤ 130 := tv_rng t3
  obtain ⟨t4, hk⟩ := List.forall_mem_cons.mp hk
  have t4 : tv_ok ta (2, 0, 0, [225]) (n_v vs 4) := t4
  have r4 : ta (v_ad (n_v vs 4)) = some 225 := tv_rg t4
  obtain ⟨t5, hk⟩ := List.forall_mem_cons.mp hk
  have t5 : tv_ok ta (0, 0, 23, []) (n_v vs 5) := t5
  have k5 : 0 ≤ v_iv (n_v vs 5) ∧ v_iv (n_v vs 5) ≤ 23 := tv_rng t5
  obtain ⟨t6, hk⟩ := List.forall_mem_cons.mp hk
  have t6 : tv_ok ta (0, 1, 24, []) (n_v vs 6) := t6
  have k6 : 1 ≤ v_iv (n_v vs 6) ∧ v_iv (n_v vs 6) ≤ 24 := tv_rng t6
  obtain ⟨t8, hk⟩ := List.forall_mem_cons.mp hk
  have t8 : tv_ok ta (2, 0, 0, [226]) (n_v vs 8) := t8
  have r8 : ta (v_ad (n_v vs 8)) = some 226 := tv_rg t8
  obtain ⟨t9, hk⟩ := List.forall_mem_cons.mp hk
  have t9 : tv_ok ta (0, 0, 75, []) (n_v vs 9) := t9
  have k9 : 0 ≤ v_iv (n_v vs 9) ∧ v_iv (n_v vs 9) ≤ 75 := tv_rng t9
  obtain ⟨t10, hk⟩ := List.forall_mem_cons.mp hk
  have t10 : tv_ok ta (0, 0, 24, []) (n_v vs 10) := t10
  have k10 : 0 ≤ v_iv (n_v vs 10) ∧ v_iv (n_v vs 10) ≤ 24 := tv_rng t10
  obtain ⟨t13, hk⟩ := List.forall_mem_cons.mp hk
  have t13 : tv_ok ta (0, 0, 75, []) (n_v vs 13) := t13
  have k13 : 0 ≤ v_iv (n_v vs 13) ∧ v_iv (n_v vs 13) ≤ 75 := tv_rng t13
  obtain ⟨t15, hk⟩ := List.forall_mem_cons.mp hk
  have t15 : tv_ok ta (0, 0, 75, []) (n_v vs 15) := t15
  have k15 : 0 ≤ v_iv (n_v vs 15) ∧ v_iv (n_v vs 15) ≤ 75 := tv_rng t15
  obtain ⟨t16, hk⟩ := List.forall_mem_cons.mp hk
  have t16 : tv_ok ta (0, 0, 75, []) (n_v vs 16) := t16
  have k16 : 0 ≤ v_iv (n_v vs 16) ∧ v_iv (n_v vs 16) ≤ 75 := tv_rng t16
  have hds : ∀ q ∈ ([(9, 10, 0, 4294967296), (5, 6, -4294967296, -1), (2, 3, -4294967296, -1)] : List of_T), n_iv vs q.2.1 + q.2.2.1 ≤ n_iv vs q.1 ∧ n_iv vs q.1 ≤ n_iv vs q.2.1 + q.2.2.2 := hds
  obtain ⟨d0, hds⟩ := List.forall_mem_cons.mp hds
  have d0 : v_iv (n_v vs 10) + 0 ≤ v_iv (n_v vs 9) ∧ v_iv (n_v vs 9) ≤ v_iv (n_v vs 10) + 4294967296 := d0
  obtain ⟨d1, hds⟩ := List.forall_mem_cons.mp hds
  have d1 : v_iv (n_v vs 6) + (-4294967296) ≤ v_iv (n_v vs 5) ∧ v_iv (n_v vs 5) ≤ v_iv (n_v vs 6) + (-1) := d1
  obtain ⟨d2, hds⟩ := List.forall_mem_cons.mp hds
  have d2 : v_iv (n_v vs 3) + (-4294967296) ≤ v_iv (n_v vs 2) ∧ v_iv (n_v vs 2) ≤ v_iv (n_v vs 3) + (-1) := d2
  have hf : fc_ok PRD [(10, [16, 8, 2], []), (9, [8, 1], [109]), (10, [15, 4, 2], []), (9, [4, 1], [108]), (10, [13, 8, 2], []), (7, [9, 10], [3]), (20, [10, 1], [30, 0, 1, 0, 0, -1, 3, 2005000]), (20, [10, 1], [30, 0, -1, 0, 0, 1, 3, 2005000]), (10, [9, 8, 2], []), (7, [5, 6], [2]), (20, [6, 1], [30, 0, 1, 0, 0, -1, 3, 2005000]), (20, [6, 1], [30, 0, -1, 0, 0, 1, 3, 2005000]), (10, [5, 4, 2], []), (7, [2, 3], [2]), (9, [3, 1], [107]), (20, [1], [60, 4, 6, 369, 5, 100, 101, 107, 2, 95, 102, 104, 108, 109]), (20, [1], [60, 2, 3, 372, 100, 101, 102, 105, 106]), (20, [1], [60, 1, 1, 122, 5, 2]), (20, [1], [50, 2, 0, 79, 100, 1, 3, 2, 0, 79, 2, 0, 100]), (20, [1], [60, 2, 4, 380, 79, 80, 83, 84, 85, 86]), (20, [1, 2], [50, 1, 0, 80, 1, 3, 2, 0, 80, 1, 1]), (20, [1], [50, 1, 0, 81, 1, 3, 2, 0, 81, 0, 0]), (24, [0, 1], [])] ta ws vs := hf
  obtain ⟨f0, hf⟩ := fc_un (show (10 : Nat) < 100 from by decide) hf
  have f0 : v_iv (n_v vs 16) = w_el ws (v_ad (n_v vs 8)) (v_iv (n_v vs 2)).toNat := f0
  obtain ⟨f1, hf⟩ := fc_un (show (9 : Nat) < 100 from by decide) hf
  have f1 : n_v vs 8 = w_fd ws (v_ad (n_v vs 1)) 109 := f1
  obtain ⟨f2, hf⟩ := fc_un (show (10 : Nat) < 100 from by decide) hf
  have f2 : v_iv (n_v vs 15) = w_el ws (v_ad (n_v vs 4)) (v_iv (n_v vs 2)).toNat := f2
  obtain ⟨f3, hf⟩ := fc_un (show (9 : Nat) < 100 from by decide) hf
  have f3 : n_v vs 4 = w_fd ws (v_ad (n_v vs 1)) 108 := f3
  obtain ⟨f4, hf⟩ := fc_un (show (10 : Nat) < 100 from by decide) hf
  have f4 : v_iv (n_v vs 13) = w_el ws (v_ad (n_v vs 8)) (v_iv (n_v vs 2)).toNat := f4
  obtain ⟨f5, hf⟩ := fc_un (show (7 : Nat) < 100 from by decide) hf
  have f5 : v_iv (n_v vs 10) ≤ v_iv (n_v vs 9) := f5
  obtain ⟨f6, hf⟩ := fc_un (show (20 : Nat) < 100 from by decide) hf
  have f6 : 1 * v_iv (n_v vs 10) + ((-1) * w_el ws (w_ar ws (n_v vs 1) 2) (w_fi ws (n_v vs 1) 5 + 0).toNat + 0) ≤ 0 := f6
  obtain ⟨f7, hf⟩ := fc_un (show (20 : Nat) < 100 from by decide) hf
  have f7 : (-1) * v_iv (n_v vs 10) + (1 * w_el ws (w_ar ws (n_v vs 1) 2) (w_fi ws (n_v vs 1) 5 + 0).toNat + 0) ≤ 0 := f7
  obtain ⟨f8, hf⟩ := fc_un (show (10 : Nat) < 100 from by decide) hf
  have f8 : v_iv (n_v vs 9) = w_el ws (v_ad (n_v vs 8)) (v_iv (n_v vs 2)).toNat := f8
  obtain ⟨f9, hf⟩ := fc_un (show (7 : Nat) < 100 from by decide) hf
  have f9 : v_iv (n_v vs 5) < v_iv (n_v vs 6) := f9
  obtain ⟨f10, hf⟩ := fc_un (show (20 : Nat) < 100 from by decide) hf
  have f10 : 1 * v_iv (n_v vs 6) + ((-1) * w_el ws (w_ar ws (n_v vs 1) 2) (w_fi ws (n_v vs 1) 5 + 0).toNat + 0) ≤ 0 := f10
  obtain ⟨f11, hf⟩ := fc_un (show (20 : Nat) < 100 from by decide) hf
  have f11 : (-1) * v_iv (n_v vs 6) + (1 * w_el ws (w_ar ws (n_v vs 1) 2) (w_fi ws (n_v vs 1) 5 + 0).toNat + 0) ≤ 0 := f11
  obtain ⟨f12, hf⟩ := fc_un (show (10 : Nat) < 100 from by decide) hf
  have f12 : v_iv (n_v vs 5) = w_el ws (v_ad (n_v vs 4)) (v_iv (n_v vs 2)).toNat := f12
  obtain ⟨f13, hf⟩ := fc_un (show (7 : Nat) < 100 from by decide) hf
  have f13 : v_iv (n_v vs 2) < v_iv (n_v vs 3) := f13
  obtain ⟨f14, hf⟩ := fc_un (show (9 : Nat) < 100 from by decide) hf
  have f14 : n_v vs 3 = w_fd ws (v_ad (n_v vs 1)) 107 := f14
  obtain ⟨f15, hf⟩ := fc_un (show (20 : Nat) < 100 from by decide) hf
  have f15 : LSA (w_fi ws (n_v vs 1) 5) (w_fi ws (n_v vs 1) 100) (w_fi ws (n_v vs 1) 101) (w_fi ws (n_v vs 1) 107) (w_ei ws (w_ar ws (n_v vs 1) 2)) (w_ei ws (w_ar ws (n_v vs 1) 95)) (w_ei ws (w_ar ws (n_v vs 1) 102)) (w_ei ws (w_ar ws (n_v vs 1) 104)) (w_ei ws (w_ar ws (n_v vs 1) 108)) (w_ei ws (w_ar ws (n_v vs 1) 109)) := f15
  obtain ⟨f16, hf⟩ := fc_un (show (20 : Nat) < 100 from by decide) hf
  have f16 : LSB (w_fi ws (n_v vs 1) 100) (w_fi ws (n_v vs 1) 101) (w_ei ws (w_ar ws (n_v vs 1) 102)) (w_ei ws (w_ar ws (n_v vs 1) 105)) (w_ei ws (w_ar ws (n_v vs 1) 106)) := f16
  obtain ⟨f17, hf⟩ := fc_un (show (20 : Nat) < 100 from by decide) hf
  have f17 : SGR (w_fi ws (n_v vs 1) 5) (w_ei ws (w_ar ws (n_v vs 1) 2)) := f17
  obtain ⟨f18, hf⟩ := fc_un (show (20 : Nat) < 100 from by decide) hf
  have f18 : w_fi ws (n_v vs 1) 79 = w_fi ws (n_v vs 1) 100 := f18
  obtain ⟨f19, hf⟩ := fc_un (show (20 : Nat) < 100 from by decide) hf
  have f19 : PCQ (w_fi ws (n_v vs 1) 79) (w_fi ws (n_v vs 1) 80) (w_ei ws (w_ar ws (n_v vs 1) 83)) (w_ei ws (w_ar ws (n_v vs 1) 84)) (w_ei ws (w_ar ws (n_v vs 1) 85)) (w_ei ws (w_ar ws (n_v vs 1) 86)) := f19
  obtain ⟨f20, hf⟩ := fc_un (show (20 : Nat) < 100 from by decide) hf
  have f20 : w_fi ws (n_v vs 1) 80 = v_iv (n_v vs 2) := f20
  obtain ⟨f21, hf⟩ := fc_un (show (20 : Nat) < 100 from by decide) hf
  have f21 : w_fi ws (n_v vs 1) 81 = 0 := f21
  obtain ⟨f22, hf⟩ := fc_un (show (24 : Nat) < 100 from by decide) hf
  have f22 : n_v vs 0 = n_v vs 1 := f22
  have q1 : n_v vs 1 = n_v vs 0 := f22.symm
  rw [q1] at f1
  rw [q1] at f3
  rw [q1] at f6
  rw [q1] at f7
  rw [q1] at f10
  rw [q1] at f11
  rw [q1] at f14
  rw [q1] at f15
  rw [q1] at f16
  rw [q1] at f17
  rw [q1] at f18
  rw [q1] at f19
  rw [q1] at f20
  rw [q1] at f21
  have cr_0_2 : ta (w_ar ws (n_v vs 0) 2) = some 152 := tv_rg (th_fd hD hth r0 (g := GG_150) rfl (k := 2) (t := (2, 0, 0, [152])) rfl rfl)
  have cr_0_83 : ta (w_ar ws (n_v vs 0) 83) = some 205 := tv_rg (th_fd hD hth r0 (g := GG_150) rfl (k := 83) (t := (2, 0, 0, [205])) rfl rfl)
  have cr_0_84 : ta (w_ar ws (n_v vs 0) 84) = some 206 := tv_rg (th_fd hD hth r0 (g := GG_150) rfl (k := 84) (t := (2, 0, 0, [206])) rfl rfl)
  have cr_0_85 : ta (w_ar ws (n_v vs 0) 85) = some 207 := tv_rg (th_fd hD hth r0 (g := GG_150) rfl (k := 85) (t := (2, 0, 0, [207])) rfl rfl)
  have cr_0_86 : ta (w_ar ws (n_v vs 0) 86) = some 208 := tv_rg (th_fd hD hth r0 (g := GG_150) rfl (k := 86) (t := (2, 0, 0, [208])) rfl rfl)
  have cr_0_95 : ta (w_ar ws (n_v vs 0) 95) = some 216 := tv_rg (th_fd hD hth r0 (g := GG_150) rfl (k := 95) (t := (2, 0, 0, [216])) rfl rfl)
  have cr_0_102 : ta (w_ar ws (n_v vs 0) 102) = some 220 := tv_rg (th_fd hD hth r0 (g := GG_150) rfl (k := 102) (t := (2, 0, 0, [220])) rfl rfl)
  have cr_0_104 : ta (w_ar ws (n_v vs 0) 104) = some 222 := tv_rg (th_fd hD hth r0 (g := GG_150) rfl (k := 104) (t := (2, 0, 0, [222])) rfl rfl)
  have cr_0_105 : ta (w_ar ws (n_v vs 0) 105) = some 223 := tv_rg (th_fd hD hth r0 (g := GG_150) rfl (k := 105) (t := (2, 0, 0, [223])) rfl rfl)
  have cr_0_106 : ta (w_ar ws (n_v vs 0) 106) = some 224 := tv_rg (th_fd hD hth r0 (g := GG_150) rfl (k := 106) (t := (2, 0, 0, [224])) rfl rfl)
  have cr_0_108 : ta (w_ar ws (n_v vs 0) 108) = some 225 := tv_rg (th_fd hD hth r0 (g := GG_150) rfl (k := 108) (t := (2, 0, 0, [225])) rfl rfl)
  have cr_0_109 : ta (w_ar ws (n_v vs 0) 109) = some 226 := tv_rg (th_fd hD hth r0 (g := GG_150) rfl (k := 109) (t := (2, 0, 0, [226])) rfl rfl)
  have ad_8 : v_ad (n_v vs 8) = w_ar ws (n_v vs 0) 109 := congrArg v_ad f1
  have ad_4 : v_ad (n_v vs 4) = w_ar ws (n_v vs 0) 108 := congrArg v_ad f3
  rw [ad_8] at f0
  have h0 : v_iv (n_v vs 16) = w_ei ws (w_ar ws (n_v vs 0) 109) (v_iv (n_v vs 2)) := f0
  rw [ad_4] at f2
  have h2 : v_iv (n_v vs 15) = w_ei ws (w_ar ws (n_v vs 0) 108) (v_iv (n_v vs 2)) := f2
  rw [ad_8] at f4
  have h4 : v_iv (n_v vs 13) = w_ei ws (w_ar ws (n_v vs 0) 109) (v_iv (n_v vs 2)) := f4
  rw [ad_8] at f8
  have h8 : v_iv (n_v vs 9) = w_ei ws (w_ar ws (n_v vs 0) 109) (v_iv (n_v vs 2)) := f8
  rw [ad_4] at f12
  have h12 : v_iv (n_v vs 5) = w_ei ws (w_ar ws (n_v vs 0) 108) (v_iv (n_v vs 2)) := f12
  have g14 : v_iv (n_v vs 3) = w_fi ws (n_v vs 0) 107 := congrArg v_iv f14
  have hK_0_83 : ∀ j : Int, 0 ≤ j → j < 200 → 0 ≤ w_ei ws (w_ar ws (n_v vs 0) 83) j ∧ w_ei ws (w_ar ws (n_v vs 0) 83) j ≤ 75 := fun j h0 h1 => th_el hD hth cr_0_83 (kd := 0) (n := 200) (m := 200) (lo := 0) (hi := 75) (rs := []) (L := []) rfl (by decide) (j := j.toNat) (by omega)
  have hK_0_84 : ∀ j : Int, 0 ≤ j → j < 200 → 0 ≤ w_ei ws (w_ar ws (n_v vs 0) 84) j ∧ w_ei ws (w_ar ws (n_v vs 0) 84) j ≤ 75 := fun j h0 h1 => th_el hD hth cr_0_84 (kd := 0) (n := 200) (m := 200) (lo := 0) (hi := 75) (rs := []) (L := []) rfl (by decide) (j := j.toNat) (by omega)
  have hK_0_85 : ∀ j : Int, 0 ≤ j → j < 200 → 0 ≤ w_ei ws (w_ar ws (n_v vs 0) 85) j ∧ w_ei ws (w_ar ws (n_v vs 0) 85) j ≤ 72 := fun j h0 h1 => th_el hD hth cr_0_85 (kd := 0) (n := 200) (m := 200) (lo := 0) (hi := 72) (rs := []) (L := []) rfl (by decide) (j := j.toNat) (by omega)
  have hK_0_86 : ∀ j : Int, 0 ≤ j → j < 200 → 0 ≤ w_ei ws (w_ar ws (n_v vs 0) 86) j ∧ w_ei ws (w_ar ws (n_v vs 0) 86) j ≤ 1 := fun j h0 h1 => th_el hD hth cr_0_86 (kd := 2) (n := 200) (m := 200) (lo := 0) (hi := 1) (rs := []) (L := []) rfl (by decide) (j := j.toNat) (by omega)
  have hK_0_95 : ∀ j : Int, 0 ≤ j → j < 48 → 0 ≤ w_ei ws (w_ar ws (n_v vs 0) 95) j ∧ w_ei ws (w_ar ws (n_v vs 0) 95) j ≤ 1 := fun j h0 h1 => th_el hD hth cr_0_95 (kd := 2) (n := 48) (m := 48) (lo := 0) (hi := 1) (rs := []) (L := []) rfl (by decide) (j := j.toNat) (by omega)
  have hK_0_102 : ∀ j : Int, 0 ≤ j → j < 76 → 0 ≤ w_ei ws (w_ar ws (n_v vs 0) 102) j ∧ w_ei ws (w_ar ws (n_v vs 0) 102) j ≤ 75 := fun j h0 h1 => th_el hD hth cr_0_102 (kd := 0) (n := 76) (m := 76) (lo := 0) (hi := 75) (rs := []) (L := []) rfl (by decide) (j := j.toNat) (by omega)
  have hK_0_104 : ∀ j : Int, 0 ≤ j → j < 48 → 0 ≤ w_ei ws (w_ar ws (n_v vs 0) 104) j ∧ w_ei ws (w_ar ws (n_v vs 0) 104) j ≤ 76 := fun j h0 h1 => th_el hD hth cr_0_104 (kd := 0) (n := 48) (m := 48) (lo := 0) (hi := 76) (rs := []) (L := []) rfl (by decide) (j := j.toNat) (by omega)
  have hK_0_105 : ∀ j : Int, 0 ≤ j → j < 76 → 0 ≤ w_ei ws (w_ar ws (n_v vs 0) 105) j ∧ w_ei ws (w_ar ws (n_v vs 0) 105) j ≤ 76 := fun j h0 h1 => th_el hD hth cr_0_105 (kd := 0) (n := 76) (m := 76) (lo := 0) (hi := 76) (rs := []) (L := []) rfl (by decide) (j := j.toNat) (by omega)
  have hK_0_106 : ∀ j : Int, 0 ≤ j → j < 5776 → 0 ≤ w_ei ws (w_ar ws (n_v vs 0) 106) j ∧ w_ei ws (w_ar ws (n_v vs 0) 106) j ≤ 75 := fun j h0 h1 => th_el hD hth cr_0_106 (kd := 0) (n := 5776) (m := 5776) (lo := 0) (hi := 75) (rs := []) (L := []) rfl (by decide) (j := j.toNat) (by omega)
  have hK_0_108 : ∀ j : Int, 0 ≤ j → j < 130 → 0 ≤ w_ei ws (w_ar ws (n_v vs 0) 108) j ∧ w_ei ws (w_ar ws (n_v vs 0) 108) j ≤ 75 := fun j h0 h1 => th_el hD hth cr_0_108 (kd := 0) (n := 130) (m := 130) (lo := 0) (hi := 75) (rs := []) (L := []) rfl (by decide) (j := j.toNat) (by omega)
  have hK_0_109 : ∀ j : Int, 0 ≤ j → j < 130 → 0 ≤ w_ei ws (w_ar ws (n_v vs 0) 109) j ∧ w_ei ws (w_ar ws (n_v vs 0) 109) j ≤ 75 := fun j h0 h1 => th_el hD hth cr_0_109 (kd := 0) (n := 130) (m := 130) (lo := 0) (hi := 75) (rs := []) (L := []) rfl (by decide) (j := j.toNat) (by omega)
  have kz_0_79 : 0 ≤ w_fi ws (n_v vs 0) 79 ∧ w_fi ws (n_v vs 0) 79 ≤ 76 := tv_rng (th_fd hD hth r0 (g := GG_150) rfl (k := 79) (t := (0, 0, 76, [])) rfl rfl)
  have kz_0_80 : 0 ≤ w_fi ws (n_v vs 0) 80 ∧ w_fi ws (n_v vs 0) 80 ≤ 200 := tv_rng (th_fd hD hth r0 (g := GG_150) rfl (k := 80) (t := (0, 0, 200, [])) rfl rfl)
  have kz_0_81 : 0 ≤ w_fi ws (n_v vs 0) 81 ∧ w_fi ws (n_v vs 0) 81 ≤ 200 := tv_rng (th_fd hD hth r0 (g := GG_150) rfl (k := 81) (t := (0, 0, 200, [])) rfl rfl)
  have kz_0_100 : 0 ≤ w_fi ws (n_v vs 0) 100 ∧ w_fi ws (n_v vs 0) 100 ≤ 76 := tv_rng (th_fd hD hth r0 (g := GG_150) rfl (k := 100) (t := (0, 0, 76, [])) rfl rfl)
  have kz_0_101 : 0 ≤ w_fi ws (n_v vs 0) 101 ∧ w_fi ws (n_v vs 0) 101 ≤ 76 := tv_rng (th_fd hD hth r0 (g := GG_150) rfl (k := 101) (t := (0, 0, 76, [])) rfl rfl)
  have kz_0_107 : 0 ≤ w_fi ws (n_v vs 0) 107 ∧ w_fi ws (n_v vs 0) 107 ≤ 130 := tv_rng (th_fd hD hth r0 (g := GG_150) rfl (k := 107) (t := (0, 0, 130, [])) rfl rfl)
  obtain ⟨x, ex, hx⟩ := iv_ex (ta := ta) (lo := 0) (hi := 199) (z := v_iv (n_v vs 2)) (by omega) (by omega) (by omega) (by omega)
  have ex2 : v_iv (Value.int x) = v_iv (n_v vs 2) := ex
  have ex3 : 0 ≤ v_iv (Value.int x) ∧ v_iv (Value.int x) ≤ 199 := tv_rng hx
  have e_1 : n_v (vs ++ [Value.int x]) 1 = n_v vs 1 := n_v_old (by rw [hl]; decide)
  have e_2 : n_v (vs ++ [Value.int x]) 2 = n_v vs 2 := n_v_old (by rw [hl]; decide)
  have e_15 : n_v (vs ++ [Value.int x]) 15 = n_v vs 15 := n_v_old (by rw [hl]; decide)
  have e_16 : n_v (vs ++ [Value.int x]) 16 = n_v vs 16 := n_v_old (by rw [hl]; decide)
  have e_21 : n_v (vs ++ [Value.int x]) 21 = Value.int x := n_v_new hl
  have nf0 : fc_1 PRD (23, [21, 2], [0, 1, -1]) ws (vs ++ [Value.int x]) := by
    refine ⟨fun n hn => ?_, ?_⟩
    · have hn : n ∈ [21, 2] := hn
      rw [List.length_append, hl]
      simp only [List.mem_cons, List.not_mem_nil, or_false] at hn
      show n < 21 + 1; omega
    · show 1 * v_iv (n_v (vs ++ [Value.int x]) 21) + ((-1) * v_iv (n_v (vs ++ [Value.int x]) 2) + 0) ≤ 0
      rw [e_2]
      rw [e_21]
      exact vc_Mo_across2_5_0 (v_iv (n_v vs 2)) (v_iv (n_v vs 3)) (v_iv (n_v vs 5)) (v_iv (n_v vs 6)) (v_iv (n_v vs 9)) (v_iv (n_v vs 10)) (v_iv (n_v vs 13)) (v_iv (n_v vs 15)) (v_iv (n_v vs 16)) (w_ei ws (w_ar ws (n_v vs 0) 109)) (w_ei ws (w_ar ws (n_v vs 0) 108)) (w_ei ws (w_ar ws (n_v vs 0) 2)) (w_fi ws (n_v vs 0) 5) (w_fi ws (n_v vs 0) 107) (w_ei ws (w_ar ws (n_v vs 0) 95)) (w_ei ws (w_ar ws (n_v vs 0) 102)) (w_ei ws (w_ar ws (n_v vs 0) 104)) (w_fi ws (n_v vs 0) 100) (w_fi ws (n_v vs 0) 101) (w_ei ws (w_ar ws (n_v vs 0) 105)) (w_ei ws (w_ar ws (n_v vs 0) 106)) (w_fi ws (n_v vs 0) 79) (w_ei ws (w_ar ws (n_v vs 0) 83)) (w_ei ws (w_ar ws (n_v vs 0) 84)) (w_ei ws (w_ar ws (n_v vs 0) 85)) (w_ei ws (w_ar ws (n_v vs 0) 86)) (w_fi ws (n_v vs 0) 80) (w_fi ws (n_v vs 0) 81) (v_iv (Value.int x)) k2 k3 k5 k6 k9 k10 k13 k15 k16 d0 d1 d2 h0 h2 h4 f5 f6 f7 h8 f9 f10 f11 h12 f13 g14 f15 f16 f17 f18 f19 f20 f21 hK_0_83 hK_0_84 hK_0_85 hK_0_86 hK_0_95 hK_0_102 hK_0_104 hK_0_105 hK_0_106 hK_0_108 hK_0_109 kz_0_79 kz_0_80 kz_0_81 kz_0_100 kz_0_101 kz_0_107 ex2 ex3
  have nf1 : fc_1 PRD (23, [21, 2], [0, -1, 1]) ws (vs ++ [Value.int x]) := by
    refine ⟨fun n hn => ?_, ?_⟩
    · have hn : n ∈ [21, 2] := hn
      rw [List.length_append, hl]
      simp only [List.mem_cons, List.not_mem_nil, or_false] at hn
      show n < 21 + 1; omega
    · show (-1) * v_iv (n_v (vs ++ [Value.int x]) 21) + (1 * v_iv (n_v (vs ++ [Value.int x]) 2) + 0) ≤ 0
      rw [e_2]
      rw [e_21]
      exact vc_Mo_across2_5_1 (v_iv (n_v vs 2)) (v_iv (n_v vs 3)) (v_iv (n_v vs 5)) (v_iv (n_v vs 6)) (v_iv (n_v vs 9)) (v_iv (n_v vs 10)) (v_iv (n_v vs 13)) (v_iv (n_v vs 15)) (v_iv (n_v vs 16)) (w_ei ws (w_ar ws (n_v vs 0) 109)) (w_ei ws (w_ar ws (n_v vs 0) 108)) (w_ei ws (w_ar ws (n_v vs 0) 2)) (w_fi ws (n_v vs 0) 5) (w_fi ws (n_v vs 0) 107) (w_ei ws (w_ar ws (n_v vs 0) 95)) (w_ei ws (w_ar ws (n_v vs 0) 102)) (w_ei ws (w_ar ws (n_v vs 0) 104)) (w_fi ws (n_v vs 0) 100) (w_fi ws (n_v vs 0) 101) (w_ei ws (w_ar ws (n_v vs 0) 105)) (w_ei ws (w_ar ws (n_v vs 0) 106)) (w_fi ws (n_v vs 0) 79) (w_ei ws (w_ar ws (n_v vs 0) 83)) (w_ei ws (w_ar ws (n_v vs 0) 84)) (w_ei ws (w_ar ws (n_v vs 0) 85)) (w_ei ws (w_ar ws (n_v vs 0) 86)) (w_fi ws (n_v vs 0) 80) (w_fi ws (n_v vs 0) 81) (v_iv (Value.int x)) k2 k3 k5 k6 k9 k10 k13 k15 k16 d0 d1 d2 h0 h2 h4 f5 f6 f7 h8 f9 f10 f11 h12 f13 g14 f15 f16 f17 f18 f19 f20 f21 hK_0_83 hK_0_84 hK_0_85 hK_0_86 hK_0_95 hK_0_102 hK_0_104 hK_0_105 hK_0_106 hK_0_108 hK_0_109 kz_0_79 kz_0_80 kz_0_81 kz_0_100 kz_0_101 kz_0_107 ex2 ex3
  have nf2 : fc_1 PRD (20, [1, 21], [50, 1, 0, 80, 1, 3, 2, 0, 80, 1, 1]) ws (vs ++ [Value.int x]) := by
    refine ⟨fun n hn => ?_, ?_⟩
    · have hn : n ∈ [1, 21] := hn
      rw [List.length_append, hl]
      simp only [List.mem_cons, List.not_mem_nil, or_false] at hn
      show n < 21 + 1; omega
    · show w_fi ws (n_v (vs ++ [Value.int x]) 1) 80 = v_iv (n_v (vs ++ [Value.int x]) 21)
      rw [e_1]
      rw [e_21]
      rw [q1]
      exact vc_Mo_across2_5_2 (v_iv (n_v vs 2)) (v_iv (n_v vs 3)) (v_iv (n_v vs 5)) (v_iv (n_v vs 6)) (v_iv (n_v vs 9)) (v_iv (n_v vs 10)) (v_iv (n_v vs 13)) (v_iv (n_v vs 15)) (v_iv (n_v vs 16)) (w_ei ws (w_ar ws (n_v vs 0) 109)) (w_ei ws (w_ar ws (n_v vs 0) 108)) (w_ei ws (w_ar ws (n_v vs 0) 2)) (w_fi ws (n_v vs 0) 5) (w_fi ws (n_v vs 0) 107) (w_ei ws (w_ar ws (n_v vs 0) 95)) (w_ei ws (w_ar ws (n_v vs 0) 102)) (w_ei ws (w_ar ws (n_v vs 0) 104)) (w_fi ws (n_v vs 0) 100) (w_fi ws (n_v vs 0) 101) (w_ei ws (w_ar ws (n_v vs 0) 105)) (w_ei ws (w_ar ws (n_v vs 0) 106)) (w_fi ws (n_v vs 0) 79) (w_ei ws (w_ar ws (n_v vs 0) 83)) (w_ei ws (w_ar ws (n_v vs 0) 84)) (w_ei ws (w_ar ws (n_v vs 0) 85)) (w_ei ws (w_ar ws (n_v vs 0) 86)) (w_fi ws (n_v vs 0) 80) (w_fi ws (n_v vs 0) 81) (v_iv (Value.int x)) k2 k3 k5 k6 k9 k10 k13 k15 k16 d0 d1 d2 h0 h2 h4 f5 f6 f7 h8 f9 f10 f11 h12 f13 g14 f15 f16 f17 f18 f19 f20 f21 hK_0_83 hK_0_84 hK_0_85 hK_0_86 hK_0_95 hK_0_102 hK_0_104 hK_0_105 hK_0_106 hK_0_108 hK_0_109 kz_0_79 kz_0_80 kz_0_81 kz_0_100 kz_0_101 kz_0_107 ex2 ex3
  have nf3 : fc_1 PRD (20, [1], [60, 2, 4, 380, 79, 80, 83, 84, 85, 86]) ws (vs ++ [Value.int x]) := by
    refine ⟨fun n hn => ?_, ?_⟩
    · have hn : n ∈ [1] := hn
      rw [List.length_append, hl]
      simp only [List.mem_cons, List.not_mem_nil, or_false] at hn
      show n < 21 + 1; omega
    · show PCQ (w_fi ws (n_v (vs ++ [Value.int x]) 1) 79) (w_fi ws (n_v (vs ++ [Value.int x]) 1) 80) (w_ei ws (w_ar ws (n_v (vs ++ [Value.int x]) 1) 83)) (w_ei ws (w_ar ws (n_v (vs ++ [Value.int x]) 1) 84)) (w_ei ws (w_ar ws (n_v (vs ++ [Value.int x]) 1) 85)) (w_ei ws (w_ar ws (n_v (vs ++ [Value.int x]) 1) 86))
      rw [e_1]
      rw [q1]
      exact vc_Mo_across2_5_3 (v_iv (n_v vs 2)) (v_iv (n_v vs 3)) (v_iv (n_v vs 5)) (v_iv (n_v vs 6)) (v_iv (n_v vs 9)) (v_iv (n_v vs 10)) (v_iv (n_v vs 13)) (v_iv (n_v vs 15)) (v_iv (n_v vs 16)) (w_ei ws (w_ar ws (n_v vs 0) 109)) (w_ei ws (w_ar ws (n_v vs 0) 108)) (w_ei ws (w_ar ws (n_v vs 0) 2)) (w_fi ws (n_v vs 0) 5) (w_fi ws (n_v vs 0) 107) (w_ei ws (w_ar ws (n_v vs 0) 95)) (w_ei ws (w_ar ws (n_v vs 0) 102)) (w_ei ws (w_ar ws (n_v vs 0) 104)) (w_fi ws (n_v vs 0) 100) (w_fi ws (n_v vs 0) 101) (w_ei ws (w_ar ws (n_v vs 0) 105)) (w_ei ws (w_ar ws (n_v vs 0) 106)) (w_fi ws (n_v vs 0) 79) (w_ei ws (w_ar ws (n_v vs 0) 83)) (w_ei ws (w_ar ws (n_v vs 0) 84)) (w_ei ws (w_ar ws (n_v vs 0) 85)) (w_ei ws (w_ar ws (n_v vs 0) 86)) (w_fi ws (n_v vs 0) 80) (w_fi ws (n_v vs 0) 81) (v_iv (Value.int x)) k2 k3 k5 k6 k9 k10 k13 k15 k16 d0 d1 d2 h0 h2 h4 f5 f6 f7 h8 f9 f10 f11 h12 f13 g14 f15 f16 f17 f18 f19 f20 f21 hK_0_83 hK_0_84 hK_0_85 hK_0_86 hK_0_95 hK_0_102 hK_0_104 hK_0_105 hK_0_106 hK_0_108 hK_0_109 kz_0_79 kz_0_80 kz_0_81 kz_0_100 kz_0_101 kz_0_107 ex2 ex3
  have nf4 : fc_1 PRD (20, [15, 1], [50, 1, 0, 1079, 2, 6, 0, 2, 0, 0, 1, 0, 0, 6, 4, 2, 1, 0, 0, 1, 2, 1, 79]) ws (vs ++ [Value.int x]) := by
    refine ⟨fun n hn => ?_, ?_⟩
    · have hn : n ∈ [15, 1] := hn
      rw [List.length_append, hl]
      simp only [List.mem_cons, List.not_mem_nil, or_false] at hn
      show n < 21 + 1; omega
    · show (0 ≤ v_iv (n_v (vs ++ [Value.int x]) 15)) ∧ ((v_iv (n_v (vs ++ [Value.int x]) 15) + 1) ≤ w_fi ws (n_v (vs ++ [Value.int x]) 1) 79)
      rw [e_1]
      rw [e_15]
      rw [q1]
      exact vc_Mo_across2_5_4 (v_iv (n_v vs 2)) (v_iv (n_v vs 3)) (v_iv (n_v vs 5)) (v_iv (n_v vs 6)) (v_iv (n_v vs 9)) (v_iv (n_v vs 10)) (v_iv (n_v vs 13)) (v_iv (n_v vs 15)) (v_iv (n_v vs 16)) (w_ei ws (w_ar ws (n_v vs 0) 109)) (w_ei ws (w_ar ws (n_v vs 0) 108)) (w_ei ws (w_ar ws (n_v vs 0) 2)) (w_fi ws (n_v vs 0) 5) (w_fi ws (n_v vs 0) 107) (w_ei ws (w_ar ws (n_v vs 0) 95)) (w_ei ws (w_ar ws (n_v vs 0) 102)) (w_ei ws (w_ar ws (n_v vs 0) 104)) (w_fi ws (n_v vs 0) 100) (w_fi ws (n_v vs 0) 101) (w_ei ws (w_ar ws (n_v vs 0) 105)) (w_ei ws (w_ar ws (n_v vs 0) 106)) (w_fi ws (n_v vs 0) 79) (w_ei ws (w_ar ws (n_v vs 0) 83)) (w_ei ws (w_ar ws (n_v vs 0) 84)) (w_ei ws (w_ar ws (n_v vs 0) 85)) (w_ei ws (w_ar ws (n_v vs 0) 86)) (w_fi ws (n_v vs 0) 80) (w_fi ws (n_v vs 0) 81) (v_iv (Value.int x)) k2 k3 k5 k6 k9 k10 k13 k15 k16 d0 d1 d2 h0 h2 h4 f5 f6 f7 h8 f9 f10 f11 h12 f13 g14 f15 f16 f17 f18 f19 f20 f21 hK_0_83 hK_0_84 hK_0_85 hK_0_86 hK_0_95 hK_0_102 hK_0_104 hK_0_105 hK_0_106 hK_0_108 hK_0_109 kz_0_79 kz_0_80 kz_0_81 kz_0_100 kz_0_101 kz_0_107 ex2 ex3
  have nf5 : fc_1 PRD (20, [16, 1], [50, 1, 0, 1079, 2, 6, 0, 2, 0, 0, 1, 0, 0, 6, 4, 2, 1, 0, 0, 1, 2, 1, 79]) ws (vs ++ [Value.int x]) := by
    refine ⟨fun n hn => ?_, ?_⟩
    · have hn : n ∈ [16, 1] := hn
      rw [List.length_append, hl]
      simp only [List.mem_cons, List.not_mem_nil, or_false] at hn
      show n < 21 + 1; omega
    · show (0 ≤ v_iv (n_v (vs ++ [Value.int x]) 16)) ∧ ((v_iv (n_v (vs ++ [Value.int x]) 16) + 1) ≤ w_fi ws (n_v (vs ++ [Value.int x]) 1) 79)
      rw [e_1]
      rw [e_16]
      rw [q1]
      exact vc_Mo_across2_5_5 (v_iv (n_v vs 2)) (v_iv (n_v vs 3)) (v_iv (n_v vs 5)) (v_iv (n_v vs 6)) (v_iv (n_v vs 9)) (v_iv (n_v vs 10)) (v_iv (n_v vs 13)) (v_iv (n_v vs 15)) (v_iv (n_v vs 16)) (w_ei ws (w_ar ws (n_v vs 0) 109)) (w_ei ws (w_ar ws (n_v vs 0) 108)) (w_ei ws (w_ar ws (n_v vs 0) 2)) (w_fi ws (n_v vs 0) 5) (w_fi ws (n_v vs 0) 107) (w_ei ws (w_ar ws (n_v vs 0) 95)) (w_ei ws (w_ar ws (n_v vs 0) 102)) (w_ei ws (w_ar ws (n_v vs 0) 104)) (w_fi ws (n_v vs 0) 100) (w_fi ws (n_v vs 0) 101) (w_ei ws (w_ar ws (n_v vs 0) 105)) (w_ei ws (w_ar ws (n_v vs 0) 106)) (w_fi ws (n_v vs 0) 79) (w_ei ws (w_ar ws (n_v vs 0) 83)) (w_ei ws (w_ar ws (n_v vs 0) 84)) (w_ei ws (w_ar ws (n_v vs 0) 85)) (w_ei ws (w_ar ws (n_v vs 0) 86)) (w_fi ws (n_v vs 0) 80) (w_fi ws (n_v vs 0) 81) (v_iv (Value.int x)) k2 k3 k5 k6 k9 k10 k13 k15 k16 d0 d1 d2 h0 h2 h4 f5 f6 f7 h8 f9 f10 f11 h12 f13 g14 f15 f16 f17 f18 f19 f20 f21 hK_0_83 hK_0_84 hK_0_85 hK_0_86 hK_0_95 hK_0_102 hK_0_104 hK_0_105 hK_0_106 hK_0_108 hK_0_109 kz_0_79 kz_0_80 kz_0_81 kz_0_100 kz_0_101 kz_0_107 ex2 ex3
  exact ⟨(fun _ h => (by cases h)), [Value.int x], ag_one hx, List.forall_mem_cons.mpr ⟨⟨show (23 : Nat) < 100 from by decide, nf0⟩, List.forall_mem_cons.mpr ⟨⟨show (23 : Nat) < 100 from by decide, nf1⟩, List.forall_mem_cons.mpr ⟨⟨show (20 : Nat) < 100 from by decide, nf2⟩, List.forall_mem_cons.mpr ⟨⟨show (20 : Nat) < 100 from by decide, nf3⟩, List.forall_mem_cons.mpr ⟨⟨show (20 : Nat) < 100 from by decide, nf4⟩, List.forall_mem_cons.mpr ⟨⟨show (20 : Nat) < 100 from by decide, nf5⟩, (fun _ h => (by cases h))⟩⟩⟩⟩⟩⟩, (fun _ h => (by cases h))⟩
set_option maxHeartbeats 4000000 in
theorem vc_Mo_across2_6_0 (x2 : Int) (x3 : Int) (x5 : Int) (x6 : Int) (x9 : Int) (x10 : Int) (x15 : Int) (x16 : Int) (x21 : Int) (x22 : Int) (pointMany_0 : Int) (all_0 : Int → Int) (r_0 : Int) (turned_0 : Int → Int) (itemLayer_0 : Int → Int) (firstJoint_0 : Int → Int) (lineA_0 : Int → Int) (lineB_0 : Int → Int) (items_0 : Int) (layerMany_0 : Int) (lines_0 : Int) (layerSize_0 : Int → Int) (layerItem_0 : Int → Int) (apartMany_0 : Int) (costMany_0 : Int) (costA_0 : Int → Int) (costB_0 : Int → Int) (costW_0 : Int → Int) (costPlain_0 : Int → Int) (k2 : 0 ≤ x2 ∧ x2 ≤ 129) (k3 : 1 ≤ x3 ∧ x3 ≤ 130) (k5 : 0 ≤ x5 ∧ x5 ≤ 23) (k6 : 1 ≤ x6 ∧ x6 ≤ 24) (k9 : 0 ≤ x9 ∧ x9 ≤ 75) (k10 : 0 ≤ x10 ∧ x10 ≤ 24) (k15 : 0 ≤ x15 ∧ x15 ≤ 75) (k16 : 0 ≤ x16 ∧ x16 ≤ 75) (k21 : 0 ≤ x21 ∧ x21 ≤ 199) (k22 : 1 ≤ x22 ∧ x22 ≤ 130) (d0 : x2 + 1 ≤ x22 ∧ x22 ≤ x2 + 1) (d1 : x3 + (-4294967296) ≤ x22 ∧ x22 ≤ x3 + 0) (d2 : x10 + 0 ≤ x9 ∧ x9 ≤ x10 + 4294967296) (d3 : x6 + (-4294967296) ≤ x5 ∧ x5 ≤ x6 + (-1)) (d4 : x3 + (-4294967296) ≤ x2 ∧ x2 ≤ x3 + (-1)) (f0 : x22 = x2 + 1) (f1 : 1 * x21 + ((-1) * x2 + 0) ≤ 0) (f2 : (-1) * x21 + (1 * x2 + 0) ≤ 0) (f3 : (0 ≤ x15) ∧ ((x15 + 1) ≤ pointMany_0)) (f4 : (0 ≤ x16) ∧ ((x16 + 1) ≤ pointMany_0)) (f5 : 1 * x10 + ((-1) * all_0 (r_0 + 0) + 0) ≤ 0) (f6 : (-1) * x10 + (1 * all_0 (r_0 + 0) + 0) ≤ 0) (f7 : 1 * x6 + ((-1) * all_0 (r_0 + 0) + 0) ≤ 0) (f8 : (-1) * x6 + (1 * all_0 (r_0 + 0) + 0) ≤ 0) (f9 : LSA (r_0) (items_0) (layerMany_0) (lines_0) (all_0) (turned_0) (itemLayer_0) (firstJoint_0) (lineA_0) (lineB_0)) (f10 : LSB (items_0) (layerMany_0) (itemLayer_0) (layerSize_0) (layerItem_0)) (f11 : SGR (r_0) (all_0)) (f12 : pointMany_0 = items_0) (f13 : apartMany_0 = 0) (f15 : costMany_0 = (x21 + 1)) (f16 : PCQ (pointMany_0) (costMany_0) (costA_0) (costB_0) (costW_0) (costPlain_0)) (f18 : 1 * x21 + ((-1) * x2 + 0) ≤ 0) (f19 : (-1) * x21 + (1 * x2 + 0) ≤ 0) (f20 : x10 ≤ x9) (f21 : x5 < x6) (f22 : x2 < x3) (hK_0_83 : ∀ j : Int, 0 ≤ j → j < 200 → 0 ≤ costA_0 j ∧ costA_0 j ≤ 75) (hK_0_84 : ∀ j : Int, 0 ≤ j → j < 200 → 0 ≤ costB_0 j ∧ costB_0 j ≤ 75) (hK_0_85 : ∀ j : Int, 0 ≤ j → j < 200 → 0 ≤ costW_0 j ∧ costW_0 j ≤ 72) (hK_0_86 : ∀ j : Int, 0 ≤ j → j < 200 → 0 ≤ costPlain_0 j ∧ costPlain_0 j ≤ 1) (hK_0_95 : ∀ j : Int, 0 ≤ j → j < 48 → 0 ≤ turned_0 j ∧ turned_0 j ≤ 1) (hK_0_102 : ∀ j : Int, 0 ≤ j → j < 76 → 0 ≤ itemLayer_0 j ∧ itemLayer_0 j ≤ 75) (hK_0_104 : ∀ j : Int, 0 ≤ j → j < 48 → 0 ≤ firstJoint_0 j ∧ firstJoint_0 j ≤ 76) (hK_0_105 : ∀ j : Int, 0 ≤ j → j < 76 → 0 ≤ layerSize_0 j ∧ layerSize_0 j ≤ 76) (hK_0_106 : ∀ j : Int, 0 ≤ j → j < 5776 → 0 ≤ layerItem_0 j ∧ layerItem_0 j ≤ 75) (hK_0_108 : ∀ j : Int, 0 ≤ j → j < 130 → 0 ≤ lineA_0 j ∧ lineA_0 j ≤ 75) (hK_0_109 : ∀ j : Int, 0 ≤ j → j < 130 → 0 ≤ lineB_0 j ∧ lineB_0 j ≤ 75) (kz_0_79 : 0 ≤ pointMany_0 ∧ pointMany_0 ≤ 76) (kz_0_80 : 0 ≤ costMany_0 ∧ costMany_0 ≤ 200) (kz_0_81 : 0 ≤ apartMany_0 ∧ apartMany_0 ≤ 200) (kz_0_100 : 0 ≤ items_0 ∧ items_0 ≤ 76) (kz_0_101 : 0 ≤ layerMany_0 ∧ layerMany_0 ≤ 76) (kz_0_107 : 0 ≤ lines_0 ∧ lines_0 ≤ 130) : costMany_0 = x22 := by
  try simp only [Int.add_zero] at *
  first
    | omega
    | (have h := ‹LSA _ _ _ _ _ _ _ _ _ _›.2.1; omega)
    | (have h := lsa_la (p := x2) (x := x15) ‹LSA _ _ _ _ _ _ _ _ _ _› (by omega) (by omega) (by assumption); omega)
    | (have h := lsa_lb (p := x2) (x := x16) ‹LSA _ _ _ _ _ _ _ _ _ _› (by omega) (by omega) (by assumption); omega)
def o_Mo_across2_6 : or_T := (20, 23, [(0, (2, 0, 0, [150])), (1, (2, 0, 0, [150])), (2, (0, 0, 129, [])), (3, (0, 1, 130, [])), (5, (0, 0, 23, [])), (6, (0, 1, 24, [])), (9, (0, 0, 75, [])), (10, (0, 0, 24, [])), (15, (0, 0, 75, [])), (16, (0, 0, 75, [])), (21, (0, 0, 199, [])), (22, (0, 1, 130, []))], [(6, [22, 2], [1]), (23, [21, 2], [0, 1, -1]), (23, [21, 2], [0, -1, 1]), (20, [15, 1], [50, 1, 0, 1079, 2, 6, 0, 2, 0, 0, 1, 0, 0, 6, 4, 2, 1, 0, 0, 1, 2, 1, 79]), (20, [16, 1], [50, 1, 0, 1079, 2, 6, 0, 2, 0, 0, 1, 0, 0, 6, 4, 2, 1, 0, 0, 1, 2, 1, 79]), (20, [10, 1], [30, 0, 1, 0, 0, -1, 3, 2005000]), (20, [10, 1], [30, 0, -1, 0, 0, 1, 3, 2005000]), (20, [6, 1], [30, 0, 1, 0, 0, -1, 3, 2005000]), (20, [6, 1], [30, 0, -1, 0, 0, 1, 3, 2005000]), (20, [1], [60, 4, 6, 369, 5, 100, 101, 107, 2, 95, 102, 104, 108, 109]), (20, [1], [60, 2, 3, 372, 100, 101, 102, 105, 106]), (20, [1], [60, 1, 1, 122, 5, 2]), (20, [1], [50, 2, 0, 79, 100, 1, 3, 2, 0, 79, 2, 0, 100]), (20, [1], [50, 1, 0, 81, 1, 3, 2, 0, 81, 0, 0]), (24, [0, 1], []), (20, [1, 21], [50, 1, 0, 80, 1, 3, 2, 0, 80, 4, 2, 1, 1, 0, 1]), (20, [1], [60, 2, 4, 380, 79, 80, 83, 84, 85, 86]), (102, [21], [771330261244315332260141804323758049210657437015740560944660480, 13080]), (23, [21, 2], [0, 1, -1]), (23, [21, 2], [0, -1, 1]), (7, [9, 10], [3]), (7, [5, 6], [2]), (7, [2, 3], [2])], [], [], [(20, [1, 22], [50, 1, 0, 80, 1, 3, 2, 0, 80, 1, 1])], [], [(22, 2, 1, 1), (22, 3, -4294967296, 0), (9, 10, 0, 4294967296), (5, 6, -4294967296, -1), (2, 3, -4294967296, -1)])
theorem oo_Mo_across2_6 {kA : Nat → ClassId} : or_ok PRD kA GG o_Mo_across2_6 := by
  intro A ta ws vs hD hth hl hk hds hf
  have hl : vs.length = 23 := hl
  have hk : ∀ q ∈ ([(0, (2, 0, 0, [150])), (1, (2, 0, 0, [150])), (2, (0, 0, 129, [])), (3, (0, 1, 130, [])), (5, (0, 0, 23, [])), (6, (0, 1, 24, [])), (9, (0, 0, 75, [])), (10, (0, 0, 24, [])), (15, (0, 0, 75, [])), (16, (0, 0, 75, [])), (21, (0, 0, 199, [])), (22, (0, 1, 130, []))] : List (Nat × tv_T)), tv_ok ta q.2 (n_v vs q.1) := hk
  obtain ⟨t0, hk⟩ := List.forall_mem_cons.mp hk
  have t0 : tv_ok ta (2, 0, 0, [150]) (n_v vs 0) := t0
  have r0 : ta (v_ad (n_v vs 0)) = some 150 := tv_rg t0
  obtain ⟨t1, hk⟩ := List.forall_mem_cons.mp hk
  have t1 : tv_ok ta (2, 0, 0, [150]) (n_v vs 1) := t1
  have r1 : ta (v_ad (n_v vs 1)) = some 150 := tv_rg t1
  obtain ⟨t2, hk⟩ := List.forall_mem_cons.mp hk
  have t2 : tv_ok ta (0, 0, 129, []) (n_v vs 2) := t2
  have k2 : 0 ≤ v_iv (n_v vs 2) ∧ v_iv (n_v vs 2) ≤ 129 := tv_rng t2
  obtain ⟨t3, hk⟩ := List.forall_mem_cons.mp hk
  have t3 : tv_ok ta (0, 1, 130, []) (n_v vs 3) := t3
  have k3 : 1 ≤ v_iv (n_v vs 3) ∧ v_iv (n_v vs 3) ≤ 130 := tv_rng t3
  obtain ⟨t5, hk⟩ := List.forall_mem_cons.mp hk
  have t5 : tv_ok ta (0, 0, 23, []) (n_v vs 5) := t5
  have k5 : 0 ≤ v_iv (n_v vs 5) ∧ v_iv (n_v vs 5) ≤ 23 := tv_rng t5
  obtain ⟨t6, hk⟩ := List.forall_mem_cons.mp hk
  have t6 : tv_ok ta (0, 1, 24, []) (n_v vs 6) := t6
  have k6 : 1 ≤ v_iv (n_v vs 6) ∧ v_iv (n_v vs 6) ≤ 24 := tv_rng t6
  obtain ⟨t9, hk⟩ := List.forall_mem_cons.mp hk
  have t9 : tv_ok ta (0, 0, 75, []) (n_v vs 9) := t9
  have k9 : 0 ≤ v_iv (n_v vs 9) ∧ v_iv (n_v vs 9) ≤ 75 := tv_rng t9
  obtain ⟨t10, hk⟩ := List.forall_mem_cons.mp hk
  have t10 : tv_ok ta (0, 0, 24, []) (n_v vs 10) := t10
  have k10 : 0 ≤ v_iv (n_v vs 10) ∧ v_iv (n_v vs 10) ≤ 24 := tv_rng t10
  obtain ⟨t15, hk⟩ := List.forall_mem_cons.mp hk
  have t15 : tv_ok ta (0, 0, 75, []) (n_v vs 15) := t15
  have k15 : 0 ≤ v_iv (n_v vs 15) ∧ v_iv (n_v vs 15) ≤ 75 := tv_rng t15
  obtain ⟨t16, hk⟩ := List.forall_mem_cons.mp hk
  have t16 : tv_ok ta (0, 0, 75, []) (n_v vs 16) := t16
  have k16 : 0 ≤ v_iv (n_v vs 16) ∧ v_iv (n_v vs 16) ≤ 75 := tv_rng t16
  obtain ⟨t21, hk⟩ := List.forall_mem_cons.mp hk
  have t21 : tv_ok ta (0, 0, 199, []) (n_v vs 21) := t21
  have k21 : 0 ≤ v_iv (n_v vs 21) ∧ v_iv (n_v vs 21) ≤ 199 := tv_rng t21
  obtain ⟨t22, hk⟩ := List.forall_mem_cons.mp hk
  have t22 : tv_ok ta (0, 1, 130, []) (n_v vs 22) := t22
  have k22 : 1 ≤ v_iv (n_v vs 22) ∧ v_iv (n_v vs 22) ≤ 130 := tv_rng t22
  have hds : ∀ q ∈ ([(22, 2, 1, 1), (22, 3, -4294967296, 0), (9, 10, 0, 4294967296), (5, 6, -4294967296, -1), (2, 3, -4294967296, -1)] : List of_T), n_iv vs q.2.1 + q.2.2.1 ≤ n_iv vs q.1 ∧ n_iv vs q.1 ≤ n_iv vs q.2.1 + q.2.2.2 := hds
  obtain ⟨d0, hds⟩ := List.forall_mem_cons.mp hds
  have d0 : v_iv (n_v vs 2) + 1 ≤ v_iv (n_v vs 22) ∧ v_iv (n_v vs 22) ≤ v_iv (n_v vs 2) + 1 := d0
  obtain ⟨d1, hds⟩ := List.forall_mem_cons.mp hds
  have d1 : v_iv (n_v vs 3) + (-4294967296) ≤ v_iv (n_v vs 22) ∧ v_iv (n_v vs 22) ≤ v_iv (n_v vs 3) + 0 := d1
  obtain ⟨d2, hds⟩ := List.forall_mem_cons.mp hds
  have d2 : v_iv (n_v vs 10) + 0 ≤ v_iv (n_v vs 9) ∧ v_iv (n_v vs 9) ≤ v_iv (n_v vs 10) + 4294967296 := d2
  obtain ⟨d3, hds⟩ := List.forall_mem_cons.mp hds
  have d3 : v_iv (n_v vs 6) + (-4294967296) ≤ v_iv (n_v vs 5) ∧ v_iv (n_v vs 5) ≤ v_iv (n_v vs 6) + (-1) := d3
  obtain ⟨d4, hds⟩ := List.forall_mem_cons.mp hds
  have d4 : v_iv (n_v vs 3) + (-4294967296) ≤ v_iv (n_v vs 2) ∧ v_iv (n_v vs 2) ≤ v_iv (n_v vs 3) + (-1) := d4
  have hf : fc_ok PRD [(6, [22, 2], [1]), (23, [21, 2], [0, 1, -1]), (23, [21, 2], [0, -1, 1]), (20, [15, 1], [50, 1, 0, 1079, 2, 6, 0, 2, 0, 0, 1, 0, 0, 6, 4, 2, 1, 0, 0, 1, 2, 1, 79]), (20, [16, 1], [50, 1, 0, 1079, 2, 6, 0, 2, 0, 0, 1, 0, 0, 6, 4, 2, 1, 0, 0, 1, 2, 1, 79]), (20, [10, 1], [30, 0, 1, 0, 0, -1, 3, 2005000]), (20, [10, 1], [30, 0, -1, 0, 0, 1, 3, 2005000]), (20, [6, 1], [30, 0, 1, 0, 0, -1, 3, 2005000]), (20, [6, 1], [30, 0, -1, 0, 0, 1, 3, 2005000]), (20, [1], [60, 4, 6, 369, 5, 100, 101, 107, 2, 95, 102, 104, 108, 109]), (20, [1], [60, 2, 3, 372, 100, 101, 102, 105, 106]), (20, [1], [60, 1, 1, 122, 5, 2]), (20, [1], [50, 2, 0, 79, 100, 1, 3, 2, 0, 79, 2, 0, 100]), (20, [1], [50, 1, 0, 81, 1, 3, 2, 0, 81, 0, 0]), (24, [0, 1], []), (20, [1, 21], [50, 1, 0, 80, 1, 3, 2, 0, 80, 4, 2, 1, 1, 0, 1]), (20, [1], [60, 2, 4, 380, 79, 80, 83, 84, 85, 86]), (102, [21], [771330261244315332260141804323758049210657437015740560944660480, 13080]), (23, [21, 2], [0, 1, -1]), (23, [21, 2], [0, -1, 1]), (7, [9, 10], [3]), (7, [5, 6], [2]), (7, [2, 3], [2])] ta ws vs := hf
  obtain ⟨f0, hf⟩ := fc_un (show (6 : Nat) < 100 from by decide) hf
  have f0 : v_iv (n_v vs 22) = v_iv (n_v vs 2) + 1 := f0
  obtain ⟨f1, hf⟩ := fc_un (show (23 : Nat) < 100 from by decide) hf
  have f1 : 1 * v_iv (n_v vs 21) + ((-1) * v_iv (n_v vs 2) + 0) ≤ 0 := f1
  obtain ⟨f2, hf⟩ := fc_un (show (23 : Nat) < 100 from by decide) hf
  have f2 : (-1) * v_iv (n_v vs 21) + (1 * v_iv (n_v vs 2) + 0) ≤ 0 := f2
  obtain ⟨f3, hf⟩ := fc_un (show (20 : Nat) < 100 from by decide) hf
  have f3 : (0 ≤ v_iv (n_v vs 15)) ∧ ((v_iv (n_v vs 15) + 1) ≤ w_fi ws (n_v vs 1) 79) := f3
  obtain ⟨f4, hf⟩ := fc_un (show (20 : Nat) < 100 from by decide) hf
  have f4 : (0 ≤ v_iv (n_v vs 16)) ∧ ((v_iv (n_v vs 16) + 1) ≤ w_fi ws (n_v vs 1) 79) := f4
  obtain ⟨f5, hf⟩ := fc_un (show (20 : Nat) < 100 from by decide) hf
  have f5 : 1 * v_iv (n_v vs 10) + ((-1) * w_el ws (w_ar ws (n_v vs 1) 2) (w_fi ws (n_v vs 1) 5 + 0).toNat + 0) ≤ 0 := f5
  obtain ⟨f6, hf⟩ := fc_un (show (20 : Nat) < 100 from by decide) hf
  have f6 : (-1) * v_iv (n_v vs 10) + (1 * w_el ws (w_ar ws (n_v vs 1) 2) (w_fi ws (n_v vs 1) 5 + 0).toNat + 0) ≤ 0 := f6
  obtain ⟨f7, hf⟩ := fc_un (show (20 : Nat) < 100 from by decide) hf
  have f7 : 1 * v_iv (n_v vs 6) + ((-1) * w_el ws (w_ar ws (n_v vs 1) 2) (w_fi ws (n_v vs 1) 5 + 0).toNat + 0) ≤ 0 := f7
  obtain ⟨f8, hf⟩ := fc_un (show (20 : Nat) < 100 from by decide) hf
  have f8 : (-1) * v_iv (n_v vs 6) + (1 * w_el ws (w_ar ws (n_v vs 1) 2) (w_fi ws (n_v vs 1) 5 + 0).toNat + 0) ≤ 0 := f8
  obtain ⟨f9, hf⟩ := fc_un (show (20 : Nat) < 100 from by decide) hf
  have f9 : LSA (w_fi ws (n_v vs 1) 5) (w_fi ws (n_v vs 1) 100) (w_fi ws (n_v vs 1) 101) (w_fi ws (n_v vs 1) 107) (w_ei ws (w_ar ws (n_v vs 1) 2)) (w_ei ws (w_ar ws (n_v vs 1) 95)) (w_ei ws (w_ar ws (n_v vs 1) 102)) (w_ei ws (w_ar ws (n_v vs 1) 104)) (w_ei ws (w_ar ws (n_v vs 1) 108)) (w_ei ws (w_ar ws (n_v vs 1) 109)) := f9
  obtain ⟨f10, hf⟩ := fc_un (show (20 : Nat) < 100 from by decide) hf
  have f10 : LSB (w_fi ws (n_v vs 1) 100) (w_fi ws (n_v vs 1) 101) (w_ei ws (w_ar ws (n_v vs 1) 102)) (w_ei ws (w_ar ws (n_v vs 1) 105)) (w_ei ws (w_ar ws (n_v vs 1) 106)) := f10
  obtain ⟨f11, hf⟩ := fc_un (show (20 : Nat) < 100 from by decide) hf
  have f11 : SGR (w_fi ws (n_v vs 1) 5) (w_ei ws (w_ar ws (n_v vs 1) 2)) := f11
  obtain ⟨f12, hf⟩ := fc_un (show (20 : Nat) < 100 from by decide) hf
  have f12 : w_fi ws (n_v vs 1) 79 = w_fi ws (n_v vs 1) 100 := f12
  obtain ⟨f13, hf⟩ := fc_un (show (20 : Nat) < 100 from by decide) hf
  have f13 : w_fi ws (n_v vs 1) 81 = 0 := f13
  obtain ⟨f14, hf⟩ := fc_un (show (24 : Nat) < 100 from by decide) hf
  have f14 : n_v vs 0 = n_v vs 1 := f14
  obtain ⟨f15, hf⟩ := fc_un (show (20 : Nat) < 100 from by decide) hf
  have f15 : w_fi ws (n_v vs 1) 80 = (v_iv (n_v vs 21) + 1) := f15
  obtain ⟨f16, hf⟩ := fc_un (show (20 : Nat) < 100 from by decide) hf
  have f16 : PCQ (w_fi ws (n_v vs 1) 79) (w_fi ws (n_v vs 1) 80) (w_ei ws (w_ar ws (n_v vs 1) 83)) (w_ei ws (w_ar ws (n_v vs 1) 84)) (w_ei ws (w_ar ws (n_v vs 1) 85)) (w_ei ws (w_ar ws (n_v vs 1) 86)) := f16
  obtain ⟨ta1, w1, le1, ⟨_, s1⟩, hf⟩ := fc_us (show ¬ (102 : Nat) < 100 from by decide) hf
  obtain ⟨f18, hf⟩ := fc_un (show (23 : Nat) < 100 from by decide) hf
  have f18 : 1 * v_iv (n_v vs 21) + ((-1) * v_iv (n_v vs 2) + 0) ≤ 0 := f18
  obtain ⟨f19, hf⟩ := fc_un (show (23 : Nat) < 100 from by decide) hf
  have f19 : (-1) * v_iv (n_v vs 21) + (1 * v_iv (n_v vs 2) + 0) ≤ 0 := f19
  obtain ⟨f20, hf⟩ := fc_un (show (7 : Nat) < 100 from by decide) hf
  have f20 : v_iv (n_v vs 10) ≤ v_iv (n_v vs 9) := f20
  obtain ⟨f21, hf⟩ := fc_un (show (7 : Nat) < 100 from by decide) hf
  have f21 : v_iv (n_v vs 5) < v_iv (n_v vs 6) := f21
  obtain ⟨f22, hf⟩ := fc_un (show (7 : Nat) < 100 from by decide) hf
  have f22 : v_iv (n_v vs 2) < v_iv (n_v vs 3) := f22
  have q1 : n_v vs 1 = n_v vs 0 := f14.symm
  rw [q1] at f3
  rw [q1] at f4
  rw [q1] at f5
  rw [q1] at f6
  rw [q1] at f7
  rw [q1] at f8
  rw [q1] at f9
  rw [q1] at f10
  rw [q1] at f11
  rw [q1] at f12
  rw [q1] at f13
  rw [q1] at f15
  rw [q1] at f16
  have cr_0_2 : ta (w_ar ws (n_v vs 0) 2) = some 152 := tv_rg (th_fd hD hth r0 (g := GG_150) rfl (k := 2) (t := (2, 0, 0, [152])) rfl rfl)
  have cr_0_83 : ta (w_ar ws (n_v vs 0) 83) = some 205 := tv_rg (th_fd hD hth r0 (g := GG_150) rfl (k := 83) (t := (2, 0, 0, [205])) rfl rfl)
  have cr_0_84 : ta (w_ar ws (n_v vs 0) 84) = some 206 := tv_rg (th_fd hD hth r0 (g := GG_150) rfl (k := 84) (t := (2, 0, 0, [206])) rfl rfl)
  have cr_0_85 : ta (w_ar ws (n_v vs 0) 85) = some 207 := tv_rg (th_fd hD hth r0 (g := GG_150) rfl (k := 85) (t := (2, 0, 0, [207])) rfl rfl)
  have cr_0_86 : ta (w_ar ws (n_v vs 0) 86) = some 208 := tv_rg (th_fd hD hth r0 (g := GG_150) rfl (k := 86) (t := (2, 0, 0, [208])) rfl rfl)
  have cr_0_95 : ta (w_ar ws (n_v vs 0) 95) = some 216 := tv_rg (th_fd hD hth r0 (g := GG_150) rfl (k := 95) (t := (2, 0, 0, [216])) rfl rfl)
  have cr_0_102 : ta (w_ar ws (n_v vs 0) 102) = some 220 := tv_rg (th_fd hD hth r0 (g := GG_150) rfl (k := 102) (t := (2, 0, 0, [220])) rfl rfl)
  have cr_0_104 : ta (w_ar ws (n_v vs 0) 104) = some 222 := tv_rg (th_fd hD hth r0 (g := GG_150) rfl (k := 104) (t := (2, 0, 0, [222])) rfl rfl)
  have cr_0_105 : ta (w_ar ws (n_v vs 0) 105) = some 223 := tv_rg (th_fd hD hth r0 (g := GG_150) rfl (k := 105) (t := (2, 0, 0, [223])) rfl rfl)
  have cr_0_106 : ta (w_ar ws (n_v vs 0) 106) = some 224 := tv_rg (th_fd hD hth r0 (g := GG_150) rfl (k := 106) (t := (2, 0, 0, [224])) rfl rfl)
  have cr_0_108 : ta (w_ar ws (n_v vs 0) 108) = some 225 := tv_rg (th_fd hD hth r0 (g := GG_150) rfl (k := 108) (t := (2, 0, 0, [225])) rfl rfl)
  have cr_0_109 : ta (w_ar ws (n_v vs 0) 109) = some 226 := tv_rg (th_fd hD hth r0 (g := GG_150) rfl (k := 109) (t := (2, 0, 0, [226])) rfl rfl)
  have hK_0_83 : ∀ j : Int, 0 ≤ j → j < 200 → 0 ≤ w_ei ws (w_ar ws (n_v vs 0) 83) j ∧ w_ei ws (w_ar ws (n_v vs 0) 83) j ≤ 75 := fun j h0 h1 => th_el hD hth cr_0_83 (kd := 0) (n := 200) (m := 200) (lo := 0) (hi := 75) (rs := []) (L := []) rfl (by decide) (j := j.toNat) (by omega)
  have hK_0_84 : ∀ j : Int, 0 ≤ j → j < 200 → 0 ≤ w_ei ws (w_ar ws (n_v vs 0) 84) j ∧ w_ei ws (w_ar ws (n_v vs 0) 84) j ≤ 75 := fun j h0 h1 => th_el hD hth cr_0_84 (kd := 0) (n := 200) (m := 200) (lo := 0) (hi := 75) (rs := []) (L := []) rfl (by decide) (j := j.toNat) (by omega)
  have hK_0_85 : ∀ j : Int, 0 ≤ j → j < 200 → 0 ≤ w_ei ws (w_ar ws (n_v vs 0) 85) j ∧ w_ei ws (w_ar ws (n_v vs 0) 85) j ≤ 72 := fun j h0 h1 => th_el hD hth cr_0_85 (kd := 0) (n := 200) (m := 200) (lo := 0) (hi := 72) (rs := []) (L := []) rfl (by decide) (j := j.toNat) (by omega)
  have hK_0_86 : ∀ j : Int, 0 ≤ j → j < 200 → 0 ≤ w_ei ws (w_ar ws (n_v vs 0) 86) j ∧ w_ei ws (w_ar ws (n_v vs 0) 86) j ≤ 1 := fun j h0 h1 => th_el hD hth cr_0_86 (kd := 2) (n := 200) (m := 200) (lo := 0) (hi := 1) (rs := []) (L := []) rfl (by decide) (j := j.toNat) (by omega)
  have hK_0_95 : ∀ j : Int, 0 ≤ j → j < 48 → 0 ≤ w_ei ws (w_ar ws (n_v vs 0) 95) j ∧ w_ei ws (w_ar ws (n_v vs 0) 95) j ≤ 1 := fun j h0 h1 => th_el hD hth cr_0_95 (kd := 2) (n := 48) (m := 48) (lo := 0) (hi := 1) (rs := []) (L := []) rfl (by decide) (j := j.toNat) (by omega)
  have hK_0_102 : ∀ j : Int, 0 ≤ j → j < 76 → 0 ≤ w_ei ws (w_ar ws (n_v vs 0) 102) j ∧ w_ei ws (w_ar ws (n_v vs 0) 102) j ≤ 75 := fun j h0 h1 => th_el hD hth cr_0_102 (kd := 0) (n := 76) (m := 76) (lo := 0) (hi := 75) (rs := []) (L := []) rfl (by decide) (j := j.toNat) (by omega)
  have hK_0_104 : ∀ j : Int, 0 ≤ j → j < 48 → 0 ≤ w_ei ws (w_ar ws (n_v vs 0) 104) j ∧ w_ei ws (w_ar ws (n_v vs 0) 104) j ≤ 76 := fun j h0 h1 => th_el hD hth cr_0_104 (kd := 0) (n := 48) (m := 48) (lo := 0) (hi := 76) (rs := []) (L := []) rfl (by decide) (j := j.toNat) (by omega)
  have hK_0_105 : ∀ j : Int, 0 ≤ j → j < 76 → 0 ≤ w_ei ws (w_ar ws (n_v vs 0) 105) j ∧ w_ei ws (w_ar ws (n_v vs 0) 105) j ≤ 76 := fun j h0 h1 => th_el hD hth cr_0_105 (kd := 0) (n := 76) (m := 76) (lo := 0) (hi := 76) (rs := []) (L := []) rfl (by decide) (j := j.toNat) (by omega)
  have hK_0_106 : ∀ j : Int, 0 ≤ j → j < 5776 → 0 ≤ w_ei ws (w_ar ws (n_v vs 0) 106) j ∧ w_ei ws (w_ar ws (n_v vs 0) 106) j ≤ 75 := fun j h0 h1 => th_el hD hth cr_0_106 (kd := 0) (n := 5776) (m := 5776) (lo := 0) (hi := 75) (rs := []) (L := []) rfl (by decide) (j := j.toNat) (by omega)
  have hK_0_108 : ∀ j : Int, 0 ≤ j → j < 130 → 0 ≤ w_ei ws (w_ar ws (n_v vs 0) 108) j ∧ w_ei ws (w_ar ws (n_v vs 0) 108) j ≤ 75 := fun j h0 h1 => th_el hD hth cr_0_108 (kd := 0) (n := 130) (m := 130) (lo := 0) (hi := 75) (rs := []) (L := []) rfl (by decide) (j := j.toNat) (by omega)
  have hK_0_109 : ∀ j : Int, 0 ≤ j → j < 130 → 0 ≤ w_ei ws (w_ar ws (n_v vs 0) 109) j ∧ w_ei ws (w_ar ws (n_v vs 0) 109) j ≤ 75 := fun j h0 h1 => th_el hD hth cr_0_109 (kd := 0) (n := 130) (m := 130) (lo := 0) (hi := 75) (rs := []) (L := []) rfl (by decide) (j := j.toNat) (by omega)
  have kz_0_79 : 0 ≤ w_fi ws (n_v vs 0) 79 ∧ w_fi ws (n_v vs 0) 79 ≤ 76 := tv_rng (th_fd hD hth r0 (g := GG_150) rfl (k := 79) (t := (0, 0, 76, [])) rfl rfl)
  have kz_0_80 : 0 ≤ w_fi ws (n_v vs 0) 80 ∧ w_fi ws (n_v vs 0) 80 ≤ 200 := tv_rng (th_fd hD hth r0 (g := GG_150) rfl (k := 80) (t := (0, 0, 200, [])) rfl rfl)
  have kz_0_81 : 0 ≤ w_fi ws (n_v vs 0) 81 ∧ w_fi ws (n_v vs 0) 81 ≤ 200 := tv_rng (th_fd hD hth r0 (g := GG_150) rfl (k := 81) (t := (0, 0, 200, [])) rfl rfl)
  have kz_0_100 : 0 ≤ w_fi ws (n_v vs 0) 100 ∧ w_fi ws (n_v vs 0) 100 ≤ 76 := tv_rng (th_fd hD hth r0 (g := GG_150) rfl (k := 100) (t := (0, 0, 76, [])) rfl rfl)
  have kz_0_101 : 0 ≤ w_fi ws (n_v vs 0) 101 ∧ w_fi ws (n_v vs 0) 101 ≤ 76 := tv_rng (th_fd hD hth r0 (g := GG_150) rfl (k := 101) (t := (0, 0, 76, [])) rfl rfl)
  have kz_0_107 : 0 ≤ w_fi ws (n_v vs 0) 107 ∧ w_fi ws (n_v vs 0) 107 ≤ 130 := tv_rng (th_fd hD hth r0 (g := GG_150) rfl (k := 107) (t := (0, 0, 130, [])) rfl rfl)
  have nf0 : fc_1 PRD (20, [1, 22], [50, 1, 0, 80, 1, 3, 2, 0, 80, 1, 1]) ws (vs) := by
    refine ⟨fun n hn => ?_, ?_⟩
    · have hn : n ∈ [1, 22] := hn
      rw [hl]
      simp only [List.mem_cons, List.not_mem_nil, or_false] at hn
      show n < 23; omega
    · show w_fi ws (n_v vs 1) 80 = v_iv (n_v vs 22)
      rw [q1]
      exact vc_Mo_across2_6_0 (v_iv (n_v vs 2)) (v_iv (n_v vs 3)) (v_iv (n_v vs 5)) (v_iv (n_v vs 6)) (v_iv (n_v vs 9)) (v_iv (n_v vs 10)) (v_iv (n_v vs 15)) (v_iv (n_v vs 16)) (v_iv (n_v vs 21)) (v_iv (n_v vs 22)) (w_fi ws (n_v vs 0) 79) (w_ei ws (w_ar ws (n_v vs 0) 2)) (w_fi ws (n_v vs 0) 5) (w_ei ws (w_ar ws (n_v vs 0) 95)) (w_ei ws (w_ar ws (n_v vs 0) 102)) (w_ei ws (w_ar ws (n_v vs 0) 104)) (w_ei ws (w_ar ws (n_v vs 0) 108)) (w_ei ws (w_ar ws (n_v vs 0) 109)) (w_fi ws (n_v vs 0) 100) (w_fi ws (n_v vs 0) 101) (w_fi ws (n_v vs 0) 107) (w_ei ws (w_ar ws (n_v vs 0) 105)) (w_ei ws (w_ar ws (n_v vs 0) 106)) (w_fi ws (n_v vs 0) 81) (w_fi ws (n_v vs 0) 80) (w_ei ws (w_ar ws (n_v vs 0) 83)) (w_ei ws (w_ar ws (n_v vs 0) 84)) (w_ei ws (w_ar ws (n_v vs 0) 85)) (w_ei ws (w_ar ws (n_v vs 0) 86)) k2 k3 k5 k6 k9 k10 k15 k16 k21 k22 d0 d1 d2 d3 d4 f0 f1 f2 f3 f4 f5 f6 f7 f8 f9 f10 f11 f12 f13 f15 f16 f18 f19 f20 f21 f22 hK_0_83 hK_0_84 hK_0_85 hK_0_86 hK_0_95 hK_0_102 hK_0_104 hK_0_105 hK_0_106 hK_0_108 hK_0_109 kz_0_79 kz_0_80 kz_0_81 kz_0_100 kz_0_101 kz_0_107
  refine ⟨(fun _ h => (by cases h)), [], trivial, ?_, (fun _ h => (by cases h))⟩
  rw [List.append_nil]
  exact List.forall_mem_cons.mpr ⟨⟨show (20 : Nat) < 100 from by decide, nf0⟩, (fun _ h => (by cases h))⟩
set_option maxHeartbeats 4000000 in
theorem vc_Mo_across2_7_0 (x2 : Int) (x3 : Int) (x5 : Int) (x6 : Int) (x9 : Int) (x10 : Int) (x13 : Int) (x15 : Int) (x16 : Int) (lineB_0 : Int → Int) (lineA_0 : Int → Int) (all_0 : Int → Int) (r_0 : Int) (lines_0 : Int) (turned_0 : Int → Int) (itemLayer_0 : Int → Int) (firstJoint_0 : Int → Int) (items_0 : Int) (layerMany_0 : Int) (layerSize_0 : Int → Int) (layerItem_0 : Int → Int) (pointMany_0 : Int) (costA_0 : Int → Int) (costB_0 : Int → Int) (costW_0 : Int → Int) (costPlain_0 : Int → Int) (costMany_0 : Int) (apartMany_0 : Int) (gx : Int) (k2 : 0 ≤ x2 ∧ x2 ≤ 129) (k3 : 1 ≤ x3 ∧ x3 ≤ 130) (k5 : 0 ≤ x5 ∧ x5 ≤ 75) (k6 : 0 ≤ x6 ∧ x6 ≤ 24) (k9 : 0 ≤ x9 ∧ x9 ≤ 23) (k10 : 1 ≤ x10 ∧ x10 ≤ 24) (k13 : 0 ≤ x13 ∧ x13 ≤ 75) (k15 : 0 ≤ x15 ∧ x15 ≤ 75) (k16 : 0 ≤ x16 ∧ x16 ≤ 75) (d0 : x10 + (-4294967296) ≤ x9 ∧ x9 ≤ x10 + (-1)) (d1 : x6 + 0 ≤ x5 ∧ x5 ≤ x6 + 4294967296) (d2 : x3 + (-4294967296) ≤ x2 ∧ x2 ≤ x3 + (-1)) (h0 : x16 = lineB_0 (x2)) (h2 : x15 = lineA_0 (x2)) (h4 : x13 = lineA_0 (x2)) (f5 : x9 < x10) (f6 : 1 * x10 + ((-1) * all_0 (r_0 + 0) + 0) ≤ 0) (f7 : (-1) * x10 + (1 * all_0 (r_0 + 0) + 0) ≤ 0) (h8 : x9 = lineB_0 (x2)) (f9 : x6 ≤ x5) (f10 : 1 * x6 + ((-1) * all_0 (r_0 + 0) + 0) ≤ 0) (f11 : (-1) * x6 + (1 * all_0 (r_0 + 0) + 0) ≤ 0) (h12 : x5 = lineA_0 (x2)) (f13 : x2 < x3) (g14 : x3 = lines_0) (f15 : LSA (r_0) (items_0) (layerMany_0) (lines_0) (all_0) (turned_0) (itemLayer_0) (firstJoint_0) (lineA_0) (lineB_0)) (f16 : LSB (items_0) (layerMany_0) (itemLayer_0) (layerSize_0) (layerItem_0)) (f17 : SGR (r_0) (all_0)) (f18 : pointMany_0 = items_0) (f19 : PCQ (pointMany_0) (costMany_0) (costA_0) (costB_0) (costW_0) (costPlain_0)) (f20 : costMany_0 = x2) (f21 : apartMany_0 = 0) (hK_0_83 : ∀ j : Int, 0 ≤ j → j < 200 → 0 ≤ costA_0 j ∧ costA_0 j ≤ 75) (hK_0_84 : ∀ j : Int, 0 ≤ j → j < 200 → 0 ≤ costB_0 j ∧ costB_0 j ≤ 75) (hK_0_85 : ∀ j : Int, 0 ≤ j → j < 200 → 0 ≤ costW_0 j ∧ costW_0 j ≤ 72) (hK_0_86 : ∀ j : Int, 0 ≤ j → j < 200 → 0 ≤ costPlain_0 j ∧ costPlain_0 j ≤ 1) (hK_0_95 : ∀ j : Int, 0 ≤ j → j < 48 → 0 ≤ turned_0 j ∧ turned_0 j ≤ 1) (hK_0_102 : ∀ j : Int, 0 ≤ j → j < 76 → 0 ≤ itemLayer_0 j ∧ itemLayer_0 j ≤ 75) (hK_0_104 : ∀ j : Int, 0 ≤ j → j < 48 → 0 ≤ firstJoint_0 j ∧ firstJoint_0 j ≤ 76) (hK_0_105 : ∀ j : Int, 0 ≤ j → j < 76 → 0 ≤ layerSize_0 j ∧ layerSize_0 j ≤ 76) (hK_0_106 : ∀ j : Int, 0 ≤ j → j < 5776 → 0 ≤ layerItem_0 j ∧ layerItem_0 j ≤ 75) (hK_0_108 : ∀ j : Int, 0 ≤ j → j < 130 → 0 ≤ lineA_0 j ∧ lineA_0 j ≤ 75) (hK_0_109 : ∀ j : Int, 0 ≤ j → j < 130 → 0 ≤ lineB_0 j ∧ lineB_0 j ≤ 75) (kz_0_79 : 0 ≤ pointMany_0 ∧ pointMany_0 ≤ 76) (kz_0_80 : 0 ≤ costMany_0 ∧ costMany_0 ≤ 200) (kz_0_81 : 0 ≤ apartMany_0 ∧ apartMany_0 ≤ 200) (kz_0_100 : 0 ≤ items_0 ∧ items_0 ≤ 76) (kz_0_101 : 0 ≤ layerMany_0 ∧ layerMany_0 ≤ 76) (kz_0_107 : 0 ≤ lines_0 ∧ lines_0 ≤ 130) (ex2 : gx = x2) (ex3 : 0 ≤ gx ∧ gx ≤ 199) : 1 * gx + ((-1) * x2 + 0) ≤ 0 := by
  try simp only [Int.add_zero] at *
  first
    | omega
    | (have h := ‹LSA _ _ _ _ _ _ _ _ _ _›.2.1; omega)
    | (have h := lsa_la (p := x2) (x := x15) ‹LSA _ _ _ _ _ _ _ _ _ _› (by omega) (by omega) (by assumption); omega)
    | (have h := lsa_lb (p := x2) (x := x16) ‹LSA _ _ _ _ _ _ _ _ _ _› (by omega) (by omega) (by assumption); omega)
set_option maxHeartbeats 4000000 in
theorem vc_Mo_across2_7_1 (x2 : Int) (x3 : Int) (x5 : Int) (x6 : Int) (x9 : Int) (x10 : Int) (x13 : Int) (x15 : Int) (x16 : Int) (lineB_0 : Int → Int) (lineA_0 : Int → Int) (all_0 : Int → Int) (r_0 : Int) (lines_0 : Int) (turned_0 : Int → Int) (itemLayer_0 : Int → Int) (firstJoint_0 : Int → Int) (items_0 : Int) (layerMany_0 : Int) (layerSize_0 : Int → Int) (layerItem_0 : Int → Int) (pointMany_0 : Int) (costA_0 : Int → Int) (costB_0 : Int → Int) (costW_0 : Int → Int) (costPlain_0 : Int → Int) (costMany_0 : Int) (apartMany_0 : Int) (gx : Int) (k2 : 0 ≤ x2 ∧ x2 ≤ 129) (k3 : 1 ≤ x3 ∧ x3 ≤ 130) (k5 : 0 ≤ x5 ∧ x5 ≤ 75) (k6 : 0 ≤ x6 ∧ x6 ≤ 24) (k9 : 0 ≤ x9 ∧ x9 ≤ 23) (k10 : 1 ≤ x10 ∧ x10 ≤ 24) (k13 : 0 ≤ x13 ∧ x13 ≤ 75) (k15 : 0 ≤ x15 ∧ x15 ≤ 75) (k16 : 0 ≤ x16 ∧ x16 ≤ 75) (d0 : x10 + (-4294967296) ≤ x9 ∧ x9 ≤ x10 + (-1)) (d1 : x6 + 0 ≤ x5 ∧ x5 ≤ x6 + 4294967296) (d2 : x3 + (-4294967296) ≤ x2 ∧ x2 ≤ x3 + (-1)) (h0 : x16 = lineB_0 (x2)) (h2 : x15 = lineA_0 (x2)) (h4 : x13 = lineA_0 (x2)) (f5 : x9 < x10) (f6 : 1 * x10 + ((-1) * all_0 (r_0 + 0) + 0) ≤ 0) (f7 : (-1) * x10 + (1 * all_0 (r_0 + 0) + 0) ≤ 0) (h8 : x9 = lineB_0 (x2)) (f9 : x6 ≤ x5) (f10 : 1 * x6 + ((-1) * all_0 (r_0 + 0) + 0) ≤ 0) (f11 : (-1) * x6 + (1 * all_0 (r_0 + 0) + 0) ≤ 0) (h12 : x5 = lineA_0 (x2)) (f13 : x2 < x3) (g14 : x3 = lines_0) (f15 : LSA (r_0) (items_0) (layerMany_0) (lines_0) (all_0) (turned_0) (itemLayer_0) (firstJoint_0) (lineA_0) (lineB_0)) (f16 : LSB (items_0) (layerMany_0) (itemLayer_0) (layerSize_0) (layerItem_0)) (f17 : SGR (r_0) (all_0)) (f18 : pointMany_0 = items_0) (f19 : PCQ (pointMany_0) (costMany_0) (costA_0) (costB_0) (costW_0) (costPlain_0)) (f20 : costMany_0 = x2) (f21 : apartMany_0 = 0) (hK_0_83 : ∀ j : Int, 0 ≤ j → j < 200 → 0 ≤ costA_0 j ∧ costA_0 j ≤ 75) (hK_0_84 : ∀ j : Int, 0 ≤ j → j < 200 → 0 ≤ costB_0 j ∧ costB_0 j ≤ 75) (hK_0_85 : ∀ j : Int, 0 ≤ j → j < 200 → 0 ≤ costW_0 j ∧ costW_0 j ≤ 72) (hK_0_86 : ∀ j : Int, 0 ≤ j → j < 200 → 0 ≤ costPlain_0 j ∧ costPlain_0 j ≤ 1) (hK_0_95 : ∀ j : Int, 0 ≤ j → j < 48 → 0 ≤ turned_0 j ∧ turned_0 j ≤ 1) (hK_0_102 : ∀ j : Int, 0 ≤ j → j < 76 → 0 ≤ itemLayer_0 j ∧ itemLayer_0 j ≤ 75) (hK_0_104 : ∀ j : Int, 0 ≤ j → j < 48 → 0 ≤ firstJoint_0 j ∧ firstJoint_0 j ≤ 76) (hK_0_105 : ∀ j : Int, 0 ≤ j → j < 76 → 0 ≤ layerSize_0 j ∧ layerSize_0 j ≤ 76) (hK_0_106 : ∀ j : Int, 0 ≤ j → j < 5776 → 0 ≤ layerItem_0 j ∧ layerItem_0 j ≤ 75) (hK_0_108 : ∀ j : Int, 0 ≤ j → j < 130 → 0 ≤ lineA_0 j ∧ lineA_0 j ≤ 75) (hK_0_109 : ∀ j : Int, 0 ≤ j → j < 130 → 0 ≤ lineB_0 j ∧ lineB_0 j ≤ 75) (kz_0_79 : 0 ≤ pointMany_0 ∧ pointMany_0 ≤ 76) (kz_0_80 : 0 ≤ costMany_0 ∧ costMany_0 ≤ 200) (kz_0_81 : 0 ≤ apartMany_0 ∧ apartMany_0 ≤ 200) (kz_0_100 : 0 ≤ items_0 ∧ items_0 ≤ 76) (kz_0_101 : 0 ≤ layerMany_0 ∧ layerMany_0 ≤ 76) (kz_0_107 : 0 ≤ lines_0 ∧ lines_0 ≤ 130) (ex2 : gx = x2) (ex3 : 0 ≤ gx ∧ gx ≤ 199) : (-1) * gx + (1 * x2 + 0) ≤ 0 := by
  try simp only [Int.add_zero] at *
  first
    | omega
    | (have h := ‹LSA _ _ _ _ _ _ _ _ _ _›.2.1; omega)
    | (have h := lsa_la (p := x2) (x := x15) ‹LSA _ _ _ _ _ _ _ _ _ _› (by omega) (by omega) (by assumption); omega)
    | (have h := lsa_lb (p := x2) (x := x16) ‹LSA _ _ _ _ _ _ _ _ _ _› (by omega) (by omega) (by assumption); omega)
set_option maxHeartbeats 4000000 in
theorem vc_Mo_across2_7_2 (x2 : Int) (x3 : Int) (x5 : Int) (x6 : Int) (x9 : Int) (x10 : Int) (x13 : Int) (x15 : Int) (x16 : Int) (lineB_0 : Int → Int) (lineA_0 : Int → Int) (all_0 : Int → Int) (r_0 : Int) (lines_0 : Int) (turned_0 : Int → Int) (itemLayer_0 : Int → Int) (firstJoint_0 : Int → Int) (items_0 : Int) (layerMany_0 : Int) (layerSize_0 : Int → Int) (layerItem_0 : Int → Int) (pointMany_0 : Int) (costA_0 : Int → Int) (costB_0 : Int → Int) (costW_0 : Int → Int) (costPlain_0 : Int → Int) (costMany_0 : Int) (apartMany_0 : Int) (gx : Int) (k2 : 0 ≤ x2 ∧ x2 ≤ 129) (k3 : 1 ≤ x3 ∧ x3 ≤ 130) (k5 : 0 ≤ x5 ∧ x5 ≤ 75) (k6 : 0 ≤ x6 ∧ x6 ≤ 24) (k9 : 0 ≤ x9 ∧ x9 ≤ 23) (k10 : 1 ≤ x10 ∧ x10 ≤ 24) (k13 : 0 ≤ x13 ∧ x13 ≤ 75) (k15 : 0 ≤ x15 ∧ x15 ≤ 75) (k16 : 0 ≤ x16 ∧ x16 ≤ 75) (d0 : x10 + (-4294967296) ≤ x9 ∧ x9 ≤ x10 + (-1)) (d1 : x6 + 0 ≤ x5 ∧ x5 ≤ x6 + 4294967296) (d2 : x3 + (-4294967296) ≤ x2 ∧ x2 ≤ x3 + (-1)) (h0 : x16 = lineB_0 (x2)) (h2 : x15 = lineA_0 (x2)) (h4 : x13 = lineA_0 (x2)) (f5 : x9 < x10) (f6 : 1 * x10 + ((-1) * all_0 (r_0 + 0) + 0) ≤ 0) (f7 : (-1) * x10 + (1 * all_0 (r_0 + 0) + 0) ≤ 0) (h8 : x9 = lineB_0 (x2)) (f9 : x6 ≤ x5) (f10 : 1 * x6 + ((-1) * all_0 (r_0 + 0) + 0) ≤ 0) (f11 : (-1) * x6 + (1 * all_0 (r_0 + 0) + 0) ≤ 0) (h12 : x5 = lineA_0 (x2)) (f13 : x2 < x3) (g14 : x3 = lines_0) (f15 : LSA (r_0) (items_0) (layerMany_0) (lines_0) (all_0) (turned_0) (itemLayer_0) (firstJoint_0) (lineA_0) (lineB_0)) (f16 : LSB (items_0) (layerMany_0) (itemLayer_0) (layerSize_0) (layerItem_0)) (f17 : SGR (r_0) (all_0)) (f18 : pointMany_0 = items_0) (f19 : PCQ (pointMany_0) (costMany_0) (costA_0) (costB_0) (costW_0) (costPlain_0)) (f20 : costMany_0 = x2) (f21 : apartMany_0 = 0) (hK_0_83 : ∀ j : Int, 0 ≤ j → j < 200 → 0 ≤ costA_0 j ∧ costA_0 j ≤ 75) (hK_0_84 : ∀ j : Int, 0 ≤ j → j < 200 → 0 ≤ costB_0 j ∧ costB_0 j ≤ 75) (hK_0_85 : ∀ j : Int, 0 ≤ j → j < 200 → 0 ≤ costW_0 j ∧ costW_0 j ≤ 72) (hK_0_86 : ∀ j : Int, 0 ≤ j → j < 200 → 0 ≤ costPlain_0 j ∧ costPlain_0 j ≤ 1) (hK_0_95 : ∀ j : Int, 0 ≤ j → j < 48 → 0 ≤ turned_0 j ∧ turned_0 j ≤ 1) (hK_0_102 : ∀ j : Int, 0 ≤ j → j < 76 → 0 ≤ itemLayer_0 j ∧ itemLayer_0 j ≤ 75) (hK_0_104 : ∀ j : Int, 0 ≤ j → j < 48 → 0 ≤ firstJoint_0 j ∧ firstJoint_0 j ≤ 76) (hK_0_105 : ∀ j : Int, 0 ≤ j → j < 76 → 0 ≤ layerSize_0 j ∧ layerSize_0 j ≤ 76) (hK_0_106 : ∀ j : Int, 0 ≤ j → j < 5776 → 0 ≤ layerItem_0 j ∧ layerItem_0 j ≤ 75) (hK_0_108 : ∀ j : Int, 0 ≤ j → j < 130 → 0 ≤ lineA_0 j ∧ lineA_0 j ≤ 75) (hK_0_109 : ∀ j : Int, 0 ≤ j → j < 130 → 0 ≤ lineB_0 j ∧ lineB_0 j ≤ 75) (kz_0_79 : 0 ≤ pointMany_0 ∧ pointMany_0 ≤ 76) (kz_0_80 : 0 ≤ costMany_0 ∧ costMany_0 ≤ 200) (kz_0_81 : 0 ≤ apartMany_0 ∧ apartMany_0 ≤ 200) (kz_0_100 : 0 ≤ items_0 ∧ items_0 ≤ 76) (kz_0_101 : 0 ≤ layerMany_0 ∧ layerMany_0 ≤ 76) (kz_0_107 : 0 ≤ lines_0 ∧ lines_0 ≤ 130) (ex2 : gx = x2) (ex3 : 0 ≤ gx ∧ gx ≤ 199) : costMany_0 = gx := by
  try simp only [Int.add_zero] at *
  first
    | omega
    | (have h := ‹LSA _ _ _ _ _ _ _ _ _ _›.2.1; omega)
    | (have h := lsa_la (p := x2) (x := x15) ‹LSA _ _ _ _ _ _ _ _ _ _› (by omega) (by omega) (by assumption); omega)
    | (have h := lsa_lb (p := x2) (x := x16) ‹LSA _ _ _ _ _ _ _ _ _ _› (by omega) (by omega) (by assumption); omega)
set_option maxHeartbeats 4000000 in
theorem vc_Mo_across2_7_3 (x2 : Int) (x3 : Int) (x5 : Int) (x6 : Int) (x9 : Int) (x10 : Int) (x13 : Int) (x15 : Int) (x16 : Int) (lineB_0 : Int → Int) (lineA_0 : Int → Int) (all_0 : Int → Int) (r_0 : Int) (lines_0 : Int) (turned_0 : Int → Int) (itemLayer_0 : Int → Int) (firstJoint_0 : Int → Int) (items_0 : Int) (layerMany_0 : Int) (layerSize_0 : Int → Int) (layerItem_0 : Int → Int) (pointMany_0 : Int) (costA_0 : Int → Int) (costB_0 : Int → Int) (costW_0 : Int → Int) (costPlain_0 : Int → Int) (costMany_0 : Int) (apartMany_0 : Int) (gx : Int) (k2 : 0 ≤ x2 ∧ x2 ≤ 129) (k3 : 1 ≤ x3 ∧ x3 ≤ 130) (k5 : 0 ≤ x5 ∧ x5 ≤ 75) (k6 : 0 ≤ x6 ∧ x6 ≤ 24) (k9 : 0 ≤ x9 ∧ x9 ≤ 23) (k10 : 1 ≤ x10 ∧ x10 ≤ 24) (k13 : 0 ≤ x13 ∧ x13 ≤ 75) (k15 : 0 ≤ x15 ∧ x15 ≤ 75) (k16 : 0 ≤ x16 ∧ x16 ≤ 75) (d0 : x10 + (-4294967296) ≤ x9 ∧ x9 ≤ x10 + (-1)) (d1 : x6 + 0 ≤ x5 ∧ x5 ≤ x6 + 4294967296) (d2 : x3 + (-4294967296) ≤ x2 ∧ x2 ≤ x3 + (-1)) (h0 : x16 = lineB_0 (x2)) (h2 : x15 = lineA_0 (x2)) (h4 : x13 = lineA_0 (x2)) (f5 : x9 < x10) (f6 : 1 * x10 + ((-1) * all_0 (r_0 + 0) + 0) ≤ 0) (f7 : (-1) * x10 + (1 * all_0 (r_0 + 0) + 0) ≤ 0) (h8 : x9 = lineB_0 (x2)) (f9 : x6 ≤ x5) (f10 : 1 * x6 + ((-1) * all_0 (r_0 + 0) + 0) ≤ 0) (f11 : (-1) * x6 + (1 * all_0 (r_0 + 0) + 0) ≤ 0) (h12 : x5 = lineA_0 (x2)) (f13 : x2 < x3) (g14 : x3 = lines_0) (f15 : LSA (r_0) (items_0) (layerMany_0) (lines_0) (all_0) (turned_0) (itemLayer_0) (firstJoint_0) (lineA_0) (lineB_0)) (f16 : LSB (items_0) (layerMany_0) (itemLayer_0) (layerSize_0) (layerItem_0)) (f17 : SGR (r_0) (all_0)) (f18 : pointMany_0 = items_0) (f19 : PCQ (pointMany_0) (costMany_0) (costA_0) (costB_0) (costW_0) (costPlain_0)) (f20 : costMany_0 = x2) (f21 : apartMany_0 = 0) (hK_0_83 : ∀ j : Int, 0 ≤ j → j < 200 → 0 ≤ costA_0 j ∧ costA_0 j ≤ 75) (hK_0_84 : ∀ j : Int, 0 ≤ j → j < 200 → 0 ≤ costB_0 j ∧ costB_0 j ≤ 75) (hK_0_85 : ∀ j : Int, 0 ≤ j → j < 200 → 0 ≤ costW_0 j ∧ costW_0 j ≤ 72) (hK_0_86 : ∀ j : Int, 0 ≤ j → j < 200 → 0 ≤ costPlain_0 j ∧ costPlain_0 j ≤ 1) (hK_0_95 : ∀ j : Int, 0 ≤ j → j < 48 → 0 ≤ turned_0 j ∧ turned_0 j ≤ 1) (hK_0_102 : ∀ j : Int, 0 ≤ j → j < 76 → 0 ≤ itemLayer_0 j ∧ itemLayer_0 j ≤ 75) (hK_0_104 : ∀ j : Int, 0 ≤ j → j < 48 → 0 ≤ firstJoint_0 j ∧ firstJoint_0 j ≤ 76) (hK_0_105 : ∀ j : Int, 0 ≤ j → j < 76 → 0 ≤ layerSize_0 j ∧ layerSize_0 j ≤ 76) (hK_0_106 : ∀ j : Int, 0 ≤ j → j < 5776 → 0 ≤ layerItem_0 j ∧ layerItem_0 j ≤ 75) (hK_0_108 : ∀ j : Int, 0 ≤ j → j < 130 → 0 ≤ lineA_0 j ∧ lineA_0 j ≤ 75) (hK_0_109 : ∀ j : Int, 0 ≤ j → j < 130 → 0 ≤ lineB_0 j ∧ lineB_0 j ≤ 75) (kz_0_79 : 0 ≤ pointMany_0 ∧ pointMany_0 ≤ 76) (kz_0_80 : 0 ≤ costMany_0 ∧ costMany_0 ≤ 200) (kz_0_81 : 0 ≤ apartMany_0 ∧ apartMany_0 ≤ 200) (kz_0_100 : 0 ≤ items_0 ∧ items_0 ≤ 76) (kz_0_101 : 0 ≤ layerMany_0 ∧ layerMany_0 ≤ 76) (kz_0_107 : 0 ≤ lines_0 ∧ lines_0 ≤ 130) (ex2 : gx = x2) (ex3 : 0 ≤ gx ∧ gx ≤ 199) : PCQ (pointMany_0) (costMany_0) (costA_0) (costB_0) (costW_0) (costPlain_0) := by
  assumption
set_option maxHeartbeats 4000000 in
theorem vc_Mo_across2_7_4 (x2 : Int) (x3 : Int) (x5 : Int) (x6 : Int) (x9 : Int) (x10 : Int) (x13 : Int) (x15 : Int) (x16 : Int) (lineB_0 : Int → Int) (lineA_0 : Int → Int) (all_0 : Int → Int) (r_0 : Int) (lines_0 : Int) (turned_0 : Int → Int) (itemLayer_0 : Int → Int) (firstJoint_0 : Int → Int) (items_0 : Int) (layerMany_0 : Int) (layerSize_0 : Int → Int) (layerItem_0 : Int → Int) (pointMany_0 : Int) (costA_0 : Int → Int) (costB_0 : Int → Int) (costW_0 : Int → Int) (costPlain_0 : Int → Int) (costMany_0 : Int) (apartMany_0 : Int) (gx : Int) (k2 : 0 ≤ x2 ∧ x2 ≤ 129) (k3 : 1 ≤ x3 ∧ x3 ≤ 130) (k5 : 0 ≤ x5 ∧ x5 ≤ 75) (k6 : 0 ≤ x6 ∧ x6 ≤ 24) (k9 : 0 ≤ x9 ∧ x9 ≤ 23) (k10 : 1 ≤ x10 ∧ x10 ≤ 24) (k13 : 0 ≤ x13 ∧ x13 ≤ 75) (k15 : 0 ≤ x15 ∧ x15 ≤ 75) (k16 : 0 ≤ x16 ∧ x16 ≤ 75) (d0 : x10 + (-4294967296) ≤ x9 ∧ x9 ≤ x10 + (-1)) (d1 : x6 + 0 ≤ x5 ∧ x5 ≤ x6 + 4294967296) (d2 : x3 + (-4294967296) ≤ x2 ∧ x2 ≤ x3 + (-1)) (h0 : x16 = lineB_0 (x2)) (h2 : x15 = lineA_0 (x2)) (h4 : x13 = lineA_0 (x2)) (f5 : x9 < x10) (f6 : 1 * x10 + ((-1) * all_0 (r_0 + 0) + 0) ≤ 0) (f7 : (-1) * x10 + (1 * all_0 (r_0 + 0) + 0) ≤ 0) (h8 : x9 = lineB_0 (x2)) (f9 : x6 ≤ x5) (f10 : 1 * x6 + ((-1) * all_0 (r_0 + 0) + 0) ≤ 0) (f11 : (-1) * x6 + (1 * all_0 (r_0 + 0) + 0) ≤ 0) (h12 : x5 = lineA_0 (x2)) (f13 : x2 < x3) (g14 : x3 = lines_0) (f15 : LSA (r_0) (items_0) (layerMany_0) (lines_0) (all_0) (turned_0) (itemLayer_0) (firstJoint_0) (lineA_0) (lineB_0)) (f16 : LSB (items_0) (layerMany_0) (itemLayer_0) (layerSize_0) (layerItem_0)) (f17 : SGR (r_0) (all_0)) (f18 : pointMany_0 = items_0) (f19 : PCQ (pointMany_0) (costMany_0) (costA_0) (costB_0) (costW_0) (costPlain_0)) (f20 : costMany_0 = x2) (f21 : apartMany_0 = 0) (hK_0_83 : ∀ j : Int, 0 ≤ j → j < 200 → 0 ≤ costA_0 j ∧ costA_0 j ≤ 75) (hK_0_84 : ∀ j : Int, 0 ≤ j → j < 200 → 0 ≤ costB_0 j ∧ costB_0 j ≤ 75) (hK_0_85 : ∀ j : Int, 0 ≤ j → j < 200 → 0 ≤ costW_0 j ∧ costW_0 j ≤ 72) (hK_0_86 : ∀ j : Int, 0 ≤ j → j < 200 → 0 ≤ costPlain_0 j ∧ costPlain_0 j ≤ 1) (hK_0_95 : ∀ j : Int, 0 ≤ j → j < 48 → 0 ≤ turned_0 j ∧ turned_0 j ≤ 1) (hK_0_102 : ∀ j : Int, 0 ≤ j → j < 76 → 0 ≤ itemLayer_0 j ∧ itemLayer_0 j ≤ 75) (hK_0_104 : ∀ j : Int, 0 ≤ j → j < 48 → 0 ≤ firstJoint_0 j ∧ firstJoint_0 j ≤ 76) (hK_0_105 : ∀ j : Int, 0 ≤ j → j < 76 → 0 ≤ layerSize_0 j ∧ layerSize_0 j ≤ 76) (hK_0_106 : ∀ j : Int, 0 ≤ j → j < 5776 → 0 ≤ layerItem_0 j ∧ layerItem_0 j ≤ 75) (hK_0_108 : ∀ j : Int, 0 ≤ j → j < 130 → 0 ≤ lineA_0 j ∧ lineA_0 j ≤ 75) (hK_0_109 : ∀ j : Int, 0 ≤ j → j < 130 → 0 ≤ lineB_0 j ∧ lineB_0 j ≤ 75) (kz_0_79 : 0 ≤ pointMany_0 ∧ pointMany_0 ≤ 76) (kz_0_80 : 0 ≤ costMany_0 ∧ costMany_0 ≤ 200) (kz_0_81 : 0 ≤ apartMany_0 ∧ apartMany_0 ≤ 200) (kz_0_100 : 0 ≤ items_0 ∧ items_0 ≤ 76) (kz_0_101 : 0 ≤ layerMany_0 ∧ layerMany_0 ≤ 76) (kz_0_107 : 0 ≤ lines_0 ∧ lines_0 ≤ 130) (ex2 : gx = x2) (ex3 : 0 ≤ gx ∧ gx ≤ 199) : (0 ≤ x15) ∧ ((x15 + 1) ≤ pointMany_0) := by
  try simp only [Int.add_zero] at *
  first
    | omega
    | (have h := ‹LSA _ _ _ _ _ _ _ _ _ _›.2.1; omega)
    | (have h := lsa_la (p := x2) (x := x15) ‹LSA _ _ _ _ _ _ _ _ _ _› (by omega) (by omega) (by assumption); omega)
    | (have h := lsa_lb (p := x2) (x := x16) ‹LSA _ _ _ _ _ _ _ _ _ _› (by omega) (by omega) (by assumption); omega)
set_option maxHeartbeats 4000000 in
theorem vc_Mo_across2_7_5 (x2 : Int) (x3 : Int) (x5 : Int) (x6 : Int) (x9 : Int) (x10 : Int) (x13 : Int) (x15 : Int) (x16 : Int) (lineB_0 : Int → Int) (lineA_0 : Int → Int) (all_0 : Int → Int) (r_0 : Int) (lines_0 : Int) (turned_0 : Int → Int) (itemLayer_0 : Int → Int) (firstJoint_0 : Int → Int) (items_0 : Int) (layerMany_0 : Int) (layerSize_0 : Int → Int) (layerItem_0 : Int → Int) (pointMany_0 : Int) (costA_0 : Int → Int) (costB_0 : Int → Int) (costW_0 : Int → Int) (costPlain_0 : Int → Int) (costMany_0 : Int) (apartMany_0 : Int) (gx : Int) (k2 : 0 ≤ x2 ∧ x2 ≤ 129) (k3 : 1 ≤ x3 ∧ x3 ≤ 130) (k5 : 0 ≤ x5 ∧ x5 ≤ 75) (k6 : 0 ≤ x6 ∧ x6 ≤ 24) (k9 : 0 ≤ x9 ∧ x9 ≤ 23) (k10 : 1 ≤ x10 ∧ x10 ≤ 24) (k13 : 0 ≤ x13 ∧ x13 ≤ 75) (k15 : 0 ≤ x15 ∧ x15 ≤ 75) (k16 : 0 ≤ x16 ∧ x16 ≤ 75) (d0 : x10 + (-4294967296) ≤ x9 ∧ x9 ≤ x10 + (-1)) (d1 : x6 + 0 ≤ x5 ∧ x5 ≤ x6 + 4294967296) (d2 : x3 + (-4294967296) ≤ x2 ∧ x2 ≤ x3 + (-1)) (h0 : x16 = lineB_0 (x2)) (h2 : x15 = lineA_0 (x2)) (h4 : x13 = lineA_0 (x2)) (f5 : x9 < x10) (f6 : 1 * x10 + ((-1) * all_0 (r_0 + 0) + 0) ≤ 0) (f7 : (-1) * x10 + (1 * all_0 (r_0 + 0) + 0) ≤ 0) (h8 : x9 = lineB_0 (x2)) (f9 : x6 ≤ x5) (f10 : 1 * x6 + ((-1) * all_0 (r_0 + 0) + 0) ≤ 0) (f11 : (-1) * x6 + (1 * all_0 (r_0 + 0) + 0) ≤ 0) (h12 : x5 = lineA_0 (x2)) (f13 : x2 < x3) (g14 : x3 = lines_0) (f15 : LSA (r_0) (items_0) (layerMany_0) (lines_0) (all_0) (turned_0) (itemLayer_0) (firstJoint_0) (lineA_0) (lineB_0)) (f16 : LSB (items_0) (layerMany_0) (itemLayer_0) (layerSize_0) (layerItem_0)) (f17 : SGR (r_0) (all_0)) (f18 : pointMany_0 = items_0) (f19 : PCQ (pointMany_0) (costMany_0) (costA_0) (costB_0) (costW_0) (costPlain_0)) (f20 : costMany_0 = x2) (f21 : apartMany_0 = 0) (hK_0_83 : ∀ j : Int, 0 ≤ j → j < 200 → 0 ≤ costA_0 j ∧ costA_0 j ≤ 75) (hK_0_84 : ∀ j : Int, 0 ≤ j → j < 200 → 0 ≤ costB_0 j ∧ costB_0 j ≤ 75) (hK_0_85 : ∀ j : Int, 0 ≤ j → j < 200 → 0 ≤ costW_0 j ∧ costW_0 j ≤ 72) (hK_0_86 : ∀ j : Int, 0 ≤ j → j < 200 → 0 ≤ costPlain_0 j ∧ costPlain_0 j ≤ 1) (hK_0_95 : ∀ j : Int, 0 ≤ j → j < 48 → 0 ≤ turned_0 j ∧ turned_0 j ≤ 1) (hK_0_102 : ∀ j : Int, 0 ≤ j → j < 76 → 0 ≤ itemLayer_0 j ∧ itemLayer_0 j ≤ 75) (hK_0_104 : ∀ j : Int, 0 ≤ j → j < 48 → 0 ≤ firstJoint_0 j ∧ firstJoint_0 j ≤ 76) (hK_0_105 : ∀ j : Int, 0 ≤ j → j < 76 → 0 ≤ layerSize_0 j ∧ layerSize_0 j ≤ 76) (hK_0_106 : ∀ j : Int, 0 ≤ j → j < 5776 → 0 ≤ layerItem_0 j ∧ layerItem_0 j ≤ 75) (hK_0_108 : ∀ j : Int, 0 ≤ j → j < 130 → 0 ≤ lineA_0 j ∧ lineA_0 j ≤ 75) (hK_0_109 : ∀ j : Int, 0 ≤ j → j < 130 → 0 ≤ lineB_0 j ∧ lineB_0 j ≤ 75) (kz_0_79 : 0 ≤ pointMany_0 ∧ pointMany_0 ≤ 76) (kz_0_80 : 0 ≤ costMany_0 ∧ costMany_0 ≤ 200) (kz_0_81 : 0 ≤ apartMany_0 ∧ apartMany_0 ≤ 200) (kz_0_100 : 0 ≤ items_0 ∧ items_0 ≤ 76) (kz_0_101 : 0 ≤ layerMany_0 ∧ layerMany_0 ≤ 76) (kz_0_107 : 0 ≤ lines_0 ∧ lines_0 ≤ 130) (ex2 : gx = x2) (ex3 : 0 ≤ gx ∧ gx ≤ 199) : (0 ≤ x16) ∧ ((x16 + 1) ≤ pointMany_0) := by
  try simp only [Int.add_zero] at *
  first
    | omega
    | (have h := ‹LSA _ _ _ _ _ _ _ _ _ _›.2.1; omega)
    | (have h := lsa_la (p := x2) (x := x15) ‹LSA _ _ _ _ _ _ _ _ _ _› (by omega) (by omega) (by assumption); omega)
    | (have h := lsa_lb (p := x2) (x := x16) ‹LSA _ _ _ _ _ _ _ _ _ _› (by omega) (by omega) (by assumption); omega)
def o_Mo_across2_7 : or_T := (167, 21, [(0, (2, 0, 0, [150])), (1, (2, 0, 0, [150])), (2, (0, 0, 129, [])), (3, (0, 1, 130, [])), (4, (2, 0, 0, [225])), (5, (0, 0, 75, [])), (6, (0, 0, 24, [])), (8, (2, 0, 0, [226])), (9, (0, 0, 23, [])), (10, (0, 1, 24, [])), (13, (0, 0, 75, [])), (15, (0, 0, 75, [])), (16, (0, 0, 75, []))], [(10, [16, 8, 2], []), (9, [8, 1], [109]), (10, [15, 4, 2], []), (9, [4, 1], [108]), (10, [13, 4, 2], []), (7, [9, 10], [2]), (20, [10, 1], [30, 0, 1, 0, 0, -1, 3, 2005000]), (20, [10, 1], [30, 0, -1, 0, 0, 1, 3, 2005000]), (10, [9, 8, 2], []), (7, [5, 6], [3]), (20, [6, 1], [30, 0, 1, 0, 0, -1, 3, 2005000]), (20, [6, 1], [30, 0, -1, 0, 0, 1, 3, 2005000]), (10, [5, 4, 2], []), (7, [2, 3], [2]), (9, [3, 1], [107]), (20, [1], [60, 4, 6, 369, 5, 100, 101, 107, 2, 95, 102, 104, 108, 109]), (20, [1], [60, 2, 3, 372, 100, 101, 102, 105, 106]), (20, [1], [60, 1, 1, 122, 5, 2]), (20, [1], [50, 2, 0, 79, 100, 1, 3, 2, 0, 79, 2, 0, 100]), (20, [1], [60, 2, 4, 380, 79, 80, 83, 84, 85, 86]), (20, [1, 2], [50, 1, 0, 80, 1, 3, 2, 0, 80, 1, 1]), (20, [1], [50, 1, 0, 81, 1, 3, 2, 0, 81, 0, 0]), (24, [0, 1], [])], [], [(0, 0, 199, [])], [(23, [21, 2], [0, 1, -1]), (23, [21, 2], [0, -1, 1]), (20, [1, 21], [50, 1, 0, 80, 1, 3, 2, 0, 80, 1, 1]), (20, [1], [60, 2, 4, 380, 79, 80, 83, 84, 85, 86]), (20, [15, 1], [50, 1, 0, 1079, 2, 6, 0, 2, 0, 0, 1, 0, 0, 6, 4, 2, 1, 0, 0, 1, 2, 1, 79]), (20, [16, 1], [50, 1, 0, 1079, 2, 6, 0, 2, 0, 0, 1, 0, 0, 6, 4, 2, 1, 0, 0, 1, 2, 1, 79])], [], [(9, 10, -4294967296, -1), (5, 6, 0, 4294967296), (2, 3, -4294967296, -1)])
theorem oo_Mo_across2_7 {kA : Nat → ClassId} : or_ok PRD kA GG o_Mo_across2_7 := by
  intro A ta ws vs hD hth hl hk hds hf
  have hl : vs.length = 21 := hl
  have hk : ∀ q ∈ ([(0, (2, 0, 0, [150])), (1, (2, 0, 0, [150])), (2, (0, 0, 129, [])), (3, (0, 1, 130, [])), (4, (2, 0, 0, [225])), (5, (0, 0, 75, [])), (6, (0, 0, 24, [])), (8, (2, 0, 0, [226])), (9, (0, 0, 23, [])), (10, (0, 1, 24, [])), (13, (0, 0, 75, [])), (15, (0, 0, 75, [])), (16, (0, 0, 75, []))] : List (Nat × tv_T)), tv_ok ta q.2 (n_v vs q.1) := hk
  obtain ⟨t0, hk⟩ := List.forall_mem_cons.mp hk
  have t0 : tv_ok ta (2, 0, 0, [150]) (n_v vs 0) := t0
  have r0 : ta (v_ad (n_v vs 0)) = some 150 := tv_rg t0
  obtain ⟨t1, hk⟩ := List.forall_mem_cons.mp hk
  have t1 : tv_ok ta (2, 0, 0, [150]) (n_v vs 1) := t1
  have r1 : ta (v_ad (n_v vs 1)) = some 150 := tv_rg t1
  obtain ⟨t2, hk⟩ := List.forall_mem_cons.mp hk
  have t2 : tv_ok ta (0, 0, 129, []) (n_v vs 2) := t2
  have k2 : 0 ≤ v_iv (n_v vs 2) ∧ v_iv (n_v vs 2) ≤ 129 := tv_rng t2
  obtain ⟨t3, hk⟩ := List.forall_mem_cons.mp hk
  have t3 : tv_ok ta (0, 1, 130, []) (n_v vs 3) := t3
  have k3 : 1 ≤ v_iv (n_v vs 3) ∧ v_iv (n_v vs 3) ≤ 130 := tv_rng t3
  obtain ⟨t4, hk⟩ := List.forall_mem_cons.mp hk
  have t4 : tv_ok ta (2, 0, 0, [225]) (n_v vs 4) := t4
  have r4 : ta (v_ad (n_v vs 4)) = some 225 := tv_rg t4
  obtain ⟨t5, hk⟩ := List.forall_mem_cons.mp hk
  have t5 : tv_ok ta (0, 0, 75, []) (n_v vs 5) := t5
  have k5 : 0 ≤ v_iv (n_v vs 5) ∧ v_iv (n_v vs 5) ≤ 75 := tv_rng t5
  obtain ⟨t6, hk⟩ := List.forall_mem_cons.mp hk
  have t6 : tv_ok ta (0, 0, 24, []) (n_v vs 6) := t6
  have k6 : 0 ≤ v_iv (n_v vs 6) ∧ v_iv (n_v vs 6) ≤ 24 := tv_rng t6
  obtain ⟨t8, hk⟩ := List.forall_mem_cons.mp hk
  have t8 : tv_ok ta (2, 0, 0, [226]) (n_v vs 8) := t8
  have r8 : ta (v_ad (n_v vs 8)) = some 226 := tv_rg t8
  obtain ⟨t9, hk⟩ := List.forall_mem_cons.mp hk
  have t9 : tv_ok ta (0, 0, 23, []) (n_v vs 9) := t9
  have k9 : 0 ≤ v_iv (n_v vs 9) ∧ v_iv (n_v vs 9) ≤ 23 := tv_rng t9
  obtain ⟨t10, hk⟩ := List.forall_mem_cons.mp hk
  have t10 : tv_ok ta (0, 1, 24, []) (n_v vs 10) := t10
  have k10 : 1 ≤ v_iv (n_v vs 10) ∧ v_iv (n_v vs 10) ≤ 24 := tv_rng t10
  obtain ⟨t13, hk⟩ := List.forall_mem_cons.mp hk
  have t13 : tv_ok ta (0, 0, 75, []) (n_v vs 13) := t13
  have k13 : 0 ≤ v_iv (n_v vs 13) ∧ v_iv (n_v vs 13) ≤ 75 := tv_rng t13
  obtain ⟨t15, hk⟩ := List.forall_mem_cons.mp hk
  have t15 : tv_ok ta (0, 0, 75, []) (n_v vs 15) := t15
  have k15 : 0 ≤ v_iv (n_v vs 15) ∧ v_iv (n_v vs 15) ≤ 75 := tv_rng t15
  obtain ⟨t16, hk⟩ := List.forall_mem_cons.mp hk
  have t16 : tv_ok ta (0, 0, 75, []) (n_v vs 16) := t16
  have k16 : 0 ≤ v_iv (n_v vs 16) ∧ v_iv (n_v vs 16) ≤ 75 := tv_rng t16
  have hds : ∀ q ∈ ([(9, 10, -4294967296, -1), (5, 6, 0, 4294967296), (2, 3, -4294967296, -1)] : List of_T), n_iv vs q.2.1 + q.2.2.1 ≤ n_iv vs q.1 ∧ n_iv vs q.1 ≤ n_iv vs q.2.1 + q.2.2.2 := hds
  obtain ⟨d0, hds⟩ := List.forall_mem_cons.mp hds
  have d0 : v_iv (n_v vs 10) + (-4294967296) ≤ v_iv (n_v vs 9) ∧ v_iv (n_v vs 9) ≤ v_iv (n_v vs 10) + (-1) := d0
  obtain ⟨d1, hds⟩ := List.forall_mem_cons.mp hds
  have d1 : v_iv (n_v vs 6) + 0 ≤ v_iv (n_v vs 5) ∧ v_iv (n_v vs 5) ≤ v_iv (n_v vs 6) + 4294967296 := d1
  obtain ⟨d2, hds⟩ := List.forall_mem_cons.mp hds
  have d2 : v_iv (n_v vs 3) + (-4294967296) ≤ v_iv (n_v vs 2) ∧ v_iv (n_v vs 2) ≤ v_iv (n_v vs 3) + (-1) := d2
  have hf : fc_ok PRD [(10, [16, 8, 2], []), (9, [8, 1], [109]), (10, [15, 4, 2], []), (9, [4, 1], [108]), (10, [13, 4, 2], []), (7, [9, 10], [2]), (20, [10, 1], [30, 0, 1, 0, 0, -1, 3, 2005000]), (20, [10, 1], [30, 0, -1, 0, 0, 1, 3, 2005000]), (10, [9, 8, 2], []), (7, [5, 6], [3]), (20, [6, 1], [30, 0, 1, 0, 0, -1, 3, 2005000]), (20, [6, 1], [30, 0, -1, 0, 0, 1, 3, 2005000]), (10, [5, 4, 2], []), (7, [2, 3], [2]), (9, [3, 1], [107]), (20, [1], [60, 4, 6, 369, 5, 100, 101, 107, 2, 95, 102, 104, 108, 109]), (20, [1], [60, 2, 3, 372, 100, 101, 102, 105, 106]), (20, [1], [60, 1, 1, 122, 5, 2]), (20, [1], [50, 2, 0, 79, 100, 1, 3, 2, 0, 79, 2, 0, 100]), (20, [1], [60, 2, 4, 380, 79, 80, 83, 84, 85, 86]), (20, [1, 2], [50, 1, 0, 80, 1, 3, 2, 0, 80, 1, 1]), (20, [1], [50, 1, 0, 81, 1, 3, 2, 0, 81, 0, 0]), (24, [0, 1], [])] ta ws vs := hf
  obtain ⟨f0, hf⟩ := fc_un (show (10 : Nat) < 100 from by decide) hf
  have f0 : v_iv (n_v vs 16) = w_el ws (v_ad (n_v vs 8)) (v_iv (n_v vs 2)).toNat := f0
  obtain ⟨f1, hf⟩ := fc_un (show (9 : Nat) < 100 from by decide) hf
  have f1 : n_v vs 8 = w_fd ws (v_ad (n_v vs 1)) 109 := f1
  obtain ⟨f2, hf⟩ := fc_un (show (10 : Nat) < 100 from by decide) hf
  have f2 : v_iv (n_v vs 15) = w_el ws (v_ad (n_v vs 4)) (v_iv (n_v vs 2)).toNat := f2
  obtain ⟨f3, hf⟩ := fc_un (show (9 : Nat) < 100 from by decide) hf
  have f3 : n_v vs 4 = w_fd ws (v_ad (n_v vs 1)) 108 := f3
  obtain ⟨f4, hf⟩ := fc_un (show (10 : Nat) < 100 from by decide) hf
  have f4 : v_iv (n_v vs 13) = w_el ws (v_ad (n_v vs 4)) (v_iv (n_v vs 2)).toNat := f4
  obtain ⟨f5, hf⟩ := fc_un (show (7 : Nat) < 100 from by decide) hf
  have f5 : v_iv (n_v vs 9) < v_iv (n_v vs 10) := f5
  obtain ⟨f6, hf⟩ := fc_un (show (20 : Nat) < 100 from by decide) hf
  have f6 : 1 * v_iv (n_v vs 10) + ((-1) * w_el ws (w_ar ws (n_v vs 1) 2) (w_fi ws (n_v vs 1) 5 + 0).toNat + 0) ≤ 0 := f6
  obtain ⟨f7, hf⟩ := fc_un (show (20 : Nat) < 100 from by decide) hf
  have f7 : (-1) * v_iv (n_v vs 10) + (1 * w_el ws (w_ar ws (n_v vs 1) 2) (w_fi ws (n_v vs 1) 5 + 0).toNat + 0) ≤ 0 := f7
  obtain ⟨f8, hf⟩ := fc_un (show (10 : Nat) < 100 from by decide) hf
  have f8 : v_iv (n_v vs 9) = w_el ws (v_ad (n_v vs 8)) (v_iv (n_v vs 2)).toNat := f8
  obtain ⟨f9, hf⟩ := fc_un (show (7 : Nat) < 100 from by decide) hf
  have f9 : v_iv (n_v vs 6) ≤ v_iv (n_v vs 5) := f9
  obtain ⟨f10, hf⟩ := fc_un (show (20 : Nat) < 100 from by decide) hf
  have f10 : 1 * v_iv (n_v vs 6) + ((-1) * w_el ws (w_ar ws (n_v vs 1) 2) (w_fi ws (n_v vs 1) 5 + 0).toNat + 0) ≤ 0 := f10
  obtain ⟨f11, hf⟩ := fc_un (show (20 : Nat) < 100 from by decide) hf
  have f11 : (-1) * v_iv (n_v vs 6) + (1 * w_el ws (w_ar ws (n_v vs 1) 2) (w_fi ws (n_v vs 1) 5 + 0).toNat + 0) ≤ 0 := f11
  obtain ⟨f12, hf⟩ := fc_un (show (10 : Nat) < 100 from by decide) hf
  have f12 : v_iv (n_v vs 5) = w_el ws (v_ad (n_v vs 4)) (v_iv (n_v vs 2)).toNat := f12
  obtain ⟨f13, hf⟩ := fc_un (show (7 : Nat) < 100 from by decide) hf
  have f13 : v_iv (n_v vs 2) < v_iv (n_v vs 3) := f13
  obtain ⟨f14, hf⟩ := fc_un (show (9 : Nat) < 100 from by decide) hf
  have f14 : n_v vs 3 = w_fd ws (v_ad (n_v vs 1)) 107 := f14
  obtain ⟨f15, hf⟩ := fc_un (show (20 : Nat) < 100 from by decide) hf
  have f15 : LSA (w_fi ws (n_v vs 1) 5) (w_fi ws (n_v vs 1) 100) (w_fi ws (n_v vs 1) 101) (w_fi ws (n_v vs 1) 107) (w_ei ws (w_ar ws (n_v vs 1) 2)) (w_ei ws (w_ar ws (n_v vs 1) 95)) (w_ei ws (w_ar ws (n_v vs 1) 102)) (w_ei ws (w_ar ws (n_v vs 1) 104)) (w_ei ws (w_ar ws (n_v vs 1) 108)) (w_ei ws (w_ar ws (n_v vs 1) 109)) := f15
  obtain ⟨f16, hf⟩ := fc_un (show (20 : Nat) < 100 from by decide) hf
  have f16 : LSB (w_fi ws (n_v vs 1) 100) (w_fi ws (n_v vs 1) 101) (w_ei ws (w_ar ws (n_v vs 1) 102)) (w_ei ws (w_ar ws (n_v vs 1) 105)) (w_ei ws (w_ar ws (n_v vs 1) 106)) := f16
  obtain ⟨f17, hf⟩ := fc_un (show (20 : Nat) < 100 from by decide) hf
  have f17 : SGR (w_fi ws (n_v vs 1) 5) (w_ei ws (w_ar ws (n_v vs 1) 2)) := f17
  obtain ⟨f18, hf⟩ := fc_un (show (20 : Nat) < 100 from by decide) hf
  have f18 : w_fi ws (n_v vs 1) 79 = w_fi ws (n_v vs 1) 100 := f18
  obtain ⟨f19, hf⟩ := fc_un (show (20 : Nat) < 100 from by decide) hf
  have f19 : PCQ (w_fi ws (n_v vs 1) 79) (w_fi ws (n_v vs 1) 80) (w_ei ws (w_ar ws (n_v vs 1) 83)) (w_ei ws (w_ar ws (n_v vs 1) 84)) (w_ei ws (w_ar ws (n_v vs 1) 85)) (w_ei ws (w_ar ws (n_v vs 1) 86)) := f19
  obtain ⟨f20, hf⟩ := fc_un (show (20 : Nat) < 100 from by decide) hf
  have f20 : w_fi ws (n_v vs 1) 80 = v_iv (n_v vs 2) := f20
  obtain ⟨f21, hf⟩ := fc_un (show (20 : Nat) < 100 from by decide) hf
  have f21 : w_fi ws (n_v vs 1) 81 = 0 := f21
  obtain ⟨f22, hf⟩ := fc_un (show (24 : Nat) < 100 from by decide) hf
  have f22 : n_v vs 0 = n_v vs 1 := f22
  have q1 : n_v vs 1 = n_v vs 0 := f22.symm
  rw [q1] at f1
  rw [q1] at f3
  rw [q1] at f6
  rw [q1] at f7
  rw [q1] at f10
  rw [q1] at f11
  rw [q1] at f14
  rw [q1] at f15
  rw [q1] at f16
  rw [q1] at f17
  rw [q1] at f18
  rw [q1] at f19
  rw [q1] at f20
  rw [q1] at f21
  have cr_0_2 : ta (w_ar ws (n_v vs 0) 2) = some 152 := tv_rg (th_fd hD hth r0 (g := GG_150) rfl (k := 2) (t := (2, 0, 0, [152])) rfl rfl)
  have cr_0_83 : ta (w_ar ws (n_v vs 0) 83) = some 205 := tv_rg (th_fd hD hth r0 (g := GG_150) rfl (k := 83) (t := (2, 0, 0, [205])) rfl rfl)
  have cr_0_84 : ta (w_ar ws (n_v vs 0) 84) = some 206 := tv_rg (th_fd hD hth r0 (g := GG_150) rfl (k := 84) (t := (2, 0, 0, [206])) rfl rfl)
  have cr_0_85 : ta (w_ar ws (n_v vs 0) 85) = some 207 := tv_rg (th_fd hD hth r0 (g := GG_150) rfl (k := 85) (t := (2, 0, 0, [207])) rfl rfl)
  have cr_0_86 : ta (w_ar ws (n_v vs 0) 86) = some 208 := tv_rg (th_fd hD hth r0 (g := GG_150) rfl (k := 86) (t := (2, 0, 0, [208])) rfl rfl)
  have cr_0_95 : ta (w_ar ws (n_v vs 0) 95) = some 216 := tv_rg (th_fd hD hth r0 (g := GG_150) rfl (k := 95) (t := (2, 0, 0, [216])) rfl rfl)
  have cr_0_102 : ta (w_ar ws (n_v vs 0) 102) = some 220 := tv_rg (th_fd hD hth r0 (g := GG_150) rfl (k := 102) (t := (2, 0, 0, [220])) rfl rfl)
  have cr_0_104 : ta (w_ar ws (n_v vs 0) 104) = some 222 := tv_rg (th_fd hD hth r0 (g := GG_150) rfl (k := 104) (t := (2, 0, 0, [222])) rfl rfl)
  have cr_0_105 : ta (w_ar ws (n_v vs 0) 105) = some 223 := tv_rg (th_fd hD hth r0 (g := GG_150) rfl (k := 105) (t := (2, 0, 0, [223])) rfl rfl)
  have cr_0_106 : ta (w_ar ws (n_v vs 0) 106) = some 224 := tv_rg (th_fd hD hth r0 (g := GG_150) rfl (k := 106) (t := (2, 0, 0, [224])) rfl rfl)
  have cr_0_108 : ta (w_ar ws (n_v vs 0) 108) = some 225 := tv_rg (th_fd hD hth r0 (g := GG_150) rfl (k := 108) (t := (2, 0, 0, [225])) rfl rfl)
  have cr_0_109 : ta (w_ar ws (n_v vs 0) 109) = some 226 := tv_rg (th_fd hD hth r0 (g := GG_150) rfl (k := 109) (t := (2, 0, 0, [226])) rfl rfl)
  have ad_8 : v_ad (n_v vs 8) = w_ar ws (n_v vs 0) 109 := congrArg v_ad f1
  have ad_4 : v_ad (n_v vs 4) = w_ar ws (n_v vs 0) 108 := congrArg v_ad f3
  rw [ad_8] at f0
  have h0 : v_iv (n_v vs 16) = w_ei ws (w_ar ws (n_v vs 0) 109) (v_iv (n_v vs 2)) := f0
  rw [ad_4] at f2
  have h2 : v_iv (n_v vs 15) = w_ei ws (w_ar ws (n_v vs 0) 108) (v_iv (n_v vs 2)) := f2
  rw [ad_4] at f4
  have h4 : v_iv (n_v vs 13) = w_ei ws (w_ar ws (n_v vs 0) 108) (v_iv (n_v vs 2)) := f4
  rw [ad_8] at f8
  have h8 : v_iv (n_v vs 9) = w_ei ws (w_ar ws (n_v vs 0) 109) (v_iv (n_v vs 2)) := f8
  rw [ad_4] at f12
  have h12 : v_iv (n_v vs 5) = w_ei ws (w_ar ws (n_v vs 0) 108) (v_iv (n_v vs 2)) := f12
  have g14 : v_iv (n_v vs 3) = w_fi ws (n_v vs 0) 107 := congrArg v_iv f14
  have hK_0_83 : ∀ j : Int, 0 ≤ j → j < 200 → 0 ≤ w_ei ws (w_ar ws (n_v vs 0) 83) j ∧ w_ei ws (w_ar ws (n_v vs 0) 83) j ≤ 75 := fun j h0 h1 => th_el hD hth cr_0_83 (kd := 0) (n := 200) (m := 200) (lo := 0) (hi := 75) (rs := []) (L := []) rfl (by decide) (j := j.toNat) (by omega)
  have hK_0_84 : ∀ j : Int, 0 ≤ j → j < 200 → 0 ≤ w_ei ws (w_ar ws (n_v vs 0) 84) j ∧ w_ei ws (w_ar ws (n_v vs 0) 84) j ≤ 75 := fun j h0 h1 => th_el hD hth cr_0_84 (kd := 0) (n := 200) (m := 200) (lo := 0) (hi := 75) (rs := []) (L := []) rfl (by decide) (j := j.toNat) (by omega)
  have hK_0_85 : ∀ j : Int, 0 ≤ j → j < 200 → 0 ≤ w_ei ws (w_ar ws (n_v vs 0) 85) j ∧ w_ei ws (w_ar ws (n_v vs 0) 85) j ≤ 72 := fun j h0 h1 => th_el hD hth cr_0_85 (kd := 0) (n := 200) (m := 200) (lo := 0) (hi := 72) (rs := []) (L := []) rfl (by decide) (j := j.toNat) (by omega)
  have hK_0_86 : ∀ j : Int, 0 ≤ j → j < 200 → 0 ≤ w_ei ws (w_ar ws (n_v vs 0) 86) j ∧ w_ei ws (w_ar ws (n_v vs 0) 86) j ≤ 1 := fun j h0 h1 => th_el hD hth cr_0_86 (kd := 2) (n := 200) (m := 200) (lo := 0) (hi := 1) (rs := []) (L := []) rfl (by decide) (j := j.toNat) (by omega)
  have hK_0_95 : ∀ j : Int, 0 ≤ j → j < 48 → 0 ≤ w_ei ws (w_ar ws (n_v vs 0) 95) j ∧ w_ei ws (w_ar ws (n_v vs 0) 95) j ≤ 1 := fun j h0 h1 => th_el hD hth cr_0_95 (kd := 2) (n := 48) (m := 48) (lo := 0) (hi := 1) (rs := []) (L := []) rfl (by decide) (j := j.toNat) (by omega)
  have hK_0_102 : ∀ j : Int, 0 ≤ j → j < 76 → 0 ≤ w_ei ws (w_ar ws (n_v vs 0) 102) j ∧ w_ei ws (w_ar ws (n_v vs 0) 102) j ≤ 75 := fun j h0 h1 => th_el hD hth cr_0_102 (kd := 0) (n := 76) (m := 76) (lo := 0) (hi := 75) (rs := []) (L := []) rfl (by decide) (j := j.toNat) (by omega)
  have hK_0_104 : ∀ j : Int, 0 ≤ j → j < 48 → 0 ≤ w_ei ws (w_ar ws (n_v vs 0) 104) j ∧ w_ei ws (w_ar ws (n_v vs 0) 104) j ≤ 76 := fun j h0 h1 => th_el hD hth cr_0_104 (kd := 0) (n := 48) (m := 48) (lo := 0) (hi := 76) (rs := []) (L := []) rfl (by decide) (j := j.toNat) (by omega)
  have hK_0_105 : ∀ j : Int, 0 ≤ j → j < 76 → 0 ≤ w_ei ws (w_ar ws (n_v vs 0) 105) j ∧ w_ei ws (w_ar ws (n_v vs 0) 105) j ≤ 76 := fun j h0 h1 => th_el hD hth cr_0_105 (kd := 0) (n := 76) (m := 76) (lo := 0) (hi := 76) (rs := []) (L := []) rfl (by decide) (j := j.toNat) (by omega)
  have hK_0_106 : ∀ j : Int, 0 ≤ j → j < 5776 → 0 ≤ w_ei ws (w_ar ws (n_v vs 0) 106) j ∧ w_ei ws (w_ar ws (n_v vs 0) 106) j ≤ 75 := fun j h0 h1 => th_el hD hth cr_0_106 (kd := 0) (n := 5776) (m := 5776) (lo := 0) (hi := 75) (rs := []) (L := []) rfl (by decide) (j := j.toNat) (by omega)
  have hK_0_108 : ∀ j : Int, 0 ≤ j → j < 130 → 0 ≤ w_ei ws (w_ar ws (n_v vs 0) 108) j ∧ w_ei ws (w_ar ws (n_v vs 0) 108) j ≤ 75 := fun j h0 h1 => th_el hD hth cr_0_108 (kd := 0) (n := 130) (m := 130) (lo := 0) (hi := 75) (rs := []) (L := []) rfl (by decide) (j := j.toNat) (by omega)
  have hK_0_109 : ∀ j : Int, 0 ≤ j → j < 130 → 0 ≤ w_ei ws (w_ar ws (n_v vs 0) 109) j ∧ w_ei ws (w_ar ws (n_v vs 0) 109) j ≤ 75 := fun j h0 h1 => th_el hD hth cr_0_109 (kd := 0) (n := 130) (m := 130) (lo := 0) (hi := 75) (rs := []) (L := []) rfl (by decide) (j := j.toNat) (by omega)
  have kz_0_79 : 0 ≤ w_fi ws (n_v vs 0) 79 ∧ w_fi ws (n_v vs 0) 79 ≤ 76 := tv_rng (th_fd hD hth r0 (g := GG_150) rfl (k := 79) (t := (0, 0, 76, [])) rfl rfl)
  have kz_0_80 : 0 ≤ w_fi ws (n_v vs 0) 80 ∧ w_fi ws (n_v vs 0) 80 ≤ 200 := tv_rng (th_fd hD hth r0 (g := GG_150) rfl (k := 80) (t := (0, 0, 200, [])) rfl rfl)
  have kz_0_81 : 0 ≤ w_fi ws (n_v vs 0) 81 ∧ w_fi ws (n_v vs 0) 81 ≤ 200 := tv_rng (th_fd hD hth r0 (g := GG_150) rfl (k := 81) (t := (0, 0, 200, [])) rfl rfl)
  have kz_0_100 : 0 ≤ w_fi ws (n_v vs 0) 100 ∧ w_fi ws (n_v vs 0) 100 ≤ 76 := tv_rng (th_fd hD hth r0 (g := GG_150) rfl (k := 100) (t := (0, 0, 76, [])) rfl rfl)
  have kz_0_101 : 0 ≤ w_fi ws (n_v vs 0) 101 ∧ w_fi ws (n_v vs 0) 101 ≤ 76 := tv_rng (th_fd hD hth r0 (g := GG_150) rfl (k := 101) (t := (0, 0, 76, [])) rfl rfl)
  have kz_0_107 : 0 ≤ w_fi ws (n_v vs 0) 107 ∧ w_fi ws (n_v vs 0) 107 ≤ 130 := tv_rng (th_fd hD hth r0 (g := GG_150) rfl (k := 107) (t := (0, 0, 130, [])) rfl rfl)
  obtain ⟨x, ex, hx⟩ := iv_ex (ta := ta) (lo := 0) (hi := 199) (z := v_iv (n_v vs 2)) (by omega) (by omega) (by omega) (by omega)
  have ex2 : v_iv (Value.int x) = v_iv (n_v vs 2) := ex
  have ex3 : 0 ≤ v_iv (Value.int x) ∧ v_iv (Value.int x) ≤ 199 := tv_rng hx
  have e_1 : n_v (vs ++ [Value.int x]) 1 = n_v vs 1 := n_v_old (by rw [hl]; decide)
  have e_2 : n_v (vs ++ [Value.int x]) 2 = n_v vs 2 := n_v_old (by rw [hl]; decide)
  have e_15 : n_v (vs ++ [Value.int x]) 15 = n_v vs 15 := n_v_old (by rw [hl]; decide)
  have e_16 : n_v (vs ++ [Value.int x]) 16 = n_v vs 16 := n_v_old (by rw [hl]; decide)
  have e_21 : n_v (vs ++ [Value.int x]) 21 = Value.int x := n_v_new hl
  have nf0 : fc_1 PRD (23, [21, 2], [0, 1, -1]) ws (vs ++ [Value.int x]) := by
    refine ⟨fun n hn => ?_, ?_⟩
    · have hn : n ∈ [21, 2] := hn
      rw [List.length_append, hl]
      simp only [List.mem_cons, List.not_mem_nil, or_false] at hn
      show n < 21 + 1; omega
    · show 1 * v_iv (n_v (vs ++ [Value.int x]) 21) + ((-1) * v_iv (n_v (vs ++ [Value.int x]) 2) + 0) ≤ 0
      rw [e_2]
      rw [e_21]
      exact vc_Mo_across2_7_0 (v_iv (n_v vs 2)) (v_iv (n_v vs 3)) (v_iv (n_v vs 5)) (v_iv (n_v vs 6)) (v_iv (n_v vs 9)) (v_iv (n_v vs 10)) (v_iv (n_v vs 13)) (v_iv (n_v vs 15)) (v_iv (n_v vs 16)) (w_ei ws (w_ar ws (n_v vs 0) 109)) (w_ei ws (w_ar ws (n_v vs 0) 108)) (w_ei ws (w_ar ws (n_v vs 0) 2)) (w_fi ws (n_v vs 0) 5) (w_fi ws (n_v vs 0) 107) (w_ei ws (w_ar ws (n_v vs 0) 95)) (w_ei ws (w_ar ws (n_v vs 0) 102)) (w_ei ws (w_ar ws (n_v vs 0) 104)) (w_fi ws (n_v vs 0) 100) (w_fi ws (n_v vs 0) 101) (w_ei ws (w_ar ws (n_v vs 0) 105)) (w_ei ws (w_ar ws (n_v vs 0) 106)) (w_fi ws (n_v vs 0) 79) (w_ei ws (w_ar ws (n_v vs 0) 83)) (w_ei ws (w_ar ws (n_v vs 0) 84)) (w_ei ws (w_ar ws (n_v vs 0) 85)) (w_ei ws (w_ar ws (n_v vs 0) 86)) (w_fi ws (n_v vs 0) 80) (w_fi ws (n_v vs 0) 81) (v_iv (Value.int x)) k2 k3 k5 k6 k9 k10 k13 k15 k16 d0 d1 d2 h0 h2 h4 f5 f6 f7 h8 f9 f10 f11 h12 f13 g14 f15 f16 f17 f18 f19 f20 f21 hK_0_83 hK_0_84 hK_0_85 hK_0_86 hK_0_95 hK_0_102 hK_0_104 hK_0_105 hK_0_106 hK_0_108 hK_0_109 kz_0_79 kz_0_80 kz_0_81 kz_0_100 kz_0_101 kz_0_107 ex2 ex3
  have nf1 : fc_1 PRD (23, [21, 2], [0, -1, 1]) ws (vs ++ [Value.int x]) := by
    refine ⟨fun n hn => ?_, ?_⟩
    · have hn : n ∈ [21, 2] := hn
      rw [List.length_append, hl]
      simp only [List.mem_cons, List.not_mem_nil, or_false] at hn
      show n < 21 + 1; omega
    · show (-1) * v_iv (n_v (vs ++ [Value.int x]) 21) + (1 * v_iv (n_v (vs ++ [Value.int x]) 2) + 0) ≤ 0
      rw [e_2]
      rw [e_21]
      exact vc_Mo_across2_7_1 (v_iv (n_v vs 2)) (v_iv (n_v vs 3)) (v_iv (n_v vs 5)) (v_iv (n_v vs 6)) (v_iv (n_v vs 9)) (v_iv (n_v vs 10)) (v_iv (n_v vs 13)) (v_iv (n_v vs 15)) (v_iv (n_v vs 16)) (w_ei ws (w_ar ws (n_v vs 0) 109)) (w_ei ws (w_ar ws (n_v vs 0) 108)) (w_ei ws (w_ar ws (n_v vs 0) 2)) (w_fi ws (n_v vs 0) 5) (w_fi ws (n_v vs 0) 107) (w_ei ws (w_ar ws (n_v vs 0) 95)) (w_ei ws (w_ar ws (n_v vs 0) 102)) (w_ei ws (w_ar ws (n_v vs 0) 104)) (w_fi ws (n_v vs 0) 100) (w_fi ws (n_v vs 0) 101) (w_ei ws (w_ar ws (n_v vs 0) 105)) (w_ei ws (w_ar ws (n_v vs 0) 106)) (w_fi ws (n_v vs 0) 79) (w_ei ws (w_ar ws (n_v vs 0) 83)) (w_ei ws (w_ar ws (n_v vs 0) 84)) (w_ei ws (w_ar ws (n_v vs 0) 85)) (w_ei ws (w_ar ws (n_v vs 0) 86)) (w_fi ws (n_v vs 0) 80) (w_fi ws (n_v vs 0) 81) (v_iv (Value.int x)) k2 k3 k5 k6 k9 k10 k13 k15 k16 d0 d1 d2 h0 h2 h4 f5 f6 f7 h8 f9 f10 f11 h12 f13 g14 f15 f16 f17 f18 f19 f20 f21 hK_0_83 hK_0_84 hK_0_85 hK_0_86 hK_0_95 hK_0_102 hK_0_104 hK_0_105 hK_0_106 hK_0_108 hK_0_109 kz_0_79 kz_0_80 kz_0_81 kz_0_100 kz_0_101 kz_0_107 ex2 ex3
  have nf2 : fc_1 PRD (20, [1, 21], [50, 1, 0, 80, 1, 3, 2, 0, 80, 1, 1]) ws (vs ++ [Value.int x]) := by
    refine ⟨fun n hn => ?_, ?_⟩
    · have hn : n ∈ [1, 21] := hn
      rw [List.length_append, hl]
      simp only [List.mem_cons, List.not_mem_nil, or_false] at hn
      show n < 21 + 1; omega
    · show w_fi ws (n_v (vs ++ [Value.int x]) 1) 80 = v_iv (n_v (vs ++ [Value.int x]) 21)
      rw [e_1]
      rw [e_21]
      rw [q1]
      exact vc_Mo_across2_7_2 (v_iv (n_v vs 2)) (v_iv (n_v vs 3)) (v_iv (n_v vs 5)) (v_iv (n_v vs 6)) (v_iv (n_v vs 9)) (v_iv (n_v vs 10)) (v_iv (n_v vs 13)) (v_iv (n_v vs 15)) (v_iv (n_v vs 16)) (w_ei ws (w_ar ws (n_v vs 0) 109)) (w_ei ws (w_ar ws (n_v vs 0) 108)) (w_ei ws (w_ar ws (n_v vs 0) 2)) (w_fi ws (n_v vs 0) 5) (w_fi ws (n_v vs 0) 107) (w_ei ws (w_ar ws (n_v vs 0) 95)) (w_ei ws (w_ar ws (n_v vs 0) 102)) (w_ei ws (w_ar ws (n_v vs 0) 104)) (w_fi ws (n_v vs 0) 100) (w_fi ws (n_v vs 0) 101) (w_ei ws (w_ar ws (n_v vs 0) 105)) (w_ei ws (w_ar ws (n_v vs 0) 106)) (w_fi ws (n_v vs 0) 79) (w_ei ws (w_ar ws (n_v vs 0) 83)) (w_ei ws (w_ar ws (n_v vs 0) 84)) (w_ei ws (w_ar ws (n_v vs 0) 85)) (w_ei ws (w_ar ws (n_v vs 0) 86)) (w_fi ws (n_v vs 0) 80) (w_fi ws (n_v vs 0) 81) (v_iv (Value.int x)) k2 k3 k5 k6 k9 k10 k13 k15 k16 d0 d1 d2 h0 h2 h4 f5 f6 f7 h8 f9 f10 f11 h12 f13 g14 f15 f16 f17 f18 f19 f20 f21 hK_0_83 hK_0_84 hK_0_85 hK_0_86 hK_0_95 hK_0_102 hK_0_104 hK_0_105 hK_0_106 hK_0_108 hK_0_109 kz_0_79 kz_0_80 kz_0_81 kz_0_100 kz_0_101 kz_0_107 ex2 ex3
  have nf3 : fc_1 PRD (20, [1], [60, 2, 4, 380, 79, 80, 83, 84, 85, 86]) ws (vs ++ [Value.int x]) := by
    refine ⟨fun n hn => ?_, ?_⟩
    · have hn : n ∈ [1] := hn
      rw [List.length_append, hl]
      simp only [List.mem_cons, List.not_mem_nil, or_false] at hn
      show n < 21 + 1; omega
    · show PCQ (w_fi ws (n_v (vs ++ [Value.int x]) 1) 79) (w_fi ws (n_v (vs ++ [Value.int x]) 1) 80) (w_ei ws (w_ar ws (n_v (vs ++ [Value.int x]) 1) 83)) (w_ei ws (w_ar ws (n_v (vs ++ [Value.int x]) 1) 84)) (w_ei ws (w_ar ws (n_v (vs ++ [Value.int x]) 1) 85)) (w_ei ws (w_ar ws (n_v (vs ++ [Value.int x]) 1) 86))
      rw [e_1]
      rw [q1]
      exact vc_Mo_across2_7_3 (v_iv (n_v vs 2)) (v_iv (n_v vs 3)) (v_iv (n_v vs 5)) (v_iv (n_v vs 6)) (v_iv (n_v vs 9)) (v_iv (n_v vs 10)) (v_iv (n_v vs 13)) (v_iv (n_v vs 15)) (v_iv (n_v vs 16)) (w_ei ws (w_ar ws (n_v vs 0) 109)) (w_ei ws (w_ar ws (n_v vs 0) 108)) (w_ei ws (w_ar ws (n_v vs 0) 2)) (w_fi ws (n_v vs 0) 5) (w_fi ws (n_v vs 0) 107) (w_ei ws (w_ar ws (n_v vs 0) 95)) (w_ei ws (w_ar ws (n_v vs 0) 102)) (w_ei ws (w_ar ws (n_v vs 0) 104)) (w_fi ws (n_v vs 0) 100) (w_fi ws (n_v vs 0) 101) (w_ei ws (w_ar ws (n_v vs 0) 105)) (w_ei ws (w_ar ws (n_v vs 0) 106)) (w_fi ws (n_v vs 0) 79) (w_ei ws (w_ar ws (n_v vs 0) 83)) (w_ei ws (w_ar ws (n_v vs 0) 84)) (w_ei ws (w_ar ws (n_v vs 0) 85)) (w_ei ws (w_ar ws (n_v vs 0) 86)) (w_fi ws (n_v vs 0) 80) (w_fi ws (n_v vs 0) 81) (v_iv (Value.int x)) k2 k3 k5 k6 k9 k10 k13 k15 k16 d0 d1 d2 h0 h2 h4 f5 f6 f7 h8 f9 f10 f11 h12 f13 g14 f15 f16 f17 f18 f19 f20 f21 hK_0_83 hK_0_84 hK_0_85 hK_0_86 hK_0_95 hK_0_102 hK_0_104 hK_0_105 hK_0_106 hK_0_108 hK_0_109 kz_0_79 kz_0_80 kz_0_81 kz_0_100 kz_0_101 kz_0_107 ex2 ex3
  have nf4 : fc_1 PRD (20, [15, 1], [50, 1, 0, 1079, 2, 6, 0, 2, 0, 0, 1, 0, 0, 6, 4, 2, 1, 0, 0, 1, 2, 1, 79]) ws (vs ++ [Value.int x]) := by
    refine ⟨fun n hn => ?_, ?_⟩
    · have hn : n ∈ [15, 1] := hn
      rw [List.length_append, hl]
      simp only [List.mem_cons, List.not_mem_nil, or_false] at hn
      show n < 21 + 1; omega
    · show (0 ≤ v_iv (n_v (vs ++ [Value.int x]) 15)) ∧ ((v_iv (n_v (vs ++ [Value.int x]) 15) + 1) ≤ w_fi ws (n_v (vs ++ [Value.int x]) 1) 79)
      rw [e_1]
      rw [e_15]
      rw [q1]
      exact vc_Mo_across2_7_4 (v_iv (n_v vs 2)) (v_iv (n_v vs 3)) (v_iv (n_v vs 5)) (v_iv (n_v vs 6)) (v_iv (n_v vs 9)) (v_iv (n_v vs 10)) (v_iv (n_v vs 13)) (v_iv (n_v vs 15)) (v_iv (n_v vs 16)) (w_ei ws (w_ar ws (n_v vs 0) 109)) (w_ei ws (w_ar ws (n_v vs 0) 108)) (w_ei ws (w_ar ws (n_v vs 0) 2)) (w_fi ws (n_v vs 0) 5) (w_fi ws (n_v vs 0) 107) (w_ei ws (w_ar ws (n_v vs 0) 95)) (w_ei ws (w_ar ws (n_v vs 0) 102)) (w_ei ws (w_ar ws (n_v vs 0) 104)) (w_fi ws (n_v vs 0) 100) (w_fi ws (n_v vs 0) 101) (w_ei ws (w_ar ws (n_v vs 0) 105)) (w_ei ws (w_ar ws (n_v vs 0) 106)) (w_fi ws (n_v vs 0) 79) (w_ei ws (w_ar ws (n_v vs 0) 83)) (w_ei ws (w_ar ws (n_v vs 0) 84)) (w_ei ws (w_ar ws (n_v vs 0) 85)) (w_ei ws (w_ar ws (n_v vs 0) 86)) (w_fi ws (n_v vs 0) 80) (w_fi ws (n_v vs 0) 81) (v_iv (Value.int x)) k2 k3 k5 k6 k9 k10 k13 k15 k16 d0 d1 d2 h0 h2 h4 f5 f6 f7 h8 f9 f10 f11 h12 f13 g14 f15 f16 f17 f18 f19 f20 f21 hK_0_83 hK_0_84 hK_0_85 hK_0_86 hK_0_95 hK_0_102 hK_0_104 hK_0_105 hK_0_106 hK_0_108 hK_0_109 kz_0_79 kz_0_80 kz_0_81 kz_0_100 kz_0_101 kz_0_107 ex2 ex3
  have nf5 : fc_1 PRD (20, [16, 1], [50, 1, 0, 1079, 2, 6, 0, 2, 0, 0, 1, 0, 0, 6, 4, 2, 1, 0, 0, 1, 2, 1, 79]) ws (vs ++ [Value.int x]) := by
    refine ⟨fun n hn => ?_, ?_⟩
    · have hn : n ∈ [16, 1] := hn
      rw [List.length_append, hl]
      simp only [List.mem_cons, List.not_mem_nil, or_false] at hn
      show n < 21 + 1; omega
    · show (0 ≤ v_iv (n_v (vs ++ [Value.int x]) 16)) ∧ ((v_iv (n_v (vs ++ [Value.int x]) 16) + 1) ≤ w_fi ws (n_v (vs ++ [Value.int x]) 1) 79)
      rw [e_1]
      rw [e_16]
      rw [q1]
      exact vc_Mo_across2_7_5 (v_iv (n_v vs 2)) (v_iv (n_v vs 3)) (v_iv (n_v vs 5)) (v_iv (n_v vs 6)) (v_iv (n_v vs 9)) (v_iv (n_v vs 10)) (v_iv (n_v vs 13)) (v_iv (n_v vs 15)) (v_iv (n_v vs 16)) (w_ei ws (w_ar ws (n_v vs 0) 109)) (w_ei ws (w_ar ws (n_v vs 0) 108)) (w_ei ws (w_ar ws (n_v vs 0) 2)) (w_fi ws (n_v vs 0) 5) (w_fi ws (n_v vs 0) 107) (w_ei ws (w_ar ws (n_v vs 0) 95)) (w_ei ws (w_ar ws (n_v vs 0) 102)) (w_ei ws (w_ar ws (n_v vs 0) 104)) (w_fi ws (n_v vs 0) 100) (w_fi ws (n_v vs 0) 101) (w_ei ws (w_ar ws (n_v vs 0) 105)) (w_ei ws (w_ar ws (n_v vs 0) 106)) (w_fi ws (n_v vs 0) 79) (w_ei ws (w_ar ws (n_v vs 0) 83)) (w_ei ws (w_ar ws (n_v vs 0) 84)) (w_ei ws (w_ar ws (n_v vs 0) 85)) (w_ei ws (w_ar ws (n_v vs 0) 86)) (w_fi ws (n_v vs 0) 80) (w_fi ws (n_v vs 0) 81) (v_iv (Value.int x)) k2 k3 k5 k6 k9 k10 k13 k15 k16 d0 d1 d2 h0 h2 h4 f5 f6 f7 h8 f9 f10 f11 h12 f13 g14 f15 f16 f17 f18 f19 f20 f21 hK_0_83 hK_0_84 hK_0_85 hK_0_86 hK_0_95 hK_0_102 hK_0_104 hK_0_105 hK_0_106 hK_0_108 hK_0_109 kz_0_79 kz_0_80 kz_0_81 kz_0_100 kz_0_101 kz_0_107 ex2 ex3
  exact ⟨(fun _ h => (by cases h)), [Value.int x], ag_one hx, List.forall_mem_cons.mpr ⟨⟨show (23 : Nat) < 100 from by decide, nf0⟩, List.forall_mem_cons.mpr ⟨⟨show (23 : Nat) < 100 from by decide, nf1⟩, List.forall_mem_cons.mpr ⟨⟨show (20 : Nat) < 100 from by decide, nf2⟩, List.forall_mem_cons.mpr ⟨⟨show (20 : Nat) < 100 from by decide, nf3⟩, List.forall_mem_cons.mpr ⟨⟨show (20 : Nat) < 100 from by decide, nf4⟩, List.forall_mem_cons.mpr ⟨⟨show (20 : Nat) < 100 from by decide, nf5⟩, (fun _ h => (by cases h))⟩⟩⟩⟩⟩⟩, (fun _ h => (by cases h))⟩
set_option maxHeartbeats 4000000 in
theorem vc_Mo_across2_8_0 (x2 : Int) (x3 : Int) (x5 : Int) (x6 : Int) (x9 : Int) (x10 : Int) (x15 : Int) (x16 : Int) (x21 : Int) (x22 : Int) (pointMany_0 : Int) (all_0 : Int → Int) (r_0 : Int) (turned_0 : Int → Int) (itemLayer_0 : Int → Int) (firstJoint_0 : Int → Int) (lineA_0 : Int → Int) (lineB_0 : Int → Int) (items_0 : Int) (layerMany_0 : Int) (lines_0 : Int) (layerSize_0 : Int → Int) (layerItem_0 : Int → Int) (apartMany_0 : Int) (costMany_0 : Int) (costA_0 : Int → Int) (costB_0 : Int → Int) (costW_0 : Int → Int) (costPlain_0 : Int → Int) (k2 : 0 ≤ x2 ∧ x2 ≤ 129) (k3 : 1 ≤ x3 ∧ x3 ≤ 130) (k5 : 0 ≤ x5 ∧ x5 ≤ 75) (k6 : 0 ≤ x6 ∧ x6 ≤ 24) (k9 : 0 ≤ x9 ∧ x9 ≤ 23) (k10 : 1 ≤ x10 ∧ x10 ≤ 24) (k15 : 0 ≤ x15 ∧ x15 ≤ 75) (k16 : 0 ≤ x16 ∧ x16 ≤ 75) (k21 : 0 ≤ x21 ∧ x21 ≤ 199) (k22 : 1 ≤ x22 ∧ x22 ≤ 130) (d0 : x2 + 1 ≤ x22 ∧ x22 ≤ x2 + 1) (d1 : x3 + (-4294967296) ≤ x22 ∧ x22 ≤ x3 + 0) (d2 : x10 + (-4294967296) ≤ x9 ∧ x9 ≤ x10 + (-1)) (d3 : x6 + 0 ≤ x5 ∧ x5 ≤ x6 + 4294967296) (d4 : x3 + (-4294967296) ≤ x2 ∧ x2 ≤ x3 + (-1)) (f0 : x22 = x2 + 1) (f1 : 1 * x21 + ((-1) * x2 + 0) ≤ 0) (f2 : (-1) * x21 + (1 * x2 + 0) ≤ 0) (f3 : (0 ≤ x15) ∧ ((x15 + 1) ≤ pointMany_0)) (f4 : (0 ≤ x16) ∧ ((x16 + 1) ≤ pointMany_0)) (f5 : 1 * x10 + ((-1) * all_0 (r_0 + 0) + 0) ≤ 0) (f6 : (-1) * x10 + (1 * all_0 (r_0 + 0) + 0) ≤ 0) (f7 : 1 * x6 + ((-1) * all_0 (r_0 + 0) + 0) ≤ 0) (f8 : (-1) * x6 + (1 * all_0 (r_0 + 0) + 0) ≤ 0) (f9 : LSA (r_0) (items_0) (layerMany_0) (lines_0) (all_0) (turned_0) (itemLayer_0) (firstJoint_0) (lineA_0) (lineB_0)) (f10 : LSB (items_0) (layerMany_0) (itemLayer_0) (layerSize_0) (layerItem_0)) (f11 : SGR (r_0) (all_0)) (f12 : pointMany_0 = items_0) (f13 : apartMany_0 = 0) (f15 : costMany_0 = (x21 + 1)) (f16 : PCQ (pointMany_0) (costMany_0) (costA_0) (costB_0) (costW_0) (costPlain_0)) (f18 : 1 * x21 + ((-1) * x2 + 0) ≤ 0) (f19 : (-1) * x21 + (1 * x2 + 0) ≤ 0) (f20 : x9 < x10) (f21 : x6 ≤ x5) (f22 : x2 < x3) (hK_0_83 : ∀ j : Int, 0 ≤ j → j < 200 → 0 ≤ costA_0 j ∧ costA_0 j ≤ 75) (hK_0_84 : ∀ j : Int, 0 ≤ j → j < 200 → 0 ≤ costB_0 j ∧ costB_0 j ≤ 75) (hK_0_85 : ∀ j : Int, 0 ≤ j → j < 200 → 0 ≤ costW_0 j ∧ costW_0 j ≤ 72) (hK_0_86 : ∀ j : Int, 0 ≤ j → j < 200 → 0 ≤ costPlain_0 j ∧ costPlain_0 j ≤ 1) (hK_0_95 : ∀ j : Int, 0 ≤ j → j < 48 → 0 ≤ turned_0 j ∧ turned_0 j ≤ 1) (hK_0_102 : ∀ j : Int, 0 ≤ j → j < 76 → 0 ≤ itemLayer_0 j ∧ itemLayer_0 j ≤ 75) (hK_0_104 : ∀ j : Int, 0 ≤ j → j < 48 → 0 ≤ firstJoint_0 j ∧ firstJoint_0 j ≤ 76) (hK_0_105 : ∀ j : Int, 0 ≤ j → j < 76 → 0 ≤ layerSize_0 j ∧ layerSize_0 j ≤ 76) (hK_0_106 : ∀ j : Int, 0 ≤ j → j < 5776 → 0 ≤ layerItem_0 j ∧ layerItem_0 j ≤ 75) (hK_0_108 : ∀ j : Int, 0 ≤ j → j < 130 → 0 ≤ lineA_0 j ∧ lineA_0 j ≤ 75) (hK_0_109 : ∀ j : Int, 0 ≤ j → j < 130 → 0 ≤ lineB_0 j ∧ lineB_0 j ≤ 75) (kz_0_79 : 0 ≤ pointMany_0 ∧ pointMany_0 ≤ 76) (kz_0_80 : 0 ≤ costMany_0 ∧ costMany_0 ≤ 200) (kz_0_81 : 0 ≤ apartMany_0 ∧ apartMany_0 ≤ 200) (kz_0_100 : 0 ≤ items_0 ∧ items_0 ≤ 76) (kz_0_101 : 0 ≤ layerMany_0 ∧ layerMany_0 ≤ 76) (kz_0_107 : 0 ≤ lines_0 ∧ lines_0 ≤ 130) : costMany_0 = x22 := by
  try simp only [Int.add_zero] at *
  first
    | omega
    | (have h := ‹LSA _ _ _ _ _ _ _ _ _ _›.2.1; omega)
    | (have h := lsa_la (p := x2) (x := x15) ‹LSA _ _ _ _ _ _ _ _ _ _› (by omega) (by omega) (by assumption); omega)
    | (have h := lsa_lb (p := x2) (x := x16) ‹LSA _ _ _ _ _ _ _ _ _ _› (by omega) (by omega) (by assumption); omega)
def o_Mo_across2_8 : or_T := (20, 23, [(0, (2, 0, 0, [150])), (1, (2, 0, 0, [150])), (2, (0, 0, 129, [])), (3, (0, 1, 130, [])), (5, (0, 0, 75, [])), (6, (0, 0, 24, [])), (9, (0, 0, 23, [])), (10, (0, 1, 24, [])), (15, (0, 0, 75, [])), (16, (0, 0, 75, [])), (21, (0, 0, 199, [])), (22, (0, 1, 130, []))], [(6, [22, 2], [1]), (23, [21, 2], [0, 1, -1]), (23, [21, 2], [0, -1, 1]), (20, [15, 1], [50, 1, 0, 1079, 2, 6, 0, 2, 0, 0, 1, 0, 0, 6, 4, 2, 1, 0, 0, 1, 2, 1, 79]), (20, [16, 1], [50, 1, 0, 1079, 2, 6, 0, 2, 0, 0, 1, 0, 0, 6, 4, 2, 1, 0, 0, 1, 2, 1, 79]), (20, [10, 1], [30, 0, 1, 0, 0, -1, 3, 2005000]), (20, [10, 1], [30, 0, -1, 0, 0, 1, 3, 2005000]), (20, [6, 1], [30, 0, 1, 0, 0, -1, 3, 2005000]), (20, [6, 1], [30, 0, -1, 0, 0, 1, 3, 2005000]), (20, [1], [60, 4, 6, 369, 5, 100, 101, 107, 2, 95, 102, 104, 108, 109]), (20, [1], [60, 2, 3, 372, 100, 101, 102, 105, 106]), (20, [1], [60, 1, 1, 122, 5, 2]), (20, [1], [50, 2, 0, 79, 100, 1, 3, 2, 0, 79, 2, 0, 100]), (20, [1], [50, 1, 0, 81, 1, 3, 2, 0, 81, 0, 0]), (24, [0, 1], []), (20, [1, 21], [50, 1, 0, 80, 1, 3, 2, 0, 80, 4, 2, 1, 1, 0, 1]), (20, [1], [60, 2, 4, 380, 79, 80, 83, 84, 85, 86]), (102, [21], [771330261244315332260141804323758049210657437015740560944660480, 13080]), (23, [21, 2], [0, 1, -1]), (23, [21, 2], [0, -1, 1]), (7, [9, 10], [2]), (7, [5, 6], [3]), (7, [2, 3], [2])], [], [], [(20, [1, 22], [50, 1, 0, 80, 1, 3, 2, 0, 80, 1, 1])], [], [(22, 2, 1, 1), (22, 3, -4294967296, 0), (9, 10, -4294967296, -1), (5, 6, 0, 4294967296), (2, 3, -4294967296, -1)])
theorem oo_Mo_across2_8 {kA : Nat → ClassId} : or_ok PRD kA GG o_Mo_across2_8 := by
  intro A ta ws vs hD hth hl hk hds hf
  have hl : vs.length = 23 := hl
  have hk : ∀ q ∈ ([(0, (2, 0, 0, [150])), (1, (2, 0, 0, [150])), (2, (0, 0, 129, [])), (3, (0, 1, 130, [])), (5, (0, 0, 75, [])), (6, (0, 0, 24, [])), (9, (0, 0, 23, [])), (10, (0, 1, 24, [])), (15, (0, 0, 75, [])), (16, (0, 0, 75, [])), (21, (0, 0, 199, [])), (22, (0, 1, 130, []))] : List (Nat × tv_T)), tv_ok ta q.2 (n_v vs q.1) := hk
  obtain ⟨t0, hk⟩ := List.forall_mem_cons.mp hk
  have t0 : tv_ok ta (2, 0, 0, [150]) (n_v vs 0) := t0
  have r0 : ta (v_ad (n_v vs 0)) = some 150 := tv_rg t0
  obtain ⟨t1, hk⟩ := List.forall_mem_cons.mp hk
  have t1 : tv_ok ta (2, 0, 0, [150]) (n_v vs 1) := t1
  have r1 : ta (v_ad (n_v vs 1)) = some 150 := tv_rg t1
  obtain ⟨t2, hk⟩ := List.forall_mem_cons.mp hk
  have t2 : tv_ok ta (0, 0, 129, []) (n_v vs 2) := t2
  have k2 : 0 ≤ v_iv (n_v vs 2) ∧ v_iv (n_v vs 2) ≤ 129 := tv_rng t2
  obtain ⟨t3, hk⟩ := List.forall_mem_cons.mp hk
  have t3 : tv_ok ta (0, 1, 130, []) (n_v vs 3) := t3
  have k3 : 1 ≤ v_iv (n_v vs 3) ∧ v_iv (n_v vs 3) ≤ 130 := tv_rng t3
  obtain ⟨t5, hk⟩ := List.forall_mem_cons.mp hk
  have t5 : tv_ok ta (0, 0, 75, []) (n_v vs 5) := t5
  have k5 : 0 ≤ v_iv (n_v vs 5) ∧ v_iv (n_v vs 5) ≤ 75 := tv_rng t5
  obtain ⟨t6, hk⟩ := List.forall_mem_cons.mp hk
  have t6 : tv_ok ta (0, 0, 24, []) (n_v vs 6) := t6
  have k6 : 0 ≤ v_iv (n_v vs 6) ∧ v_iv (n_v vs 6) ≤ 24 := tv_rng t6
  obtain ⟨t9, hk⟩ := List.forall_mem_cons.mp hk
  have t9 : tv_ok ta (0, 0, 23, []) (n_v vs 9) := t9
  have k9 : 0 ≤ v_iv (n_v vs 9) ∧ v_iv (n_v vs 9) ≤ 23 := tv_rng t9
  obtain ⟨t10, hk⟩ := List.forall_mem_cons.mp hk
  have t10 : tv_ok ta (0, 1, 24, []) (n_v vs 10) := t10
  have k10 : 1 ≤ v_iv (n_v vs 10) ∧ v_iv (n_v vs 10) ≤ 24 := tv_rng t10
  obtain ⟨t15, hk⟩ := List.forall_mem_cons.mp hk
  have t15 : tv_ok ta (0, 0, 75, []) (n_v vs 15) := t15
  have k15 : 0 ≤ v_iv (n_v vs 15) ∧ v_iv (n_v vs 15) ≤ 75 := tv_rng t15
  obtain ⟨t16, hk⟩ := List.forall_mem_cons.mp hk
  have t16 : tv_ok ta (0, 0, 75, []) (n_v vs 16) := t16
  have k16 : 0 ≤ v_iv (n_v vs 16) ∧ v_iv (n_v vs 16) ≤ 75 := tv_rng t16
  obtain ⟨t21, hk⟩ := List.forall_mem_cons.mp hk
  have t21 : tv_ok ta (0, 0, 199, []) (n_v vs 21) := t21
  have k21 : 0 ≤ v_iv (n_v vs 21) ∧ v_iv (n_v vs 21) ≤ 199 := tv_rng t21
  obtain ⟨t22, hk⟩ := List.forall_mem_cons.mp hk
  have t22 : tv_ok ta (0, 1, 130, []) (n_v vs 22) := t22
  have k22 : 1 ≤ v_iv (n_v vs 22) ∧ v_iv (n_v vs 22) ≤ 130 := tv_rng t22
  have hds : ∀ q ∈ ([(22, 2, 1, 1), (22, 3, -4294967296, 0), (9, 10, -4294967296, -1), (5, 6, 0, 4294967296), (2, 3, -4294967296, -1)] : List of_T), n_iv vs q.2.1 + q.2.2.1 ≤ n_iv vs q.1 ∧ n_iv vs q.1 ≤ n_iv vs q.2.1 + q.2.2.2 := hds
  obtain ⟨d0, hds⟩ := List.forall_mem_cons.mp hds
  have d0 : v_iv (n_v vs 2) + 1 ≤ v_iv (n_v vs 22) ∧ v_iv (n_v vs 22) ≤ v_iv (n_v vs 2) + 1 := d0
  obtain ⟨d1, hds⟩ := List.forall_mem_cons.mp hds
  have d1 : v_iv (n_v vs 3) + (-4294967296) ≤ v_iv (n_v vs 22) ∧ v_iv (n_v vs 22) ≤ v_iv (n_v vs 3) + 0 := d1
  obtain ⟨d2, hds⟩ := List.forall_mem_cons.mp hds
  have d2 : v_iv (n_v vs 10) + (-4294967296) ≤ v_iv (n_v vs 9) ∧ v_iv (n_v vs 9) ≤ v_iv (n_v vs 10) + (-1) := d2
  obtain ⟨d3, hds⟩ := List.forall_mem_cons.mp hds
  have d3 : v_iv (n_v vs 6) + 0 ≤ v_iv (n_v vs 5) ∧ v_iv (n_v vs 5) ≤ v_iv (n_v vs 6) + 4294967296 := d3
  obtain ⟨d4, hds⟩ := List.forall_mem_cons.mp hds
  have d4 : v_iv (n_v vs 3) + (-4294967296) ≤ v_iv (n_v vs 2) ∧ v_iv (n_v vs 2) ≤ v_iv (n_v vs 3) + (-1) := d4
  have hf : fc_ok PRD [(6, [22, 2], [1]), (23, [21, 2], [0, 1, -1]), (23, [21, 2], [0, -1, 1]), (20, [15, 1], [50, 1, 0, 1079, 2, 6, 0, 2, 0, 0, 1, 0, 0, 6, 4, 2, 1, 0, 0, 1, 2, 1, 79]), (20, [16, 1], [50, 1, 0, 1079, 2, 6, 0, 2, 0, 0, 1, 0, 0, 6, 4, 2, 1, 0, 0, 1, 2, 1, 79]), (20, [10, 1], [30, 0, 1, 0, 0, -1, 3, 2005000]), (20, [10, 1], [30, 0, -1, 0, 0, 1, 3, 2005000]), (20, [6, 1], [30, 0, 1, 0, 0, -1, 3, 2005000]), (20, [6, 1], [30, 0, -1, 0, 0, 1, 3, 2005000]), (20, [1], [60, 4, 6, 369, 5, 100, 101, 107, 2, 95, 102, 104, 108, 109]), (20, [1], [60, 2, 3, 372, 100, 101, 102, 105, 106]), (20, [1], [60, 1, 1, 122, 5, 2]), (20, [1], [50, 2, 0, 79, 100, 1, 3, 2, 0, 79, 2, 0, 100]), (20, [1], [50, 1, 0, 81, 1, 3, 2, 0, 81, 0, 0]), (24, [0, 1], []), (20, [1, 21], [50, 1, 0, 80, 1, 3, 2, 0, 80, 4, 2, 1, 1, 0, 1]), (20, [1], [60, 2, 4, 380, 79, 80, 83, 84, 85, 86]), (102, [21], [771330261244315332260141804323758049210657437015740560944660480, 13080]), (23, [21, 2], [0, 1, -1]), (23, [21, 2], [0, -1, 1]), (7, [9, 10], [2]), (7, [5, 6], [3]), (7, [2, 3], [2])] ta ws vs := hf
  obtain ⟨f0, hf⟩ := fc_un (show (6 : Nat) < 100 from by decide) hf
  have f0 : v_iv (n_v vs 22) = v_iv (n_v vs 2) + 1 := f0
  obtain ⟨f1, hf⟩ := fc_un (show (23 : Nat) < 100 from by decide) hf
  have f1 : 1 * v_iv (n_v vs 21) + ((-1) * v_iv (n_v vs 2) + 0) ≤ 0 := f1
  obtain ⟨f2, hf⟩ := fc_un (show (23 : Nat) < 100 from by decide) hf
  have f2 : (-1) * v_iv (n_v vs 21) + (1 * v_iv (n_v vs 2) + 0) ≤ 0 := f2
  obtain ⟨f3, hf⟩ := fc_un (show (20 : Nat) < 100 from by decide) hf
  have f3 : (0 ≤ v_iv (n_v vs 15)) ∧ ((v_iv (n_v vs 15) + 1) ≤ w_fi ws (n_v vs 1) 79) := f3
  obtain ⟨f4, hf⟩ := fc_un (show (20 : Nat) < 100 from by decide) hf
  have f4 : (0 ≤ v_iv (n_v vs 16)) ∧ ((v_iv (n_v vs 16) + 1) ≤ w_fi ws (n_v vs 1) 79) := f4
  obtain ⟨f5, hf⟩ := fc_un (show (20 : Nat) < 100 from by decide) hf
  have f5 : 1 * v_iv (n_v vs 10) + ((-1) * w_el ws (w_ar ws (n_v vs 1) 2) (w_fi ws (n_v vs 1) 5 + 0).toNat + 0) ≤ 0 := f5
  obtain ⟨f6, hf⟩ := fc_un (show (20 : Nat) < 100 from by decide) hf
  have f6 : (-1) * v_iv (n_v vs 10) + (1 * w_el ws (w_ar ws (n_v vs 1) 2) (w_fi ws (n_v vs 1) 5 + 0).toNat + 0) ≤ 0 := f6
  obtain ⟨f7, hf⟩ := fc_un (show (20 : Nat) < 100 from by decide) hf
  have f7 : 1 * v_iv (n_v vs 6) + ((-1) * w_el ws (w_ar ws (n_v vs 1) 2) (w_fi ws (n_v vs 1) 5 + 0).toNat + 0) ≤ 0 := f7
  obtain ⟨f8, hf⟩ := fc_un (show (20 : Nat) < 100 from by decide) hf
  have f8 : (-1) * v_iv (n_v vs 6) + (1 * w_el ws (w_ar ws (n_v vs 1) 2) (w_fi ws (n_v vs 1) 5 + 0).toNat + 0) ≤ 0 := f8
  obtain ⟨f9, hf⟩ := fc_un (show (20 : Nat) < 100 from by decide) hf
  have f9 : LSA (w_fi ws (n_v vs 1) 5) (w_fi ws (n_v vs 1) 100) (w_fi ws (n_v vs 1) 101) (w_fi ws (n_v vs 1) 107) (w_ei ws (w_ar ws (n_v vs 1) 2)) (w_ei ws (w_ar ws (n_v vs 1) 95)) (w_ei ws (w_ar ws (n_v vs 1) 102)) (w_ei ws (w_ar ws (n_v vs 1) 104)) (w_ei ws (w_ar ws (n_v vs 1) 108)) (w_ei ws (w_ar ws (n_v vs 1) 109)) := f9
  obtain ⟨f10, hf⟩ := fc_un (show (20 : Nat) < 100 from by decide) hf
  have f10 : LSB (w_fi ws (n_v vs 1) 100) (w_fi ws (n_v vs 1) 101) (w_ei ws (w_ar ws (n_v vs 1) 102)) (w_ei ws (w_ar ws (n_v vs 1) 105)) (w_ei ws (w_ar ws (n_v vs 1) 106)) := f10
  obtain ⟨f11, hf⟩ := fc_un (show (20 : Nat) < 100 from by decide) hf
  have f11 : SGR (w_fi ws (n_v vs 1) 5) (w_ei ws (w_ar ws (n_v vs 1) 2)) := f11
  obtain ⟨f12, hf⟩ := fc_un (show (20 : Nat) < 100 from by decide) hf
  have f12 : w_fi ws (n_v vs 1) 79 = w_fi ws (n_v vs 1) 100 := f12
  obtain ⟨f13, hf⟩ := fc_un (show (20 : Nat) < 100 from by decide) hf
  have f13 : w_fi ws (n_v vs 1) 81 = 0 := f13
  obtain ⟨f14, hf⟩ := fc_un (show (24 : Nat) < 100 from by decide) hf
  have f14 : n_v vs 0 = n_v vs 1 := f14
  obtain ⟨f15, hf⟩ := fc_un (show (20 : Nat) < 100 from by decide) hf
  have f15 : w_fi ws (n_v vs 1) 80 = (v_iv (n_v vs 21) + 1) := f15
  obtain ⟨f16, hf⟩ := fc_un (show (20 : Nat) < 100 from by decide) hf
  have f16 : PCQ (w_fi ws (n_v vs 1) 79) (w_fi ws (n_v vs 1) 80) (w_ei ws (w_ar ws (n_v vs 1) 83)) (w_ei ws (w_ar ws (n_v vs 1) 84)) (w_ei ws (w_ar ws (n_v vs 1) 85)) (w_ei ws (w_ar ws (n_v vs 1) 86)) := f16
  obtain ⟨ta1, w1, le1, ⟨_, s1⟩, hf⟩ := fc_us (show ¬ (102 : Nat) < 100 from by decide) hf
  obtain ⟨f18, hf⟩ := fc_un (show (23 : Nat) < 100 from by decide) hf
  have f18 : 1 * v_iv (n_v vs 21) + ((-1) * v_iv (n_v vs 2) + 0) ≤ 0 := f18
  obtain ⟨f19, hf⟩ := fc_un (show (23 : Nat) < 100 from by decide) hf
  have f19 : (-1) * v_iv (n_v vs 21) + (1 * v_iv (n_v vs 2) + 0) ≤ 0 := f19
  obtain ⟨f20, hf⟩ := fc_un (show (7 : Nat) < 100 from by decide) hf
  have f20 : v_iv (n_v vs 9) < v_iv (n_v vs 10) := f20
  obtain ⟨f21, hf⟩ := fc_un (show (7 : Nat) < 100 from by decide) hf
  have f21 : v_iv (n_v vs 6) ≤ v_iv (n_v vs 5) := f21
  obtain ⟨f22, hf⟩ := fc_un (show (7 : Nat) < 100 from by decide) hf
  have f22 : v_iv (n_v vs 2) < v_iv (n_v vs 3) := f22
  have q1 : n_v vs 1 = n_v vs 0 := f14.symm
  rw [q1] at f3
  rw [q1] at f4
  rw [q1] at f5
  rw [q1] at f6
  rw [q1] at f7
  rw [q1] at f8
  rw [q1] at f9
  rw [q1] at f10
  rw [q1] at f11
  rw [q1] at f12
  rw [q1] at f13
  rw [q1] at f15
  rw [q1] at f16
  have cr_0_2 : ta (w_ar ws (n_v vs 0) 2) = some 152 := tv_rg (th_fd hD hth r0 (g := GG_150) rfl (k := 2) (t := (2, 0, 0, [152])) rfl rfl)
  have cr_0_83 : ta (w_ar ws (n_v vs 0) 83) = some 205 := tv_rg (th_fd hD hth r0 (g := GG_150) rfl (k := 83) (t := (2, 0, 0, [205])) rfl rfl)
  have cr_0_84 : ta (w_ar ws (n_v vs 0) 84) = some 206 := tv_rg (th_fd hD hth r0 (g := GG_150) rfl (k := 84) (t := (2, 0, 0, [206])) rfl rfl)
  have cr_0_85 : ta (w_ar ws (n_v vs 0) 85) = some 207 := tv_rg (th_fd hD hth r0 (g := GG_150) rfl (k := 85) (t := (2, 0, 0, [207])) rfl rfl)
  have cr_0_86 : ta (w_ar ws (n_v vs 0) 86) = some 208 := tv_rg (th_fd hD hth r0 (g := GG_150) rfl (k := 86) (t := (2, 0, 0, [208])) rfl rfl)
  have cr_0_95 : ta (w_ar ws (n_v vs 0) 95) = some 216 := tv_rg (th_fd hD hth r0 (g := GG_150) rfl (k := 95) (t := (2, 0, 0, [216])) rfl rfl)
  have cr_0_102 : ta (w_ar ws (n_v vs 0) 102) = some 220 := tv_rg (th_fd hD hth r0 (g := GG_150) rfl (k := 102) (t := (2, 0, 0, [220])) rfl rfl)
  have cr_0_104 : ta (w_ar ws (n_v vs 0) 104) = some 222 := tv_rg (th_fd hD hth r0 (g := GG_150) rfl (k := 104) (t := (2, 0, 0, [222])) rfl rfl)
  have cr_0_105 : ta (w_ar ws (n_v vs 0) 105) = some 223 := tv_rg (th_fd hD hth r0 (g := GG_150) rfl (k := 105) (t := (2, 0, 0, [223])) rfl rfl)
  have cr_0_106 : ta (w_ar ws (n_v vs 0) 106) = some 224 := tv_rg (th_fd hD hth r0 (g := GG_150) rfl (k := 106) (t := (2, 0, 0, [224])) rfl rfl)
  have cr_0_108 : ta (w_ar ws (n_v vs 0) 108) = some 225 := tv_rg (th_fd hD hth r0 (g := GG_150) rfl (k := 108) (t := (2, 0, 0, [225])) rfl rfl)
  have cr_0_109 : ta (w_ar ws (n_v vs 0) 109) = some 226 := tv_rg (th_fd hD hth r0 (g := GG_150) rfl (k := 109) (t := (2, 0, 0, [226])) rfl rfl)
  have hK_0_83 : ∀ j : Int, 0 ≤ j → j < 200 → 0 ≤ w_ei ws (w_ar ws (n_v vs 0) 83) j ∧ w_ei ws (w_ar ws (n_v vs 0) 83) j ≤ 75 := fun j h0 h1 => th_el hD hth cr_0_83 (kd := 0) (n := 200) (m := 200) (lo := 0) (hi := 75) (rs := []) (L := []) rfl (by decide) (j := j.toNat) (by omega)
  have hK_0_84 : ∀ j : Int, 0 ≤ j → j < 200 → 0 ≤ w_ei ws (w_ar ws (n_v vs 0) 84) j ∧ w_ei ws (w_ar ws (n_v vs 0) 84) j ≤ 75 := fun j h0 h1 => th_el hD hth cr_0_84 (kd := 0) (n := 200) (m := 200) (lo := 0) (hi := 75) (rs := []) (L := []) rfl (by decide) (j := j.toNat) (by omega)
  have hK_0_85 : ∀ j : Int, 0 ≤ j → j < 200 → 0 ≤ w_ei ws (w_ar ws (n_v vs 0) 85) j ∧ w_ei ws (w_ar ws (n_v vs 0) 85) j ≤ 72 := fun j h0 h1 => th_el hD hth cr_0_85 (kd := 0) (n := 200) (m := 200) (lo := 0) (hi := 72) (rs := []) (L := []) rfl (by decide) (j := j.toNat) (by omega)
  have hK_0_86 : ∀ j : Int, 0 ≤ j → j < 200 → 0 ≤ w_ei ws (w_ar ws (n_v vs 0) 86) j ∧ w_ei ws (w_ar ws (n_v vs 0) 86) j ≤ 1 := fun j h0 h1 => th_el hD hth cr_0_86 (kd := 2) (n := 200) (m := 200) (lo := 0) (hi := 1) (rs := []) (L := []) rfl (by decide) (j := j.toNat) (by omega)
  have hK_0_95 : ∀ j : Int, 0 ≤ j → j < 48 → 0 ≤ w_ei ws (w_ar ws (n_v vs 0) 95) j ∧ w_ei ws (w_ar ws (n_v vs 0) 95) j ≤ 1 := fun j h0 h1 => th_el hD hth cr_0_95 (kd := 2) (n := 48) (m := 48) (lo := 0) (hi := 1) (rs := []) (L := []) rfl (by decide) (j := j.toNat) (by omega)
  have hK_0_102 : ∀ j : Int, 0 ≤ j → j < 76 → 0 ≤ w_ei ws (w_ar ws (n_v vs 0) 102) j ∧ w_ei ws (w_ar ws (n_v vs 0) 102) j ≤ 75 := fun j h0 h1 => th_el hD hth cr_0_102 (kd := 0) (n := 76) (m := 76) (lo := 0) (hi := 75) (rs := []) (L := []) rfl (by decide) (j := j.toNat) (by omega)
  have hK_0_104 : ∀ j : Int, 0 ≤ j → j < 48 → 0 ≤ w_ei ws (w_ar ws (n_v vs 0) 104) j ∧ w_ei ws (w_ar ws (n_v vs 0) 104) j ≤ 76 := fun j h0 h1 => th_el hD hth cr_0_104 (kd := 0) (n := 48) (m := 48) (lo := 0) (hi := 76) (rs := []) (L := []) rfl (by decide) (j := j.toNat) (by omega)
  have hK_0_105 : ∀ j : Int, 0 ≤ j → j < 76 → 0 ≤ w_ei ws (w_ar ws (n_v vs 0) 105) j ∧ w_ei ws (w_ar ws (n_v vs 0) 105) j ≤ 76 := fun j h0 h1 => th_el hD hth cr_0_105 (kd := 0) (n := 76) (m := 76) (lo := 0) (hi := 76) (rs := []) (L := []) rfl (by decide) (j := j.toNat) (by omega)
  have hK_0_106 : ∀ j : Int, 0 ≤ j → j < 5776 → 0 ≤ w_ei ws (w_ar ws (n_v vs 0) 106) j ∧ w_ei ws (w_ar ws (n_v vs 0) 106) j ≤ 75 := fun j h0 h1 => th_el hD hth cr_0_106 (kd := 0) (n := 5776) (m := 5776) (lo := 0) (hi := 75) (rs := []) (L := []) rfl (by decide) (j := j.toNat) (by omega)
  have hK_0_108 : ∀ j : Int, 0 ≤ j → j < 130 → 0 ≤ w_ei ws (w_ar ws (n_v vs 0) 108) j ∧ w_ei ws (w_ar ws (n_v vs 0) 108) j ≤ 75 := fun j h0 h1 => th_el hD hth cr_0_108 (kd := 0) (n := 130) (m := 130) (lo := 0) (hi := 75) (rs := []) (L := []) rfl (by decide) (j := j.toNat) (by omega)
  have hK_0_109 : ∀ j : Int, 0 ≤ j → j < 130 → 0 ≤ w_ei ws (w_ar ws (n_v vs 0) 109) j ∧ w_ei ws (w_ar ws (n_v vs 0) 109) j ≤ 75 := fun j h0 h1 => th_el hD hth cr_0_109 (kd := 0) (n := 130) (m := 130) (lo := 0) (hi := 75) (rs := []) (L := []) rfl (by decide) (j := j.toNat) (by omega)
  have kz_0_79 : 0 ≤ w_fi ws (n_v vs 0) 79 ∧ w_fi ws (n_v vs 0) 79 ≤ 76 := tv_rng (th_fd hD hth r0 (g := GG_150) rfl (k := 79) (t := (0, 0, 76, [])) rfl rfl)
  have kz_0_80 : 0 ≤ w_fi ws (n_v vs 0) 80 ∧ w_fi ws (n_v vs 0) 80 ≤ 200 := tv_rng (th_fd hD hth r0 (g := GG_150) rfl (k := 80) (t := (0, 0, 200, [])) rfl rfl)
  have kz_0_81 : 0 ≤ w_fi ws (n_v vs 0) 81 ∧ w_fi ws (n_v vs 0) 81 ≤ 200 := tv_rng (th_fd hD hth r0 (g := GG_150) rfl (k := 81) (t := (0, 0, 200, [])) rfl rfl)
  have kz_0_100 : 0 ≤ w_fi ws (n_v vs 0) 100 ∧ w_fi ws (n_v vs 0) 100 ≤ 76 := tv_rng (th_fd hD hth r0 (g := GG_150) rfl (k := 100) (t := (0, 0, 76, [])) rfl rfl)
  have kz_0_101 : 0 ≤ w_fi ws (n_v vs 0) 101 ∧ w_fi ws (n_v vs 0) 101 ≤ 76 := tv_rng (th_fd hD hth r0 (g := GG_150) rfl (k := 101) (t := (0, 0, 76, [])) rfl rfl)
  have kz_0_107 : 0 ≤ w_fi ws (n_v vs 0) 107 ∧ w_fi ws (n_v vs 0) 107 ≤ 130 := tv_rng (th_fd hD hth r0 (g := GG_150) rfl (k := 107) (t := (0, 0, 130, [])) rfl rfl)
  have nf0 : fc_1 PRD (20, [1, 22], [50, 1, 0, 80, 1, 3, 2, 0, 80, 1, 1]) ws (vs) := by
    refine ⟨fun n hn => ?_, ?_⟩
    · have hn : n ∈ [1, 22] := hn
      rw [hl]
      simp only [List.mem_cons, List.not_mem_nil, or_false] at hn
      show n < 23; omega
    · show w_fi ws (n_v vs 1) 80 = v_iv (n_v vs 22)
      rw [q1]
      exact vc_Mo_across2_8_0 (v_iv (n_v vs 2)) (v_iv (n_v vs 3)) (v_iv (n_v vs 5)) (v_iv (n_v vs 6)) (v_iv (n_v vs 9)) (v_iv (n_v vs 10)) (v_iv (n_v vs 15)) (v_iv (n_v vs 16)) (v_iv (n_v vs 21)) (v_iv (n_v vs 22)) (w_fi ws (n_v vs 0) 79) (w_ei ws (w_ar ws (n_v vs 0) 2)) (w_fi ws (n_v vs 0) 5) (w_ei ws (w_ar ws (n_v vs 0) 95)) (w_ei ws (w_ar ws (n_v vs 0) 102)) (w_ei ws (w_ar ws (n_v vs 0) 104)) (w_ei ws (w_ar ws (n_v vs 0) 108)) (w_ei ws (w_ar ws (n_v vs 0) 109)) (w_fi ws (n_v vs 0) 100) (w_fi ws (n_v vs 0) 101) (w_fi ws (n_v vs 0) 107) (w_ei ws (w_ar ws (n_v vs 0) 105)) (w_ei ws (w_ar ws (n_v vs 0) 106)) (w_fi ws (n_v vs 0) 81) (w_fi ws (n_v vs 0) 80) (w_ei ws (w_ar ws (n_v vs 0) 83)) (w_ei ws (w_ar ws (n_v vs 0) 84)) (w_ei ws (w_ar ws (n_v vs 0) 85)) (w_ei ws (w_ar ws (n_v vs 0) 86)) k2 k3 k5 k6 k9 k10 k15 k16 k21 k22 d0 d1 d2 d3 d4 f0 f1 f2 f3 f4 f5 f6 f7 f8 f9 f10 f11 f12 f13 f15 f16 f18 f19 f20 f21 f22 hK_0_83 hK_0_84 hK_0_85 hK_0_86 hK_0_95 hK_0_102 hK_0_104 hK_0_105 hK_0_106 hK_0_108 hK_0_109 kz_0_79 kz_0_80 kz_0_81 kz_0_100 kz_0_101 kz_0_107
  refine ⟨(fun _ h => (by cases h)), [], trivial, ?_, (fun _ h => (by cases h))⟩
  rw [List.append_nil]
  exact List.forall_mem_cons.mpr ⟨⟨show (20 : Nat) < 100 from by decide, nf0⟩, (fun _ h => (by cases h))⟩
set_option maxHeartbeats 4000000 in
theorem vc_Mo_across2_9_0 (x2 : Int) (x3 : Int) (x5 : Int) (x6 : Int) (x9 : Int) (x10 : Int) (x13 : Int) (x15 : Int) (x16 : Int) (lineB_0 : Int → Int) (lineA_0 : Int → Int) (all_0 : Int → Int) (r_0 : Int) (lines_0 : Int) (turned_0 : Int → Int) (itemLayer_0 : Int → Int) (firstJoint_0 : Int → Int) (items_0 : Int) (layerMany_0 : Int) (layerSize_0 : Int → Int) (layerItem_0 : Int → Int) (pointMany_0 : Int) (costA_0 : Int → Int) (costB_0 : Int → Int) (costW_0 : Int → Int) (costPlain_0 : Int → Int) (costMany_0 : Int) (apartMany_0 : Int) (gx : Int) (k2 : 0 ≤ x2 ∧ x2 ≤ 129) (k3 : 1 ≤ x3 ∧ x3 ≤ 130) (k5 : 0 ≤ x5 ∧ x5 ≤ 75) (k6 : 0 ≤ x6 ∧ x6 ≤ 24) (k9 : 0 ≤ x9 ∧ x9 ≤ 75) (k10 : 0 ≤ x10 ∧ x10 ≤ 24) (k13 : 0 ≤ x13 ∧ x13 ≤ 75) (k15 : 0 ≤ x15 ∧ x15 ≤ 75) (k16 : 0 ≤ x16 ∧ x16 ≤ 75) (d0 : x10 + 0 ≤ x9 ∧ x9 ≤ x10 + 4294967296) (d1 : x6 + 0 ≤ x5 ∧ x5 ≤ x6 + 4294967296) (d2 : x3 + (-4294967296) ≤ x2 ∧ x2 ≤ x3 + (-1)) (h0 : x16 = lineB_0 (x2)) (h2 : x15 = lineA_0 (x2)) (h4 : x13 = lineA_0 (x2)) (f5 : x10 ≤ x9) (f6 : 1 * x10 + ((-1) * all_0 (r_0 + 0) + 0) ≤ 0) (f7 : (-1) * x10 + (1 * all_0 (r_0 + 0) + 0) ≤ 0) (h8 : x9 = lineB_0 (x2)) (f9 : x6 ≤ x5) (f10 : 1 * x6 + ((-1) * all_0 (r_0 + 0) + 0) ≤ 0) (f11 : (-1) * x6 + (1 * all_0 (r_0 + 0) + 0) ≤ 0) (h12 : x5 = lineA_0 (x2)) (f13 : x2 < x3) (g14 : x3 = lines_0) (f15 : LSA (r_0) (items_0) (layerMany_0) (lines_0) (all_0) (turned_0) (itemLayer_0) (firstJoint_0) (lineA_0) (lineB_0)) (f16 : LSB (items_0) (layerMany_0) (itemLayer_0) (layerSize_0) (layerItem_0)) (f17 : SGR (r_0) (all_0)) (f18 : pointMany_0 = items_0) (f19 : PCQ (pointMany_0) (costMany_0) (costA_0) (costB_0) (costW_0) (costPlain_0)) (f20 : costMany_0 = x2) (f21 : apartMany_0 = 0) (hK_0_83 : ∀ j : Int, 0 ≤ j → j < 200 → 0 ≤ costA_0 j ∧ costA_0 j ≤ 75) (hK_0_84 : ∀ j : Int, 0 ≤ j → j < 200 → 0 ≤ costB_0 j ∧ costB_0 j ≤ 75) (hK_0_85 : ∀ j : Int, 0 ≤ j → j < 200 → 0 ≤ costW_0 j ∧ costW_0 j ≤ 72) (hK_0_86 : ∀ j : Int, 0 ≤ j → j < 200 → 0 ≤ costPlain_0 j ∧ costPlain_0 j ≤ 1) (hK_0_95 : ∀ j : Int, 0 ≤ j → j < 48 → 0 ≤ turned_0 j ∧ turned_0 j ≤ 1) (hK_0_102 : ∀ j : Int, 0 ≤ j → j < 76 → 0 ≤ itemLayer_0 j ∧ itemLayer_0 j ≤ 75) (hK_0_104 : ∀ j : Int, 0 ≤ j → j < 48 → 0 ≤ firstJoint_0 j ∧ firstJoint_0 j ≤ 76) (hK_0_105 : ∀ j : Int, 0 ≤ j → j < 76 → 0 ≤ layerSize_0 j ∧ layerSize_0 j ≤ 76) (hK_0_106 : ∀ j : Int, 0 ≤ j → j < 5776 → 0 ≤ layerItem_0 j ∧ layerItem_0 j ≤ 75) (hK_0_108 : ∀ j : Int, 0 ≤ j → j < 130 → 0 ≤ lineA_0 j ∧ lineA_0 j ≤ 75) (hK_0_109 : ∀ j : Int, 0 ≤ j → j < 130 → 0 ≤ lineB_0 j ∧ lineB_0 j ≤ 75) (kz_0_79 : 0 ≤ pointMany_0 ∧ pointMany_0 ≤ 76) (kz_0_80 : 0 ≤ costMany_0 ∧ costMany_0 ≤ 200) (kz_0_81 : 0 ≤ apartMany_0 ∧ apartMany_0 ≤ 200) (kz_0_100 : 0 ≤ items_0 ∧ items_0 ≤ 76) (kz_0_101 : 0 ≤ layerMany_0 ∧ layerMany_0 ≤ 76) (kz_0_107 : 0 ≤ lines_0 ∧ lines_0 ≤ 130) (ex2 : gx = x2) (ex3 : 0 ≤ gx ∧ gx ≤ 199) : 1 * gx + ((-1) * x2 + 0) ≤ 0 := by
  try simp only [Int.add_zero] at *
  first
    | omega
    | (have h := ‹LSA _ _ _ _ _ _ _ _ _ _›.2.1; omega)
    | (have h := lsa_la (p := x2) (x := x15) ‹LSA _ _ _ _ _ _ _ _ _ _› (by omega) (by omega) (by assumption); omega)
    | (have h := lsa_lb (p := x2) (x := x16) ‹LSA _ _ _ _ _ _ _ _ _ _› (by omega) (by omega) (by assumption); omega)
set_option maxHeartbeats 4000000 in
theorem vc_Mo_across2_9_1 (x2 : Int) (x3 : Int) (x5 : Int) (x6 : Int) (x9 : Int) (x10 : Int) (x13 : Int) (x15 : Int) (x16 : Int) (lineB_0 : Int → Int) (lineA_0 : Int → Int) (all_0 : Int → Int) (r_0 : Int) (lines_0 : Int) (turned_0 : Int → Int) (itemLayer_0 : Int → Int) (firstJoint_0 : Int → Int) (items_0 : Int) (layerMany_0 : Int) (layerSize_0 : Int → Int) (layerItem_0 : Int → Int) (pointMany_0 : Int) (costA_0 : Int → Int) (costB_0 : Int → Int) (costW_0 : Int → Int) (costPlain_0 : Int → Int) (costMany_0 : Int) (apartMany_0 : Int) (gx : Int) (k2 : 0 ≤ x2 ∧ x2 ≤ 129) (k3 : 1 ≤ x3 ∧ x3 ≤ 130) (k5 : 0 ≤ x5 ∧ x5 ≤ 75) (k6 : 0 ≤ x6 ∧ x6 ≤ 24) (k9 : 0 ≤ x9 ∧ x9 ≤ 75) (k10 : 0 ≤ x10 ∧ x10 ≤ 24) (k13 : 0 ≤ x13 ∧ x13 ≤ 75) (k15 : 0 ≤ x15 ∧ x15 ≤ 75) (k16 : 0 ≤ x16 ∧ x16 ≤ 75) (d0 : x10 + 0 ≤ x9 ∧ x9 ≤ x10 + 4294967296) (d1 : x6 + 0 ≤ x5 ∧ x5 ≤ x6 + 4294967296) (d2 : x3 + (-4294967296) ≤ x2 ∧ x2 ≤ x3 + (-1)) (h0 : x16 = lineB_0 (x2)) (h2 : x15 = lineA_0 (x2)) (h4 : x13 = lineA_0 (x2)) (f5 : x10 ≤ x9) (f6 : 1 * x10 + ((-1) * all_0 (r_0 + 0) + 0) ≤ 0) (f7 : (-1) * x10 + (1 * all_0 (r_0 + 0) + 0) ≤ 0) (h8 : x9 = lineB_0 (x2)) (f9 : x6 ≤ x5) (f10 : 1 * x6 + ((-1) * all_0 (r_0 + 0) + 0) ≤ 0) (f11 : (-1) * x6 + (1 * all_0 (r_0 + 0) + 0) ≤ 0) (h12 : x5 = lineA_0 (x2)) (f13 : x2 < x3) (g14 : x3 = lines_0) (f15 : LSA (r_0) (items_0) (layerMany_0) (lines_0) (all_0) (turned_0) (itemLayer_0) (firstJoint_0) (lineA_0) (lineB_0)) (f16 : LSB (items_0) (layerMany_0) (itemLayer_0) (layerSize_0) (layerItem_0)) (f17 : SGR (r_0) (all_0)) (f18 : pointMany_0 = items_0) (f19 : PCQ (pointMany_0) (costMany_0) (costA_0) (costB_0) (costW_0) (costPlain_0)) (f20 : costMany_0 = x2) (f21 : apartMany_0 = 0) (hK_0_83 : ∀ j : Int, 0 ≤ j → j < 200 → 0 ≤ costA_0 j ∧ costA_0 j ≤ 75) (hK_0_84 : ∀ j : Int, 0 ≤ j → j < 200 → 0 ≤ costB_0 j ∧ costB_0 j ≤ 75) (hK_0_85 : ∀ j : Int, 0 ≤ j → j < 200 → 0 ≤ costW_0 j ∧ costW_0 j ≤ 72) (hK_0_86 : ∀ j : Int, 0 ≤ j → j < 200 → 0 ≤ costPlain_0 j ∧ costPlain_0 j ≤ 1) (hK_0_95 : ∀ j : Int, 0 ≤ j → j < 48 → 0 ≤ turned_0 j ∧ turned_0 j ≤ 1) (hK_0_102 : ∀ j : Int, 0 ≤ j → j < 76 → 0 ≤ itemLayer_0 j ∧ itemLayer_0 j ≤ 75) (hK_0_104 : ∀ j : Int, 0 ≤ j → j < 48 → 0 ≤ firstJoint_0 j ∧ firstJoint_0 j ≤ 76) (hK_0_105 : ∀ j : Int, 0 ≤ j → j < 76 → 0 ≤ layerSize_0 j ∧ layerSize_0 j ≤ 76) (hK_0_106 : ∀ j : Int, 0 ≤ j → j < 5776 → 0 ≤ layerItem_0 j ∧ layerItem_0 j ≤ 75) (hK_0_108 : ∀ j : Int, 0 ≤ j → j < 130 → 0 ≤ lineA_0 j ∧ lineA_0 j ≤ 75) (hK_0_109 : ∀ j : Int, 0 ≤ j → j < 130 → 0 ≤ lineB_0 j ∧ lineB_0 j ≤ 75) (kz_0_79 : 0 ≤ pointMany_0 ∧ pointMany_0 ≤ 76) (kz_0_80 : 0 ≤ costMany_0 ∧ costMany_0 ≤ 200) (kz_0_81 : 0 ≤ apartMany_0 ∧ apartMany_0 ≤ 200) (kz_0_100 : 0 ≤ items_0 ∧ items_0 ≤ 76) (kz_0_101 : 0 ≤ layerMany_0 ∧ layerMany_0 ≤ 76) (kz_0_107 : 0 ≤ lines_0 ∧ lines_0 ≤ 130) (ex2 : gx = x2) (ex3 : 0 ≤ gx ∧ gx ≤ 199) : (-1) * gx + (1 * x2 + 0) ≤ 0 := by
  try simp only [Int.add_zero] at *
  first
    | omega
    | (have h := ‹LSA _ _ _ _ _ _ _ _ _ _›.2.1; omega)
    | (have h := lsa_la (p := x2) (x := x15) ‹LSA _ _ _ _ _ _ _ _ _ _› (by omega) (by omega) (by assumption); omega)
    | (have h := lsa_lb (p := x2) (x := x16) ‹LSA _ _ _ _ _ _ _ _ _ _› (by omega) (by omega) (by assumption); omega)
set_option maxHeartbeats 4000000 in
theorem vc_Mo_across2_9_2 (x2 : Int) (x3 : Int) (x5 : Int) (x6 : Int) (x9 : Int) (x10 : Int) (x13 : Int) (x15 : Int) (x16 : Int) (lineB_0 : Int → Int) (lineA_0 : Int → Int) (all_0 : Int → Int) (r_0 : Int) (lines_0 : Int) (turned_0 : Int → Int) (itemLayer_0 : Int → Int) (firstJoint_0 : Int → Int) (items_0 : Int) (layerMany_0 : Int) (layerSize_0 : Int → Int) (layerItem_0 : Int → Int) (pointMany_0 : Int) (costA_0 : Int → Int) (costB_0 : Int → Int) (costW_0 : Int → Int) (costPlain_0 : Int → Int) (costMany_0 : Int) (apartMany_0 : Int) (gx : Int) (k2 : 0 ≤ x2 ∧ x2 ≤ 129) (k3 : 1 ≤ x3 ∧ x3 ≤ 130) (k5 : 0 ≤ x5 ∧ x5 ≤ 75) (k6 : 0 ≤ x6 ∧ x6 ≤ 24) (k9 : 0 ≤ x9 ∧ x9 ≤ 75) (k10 : 0 ≤ x10 ∧ x10 ≤ 24) (k13 : 0 ≤ x13 ∧ x13 ≤ 75) (k15 : 0 ≤ x15 ∧ x15 ≤ 75) (k16 : 0 ≤ x16 ∧ x16 ≤ 75) (d0 : x10 + 0 ≤ x9 ∧ x9 ≤ x10 + 4294967296) (d1 : x6 + 0 ≤ x5 ∧ x5 ≤ x6 + 4294967296) (d2 : x3 + (-4294967296) ≤ x2 ∧ x2 ≤ x3 + (-1)) (h0 : x16 = lineB_0 (x2)) (h2 : x15 = lineA_0 (x2)) (h4 : x13 = lineA_0 (x2)) (f5 : x10 ≤ x9) (f6 : 1 * x10 + ((-1) * all_0 (r_0 + 0) + 0) ≤ 0) (f7 : (-1) * x10 + (1 * all_0 (r_0 + 0) + 0) ≤ 0) (h8 : x9 = lineB_0 (x2)) (f9 : x6 ≤ x5) (f10 : 1 * x6 + ((-1) * all_0 (r_0 + 0) + 0) ≤ 0) (f11 : (-1) * x6 + (1 * all_0 (r_0 + 0) + 0) ≤ 0) (h12 : x5 = lineA_0 (x2)) (f13 : x2 < x3) (g14 : x3 = lines_0) (f15 : LSA (r_0) (items_0) (layerMany_0) (lines_0) (all_0) (turned_0) (itemLayer_0) (firstJoint_0) (lineA_0) (lineB_0)) (f16 : LSB (items_0) (layerMany_0) (itemLayer_0) (layerSize_0) (layerItem_0)) (f17 : SGR (r_0) (all_0)) (f18 : pointMany_0 = items_0) (f19 : PCQ (pointMany_0) (costMany_0) (costA_0) (costB_0) (costW_0) (costPlain_0)) (f20 : costMany_0 = x2) (f21 : apartMany_0 = 0) (hK_0_83 : ∀ j : Int, 0 ≤ j → j < 200 → 0 ≤ costA_0 j ∧ costA_0 j ≤ 75) (hK_0_84 : ∀ j : Int, 0 ≤ j → j < 200 → 0 ≤ costB_0 j ∧ costB_0 j ≤ 75) (hK_0_85 : ∀ j : Int, 0 ≤ j → j < 200 → 0 ≤ costW_0 j ∧ costW_0 j ≤ 72) (hK_0_86 : ∀ j : Int, 0 ≤ j → j < 200 → 0 ≤ costPlain_0 j ∧ costPlain_0 j ≤ 1) (hK_0_95 : ∀ j : Int, 0 ≤ j → j < 48 → 0 ≤ turned_0 j ∧ turned_0 j ≤ 1) (hK_0_102 : ∀ j : Int, 0 ≤ j → j < 76 → 0 ≤ itemLayer_0 j ∧ itemLayer_0 j ≤ 75) (hK_0_104 : ∀ j : Int, 0 ≤ j → j < 48 → 0 ≤ firstJoint_0 j ∧ firstJoint_0 j ≤ 76) (hK_0_105 : ∀ j : Int, 0 ≤ j → j < 76 → 0 ≤ layerSize_0 j ∧ layerSize_0 j ≤ 76) (hK_0_106 : ∀ j : Int, 0 ≤ j → j < 5776 → 0 ≤ layerItem_0 j ∧ layerItem_0 j ≤ 75) (hK_0_108 : ∀ j : Int, 0 ≤ j → j < 130 → 0 ≤ lineA_0 j ∧ lineA_0 j ≤ 75) (hK_0_109 : ∀ j : Int, 0 ≤ j → j < 130 → 0 ≤ lineB_0 j ∧ lineB_0 j ≤ 75) (kz_0_79 : 0 ≤ pointMany_0 ∧ pointMany_0 ≤ 76) (kz_0_80 : 0 ≤ costMany_0 ∧ costMany_0 ≤ 200) (kz_0_81 : 0 ≤ apartMany_0 ∧ apartMany_0 ≤ 200) (kz_0_100 : 0 ≤ items_0 ∧ items_0 ≤ 76) (kz_0_101 : 0 ≤ layerMany_0 ∧ layerMany_0 ≤ 76) (kz_0_107 : 0 ≤ lines_0 ∧ lines_0 ≤ 130) (ex2 : gx = x2) (ex3 : 0 ≤ gx ∧ gx ≤ 199) : costMany_0 = gx := by
  try simp only [Int.add_zero] at *
  first
    | omega
    | (have h := ‹LSA _ _ _ _ _ _ _ _ _ _›.2.1; omega)
    | (have h := lsa_la (p := x2) (x := x15) ‹LSA _ _ _ _ _ _ _ _ _ _› (by omega) (by omega) (by assumption); omega)
    | (have h := lsa_lb (p := x2) (x := x16) ‹LSA _ _ _ _ _ _ _ _ _ _› (by omega) (by omega) (by assumption); omega)
set_option maxHeartbeats 4000000 in
theorem vc_Mo_across2_9_3 (x2 : Int) (x3 : Int) (x5 : Int) (x6 : Int) (x9 : Int) (x10 : Int) (x13 : Int) (x15 : Int) (x16 : Int) (lineB_0 : Int → Int) (lineA_0 : Int → Int) (all_0 : Int → Int) (r_0 : Int) (lines_0 : Int) (turned_0 : Int → Int) (itemLayer_0 : Int → Int) (firstJoint_0 : Int → Int) (items_0 : Int) (layerMany_0 : Int) (layerSize_0 : Int → Int) (layerItem_0 : Int → Int) (pointMany_0 : Int) (costA_0 : Int → Int) (costB_0 : Int → Int) (costW_0 : Int → Int) (costPlain_0 : Int → Int) (costMany_0 : Int) (apartMany_0 : Int) (gx : Int) (k2 : 0 ≤ x2 ∧ x2 ≤ 129) (k3 : 1 ≤ x3 ∧ x3 ≤ 130) (k5 : 0 ≤ x5 ∧ x5 ≤ 75) (k6 : 0 ≤ x6 ∧ x6 ≤ 24) (k9 : 0 ≤ x9 ∧ x9 ≤ 75) (k10 : 0 ≤ x10 ∧ x10 ≤ 24) (k13 : 0 ≤ x13 ∧ x13 ≤ 75) (k15 : 0 ≤ x15 ∧ x15 ≤ 75) (k16 : 0 ≤ x16 ∧ x16 ≤ 75) (d0 : x10 + 0 ≤ x9 ∧ x9 ≤ x10 + 4294967296) (d1 : x6 + 0 ≤ x5 ∧ x5 ≤ x6 + 4294967296) (d2 : x3 + (-4294967296) ≤ x2 ∧ x2 ≤ x3 + (-1)) (h0 : x16 = lineB_0 (x2)) (h2 : x15 = lineA_0 (x2)) (h4 : x13 = lineA_0 (x2)) (f5 : x10 ≤ x9) (f6 : 1 * x10 + ((-1) * all_0 (r_0 + 0) + 0) ≤ 0) (f7 : (-1) * x10 + (1 * all_0 (r_0 + 0) + 0) ≤ 0) (h8 : x9 = lineB_0 (x2)) (f9 : x6 ≤ x5) (f10 : 1 * x6 + ((-1) * all_0 (r_0 + 0) + 0) ≤ 0) (f11 : (-1) * x6 + (1 * all_0 (r_0 + 0) + 0) ≤ 0) (h12 : x5 = lineA_0 (x2)) (f13 : x2 < x3) (g14 : x3 = lines_0) (f15 : LSA (r_0) (items_0) (layerMany_0) (lines_0) (all_0) (turned_0) (itemLayer_0) (firstJoint_0) (lineA_0) (lineB_0)) (f16 : LSB (items_0) (layerMany_0) (itemLayer_0) (layerSize_0) (layerItem_0)) (f17 : SGR (r_0) (all_0)) (f18 : pointMany_0 = items_0) (f19 : PCQ (pointMany_0) (costMany_0) (costA_0) (costB_0) (costW_0) (costPlain_0)) (f20 : costMany_0 = x2) (f21 : apartMany_0 = 0) (hK_0_83 : ∀ j : Int, 0 ≤ j → j < 200 → 0 ≤ costA_0 j ∧ costA_0 j ≤ 75) (hK_0_84 : ∀ j : Int, 0 ≤ j → j < 200 → 0 ≤ costB_0 j ∧ costB_0 j ≤ 75) (hK_0_85 : ∀ j : Int, 0 ≤ j → j < 200 → 0 ≤ costW_0 j ∧ costW_0 j ≤ 72) (hK_0_86 : ∀ j : Int, 0 ≤ j → j < 200 → 0 ≤ costPlain_0 j ∧ costPlain_0 j ≤ 1) (hK_0_95 : ∀ j : Int, 0 ≤ j → j < 48 → 0 ≤ turned_0 j ∧ turned_0 j ≤ 1) (hK_0_102 : ∀ j : Int, 0 ≤ j → j < 76 → 0 ≤ itemLayer_0 j ∧ itemLayer_0 j ≤ 75) (hK_0_104 : ∀ j : Int, 0 ≤ j → j < 48 → 0 ≤ firstJoint_0 j ∧ firstJoint_0 j ≤ 76) (hK_0_105 : ∀ j : Int, 0 ≤ j → j < 76 → 0 ≤ layerSize_0 j ∧ layerSize_0 j ≤ 76) (hK_0_106 : ∀ j : Int, 0 ≤ j → j < 5776 → 0 ≤ layerItem_0 j ∧ layerItem_0 j ≤ 75) (hK_0_108 : ∀ j : Int, 0 ≤ j → j < 130 → 0 ≤ lineA_0 j ∧ lineA_0 j ≤ 75) (hK_0_109 : ∀ j : Int, 0 ≤ j → j < 130 → 0 ≤ lineB_0 j ∧ lineB_0 j ≤ 75) (kz_0_79 : 0 ≤ pointMany_0 ∧ pointMany_0 ≤ 76) (kz_0_80 : 0 ≤ costMany_0 ∧ costMany_0 ≤ 200) (kz_0_81 : 0 ≤ apartMany_0 ∧ apartMany_0 ≤ 200) (kz_0_100 : 0 ≤ items_0 ∧ items_0 ≤ 76) (kz_0_101 : 0 ≤ layerMany_0 ∧ layerMany_0 ≤ 76) (kz_0_107 : 0 ≤ lines_0 ∧ lines_0 ≤ 130) (ex2 : gx = x2) (ex3 : 0 ≤ gx ∧ gx ≤ 199) : PCQ (pointMany_0) (costMany_0) (costA_0) (costB_0) (costW_0) (costPlain_0) := by
  assumption
set_option maxHeartbeats 4000000 in
theorem vc_Mo_across2_9_4 (x2 : Int) (x3 : Int) (x5 : Int) (x6 : Int) (x9 : Int) (x10 : Int) (x13 : Int) (x15 : Int) (x16 : Int) (lineB_0 : Int → Int) (lineA_0 : Int → Int) (all_0 : Int → Int) (r_0 : Int) (lines_0 : Int) (turned_0 : Int → Int) (itemLayer_0 : Int → Int) (firstJoint_0 : Int → Int) (items_0 : Int) (layerMany_0 : Int) (layerSize_0 : Int → Int) (layerItem_0 : Int → Int) (pointMany_0 : Int) (costA_0 : Int → Int) (costB_0 : Int → Int) (costW_0 : Int → Int) (costPlain_0 : Int → Int) (costMany_0 : Int) (apartMany_0 : Int) (gx : Int) (k2 : 0 ≤ x2 ∧ x2 ≤ 129) (k3 : 1 ≤ x3 ∧ x3 ≤ 130) (k5 : 0 ≤ x5 ∧ x5 ≤ 75) (k6 : 0 ≤ x6 ∧ x6 ≤ 24) (k9 : 0 ≤ x9 ∧ x9 ≤ 75) (k10 : 0 ≤ x10 ∧ x10 ≤ 24) (k13 : 0 ≤ x13 ∧ x13 ≤ 75) (k15 : 0 ≤ x15 ∧ x15 ≤ 75) (k16 : 0 ≤ x16 ∧ x16 ≤ 75) (d0 : x10 + 0 ≤ x9 ∧ x9 ≤ x10 + 4294967296) (d1 : x6 + 0 ≤ x5 ∧ x5 ≤ x6 + 4294967296) (d2 : x3 + (-4294967296) ≤ x2 ∧ x2 ≤ x3 + (-1)) (h0 : x16 = lineB_0 (x2)) (h2 : x15 = lineA_0 (x2)) (h4 : x13 = lineA_0 (x2)) (f5 : x10 ≤ x9) (f6 : 1 * x10 + ((-1) * all_0 (r_0 + 0) + 0) ≤ 0) (f7 : (-1) * x10 + (1 * all_0 (r_0 + 0) + 0) ≤ 0) (h8 : x9 = lineB_0 (x2)) (f9 : x6 ≤ x5) (f10 : 1 * x6 + ((-1) * all_0 (r_0 + 0) + 0) ≤ 0) (f11 : (-1) * x6 + (1 * all_0 (r_0 + 0) + 0) ≤ 0) (h12 : x5 = lineA_0 (x2)) (f13 : x2 < x3) (g14 : x3 = lines_0) (f15 : LSA (r_0) (items_0) (layerMany_0) (lines_0) (all_0) (turned_0) (itemLayer_0) (firstJoint_0) (lineA_0) (lineB_0)) (f16 : LSB (items_0) (layerMany_0) (itemLayer_0) (layerSize_0) (layerItem_0)) (f17 : SGR (r_0) (all_0)) (f18 : pointMany_0 = items_0) (f19 : PCQ (pointMany_0) (costMany_0) (costA_0) (costB_0) (costW_0) (costPlain_0)) (f20 : costMany_0 = x2) (f21 : apartMany_0 = 0) (hK_0_83 : ∀ j : Int, 0 ≤ j → j < 200 → 0 ≤ costA_0 j ∧ costA_0 j ≤ 75) (hK_0_84 : ∀ j : Int, 0 ≤ j → j < 200 → 0 ≤ costB_0 j ∧ costB_0 j ≤ 75) (hK_0_85 : ∀ j : Int, 0 ≤ j → j < 200 → 0 ≤ costW_0 j ∧ costW_0 j ≤ 72) (hK_0_86 : ∀ j : Int, 0 ≤ j → j < 200 → 0 ≤ costPlain_0 j ∧ costPlain_0 j ≤ 1) (hK_0_95 : ∀ j : Int, 0 ≤ j → j < 48 → 0 ≤ turned_0 j ∧ turned_0 j ≤ 1) (hK_0_102 : ∀ j : Int, 0 ≤ j → j < 76 → 0 ≤ itemLayer_0 j ∧ itemLayer_0 j ≤ 75) (hK_0_104 : ∀ j : Int, 0 ≤ j → j < 48 → 0 ≤ firstJoint_0 j ∧ firstJoint_0 j ≤ 76) (hK_0_105 : ∀ j : Int, 0 ≤ j → j < 76 → 0 ≤ layerSize_0 j ∧ layerSize_0 j ≤ 76) (hK_0_106 : ∀ j : Int, 0 ≤ j → j < 5776 → 0 ≤ layerItem_0 j ∧ layerItem_0 j ≤ 75) (hK_0_108 : ∀ j : Int, 0 ≤ j → j < 130 → 0 ≤ lineA_0 j ∧ lineA_0 j ≤ 75) (hK_0_109 : ∀ j : Int, 0 ≤ j → j < 130 → 0 ≤ lineB_0 j ∧ lineB_0 j ≤ 75) (kz_0_79 : 0 ≤ pointMany_0 ∧ pointMany_0 ≤ 76) (kz_0_80 : 0 ≤ costMany_0 ∧ costMany_0 ≤ 200) (kz_0_81 : 0 ≤ apartMany_0 ∧ apartMany_0 ≤ 200) (kz_0_100 : 0 ≤ items_0 ∧ items_0 ≤ 76) (kz_0_101 : 0 ≤ layerMany_0 ∧ layerMany_0 ≤ 76) (kz_0_107 : 0 ≤ lines_0 ∧ lines_0 ≤ 130) (ex2 : gx = x2) (ex3 : 0 ≤ gx ∧ gx ≤ 199) : (0 ≤ x15) ∧ ((x15 + 1) ≤ pointMany_0) := by
  try simp only [Int.add_zero] at *
  first
    | omega
    | (have h := ‹LSA _ _ _ _ _ _ _ _ _ _›.2.1; omega)
    | (have h := lsa_la (p := x2) (x := x15) ‹LSA _ _ _ _ _ _ _ _ _ _› (by omega) (by omega) (by assumption); omega)
    | (have h := lsa_lb (p := x2) (x := x16) ‹LSA _ _ _ _ _ _ _ _ _ _› (by omega) (by omega) (by assumption); omega)
set_option maxHeartbeats 4000000 in
theorem vc_Mo_across2_9_5 (x2 : Int) (x3 : Int) (x5 : Int) (x6 : Int) (x9 : Int) (x10 : Int) (x13 : Int) (x15 : Int) (x16 : Int) (lineB_0 : Int → Int) (lineA_0 : Int → Int) (all_0 : Int → Int) (r_0 : Int) (lines_0 : Int) (turned_0 : Int → Int) (itemLayer_0 : Int → Int) (firstJoint_0 : Int → Int) (items_0 : Int) (layerMany_0 : Int) (layerSize_0 : Int → Int) (layerItem_0 : Int → Int) (pointMany_0 : Int) (costA_0 : Int → Int) (costB_0 : Int → Int) (costW_0 : Int → Int) (costPlain_0 : Int → Int) (costMany_0 : Int) (apartMany_0 : Int) (gx : Int) (k2 : 0 ≤ x2 ∧ x2 ≤ 129) (k3 : 1 ≤ x3 ∧ x3 ≤ 130) (k5 : 0 ≤ x5 ∧ x5 ≤ 75) (k6 : 0 ≤ x6 ∧ x6 ≤ 24) (k9 : 0 ≤ x9 ∧ x9 ≤ 75) (k10 : 0 ≤ x10 ∧ x10 ≤ 24) (k13 : 0 ≤ x13 ∧ x13 ≤ 75) (k15 : 0 ≤ x15 ∧ x15 ≤ 75) (k16 : 0 ≤ x16 ∧ x16 ≤ 75) (d0 : x10 + 0 ≤ x9 ∧ x9 ≤ x10 + 4294967296) (d1 : x6 + 0 ≤ x5 ∧ x5 ≤ x6 + 4294967296) (d2 : x3 + (-4294967296) ≤ x2 ∧ x2 ≤ x3 + (-1)) (h0 : x16 = lineB_0 (x2)) (h2 : x15 = lineA_0 (x2)) (h4 : x13 = lineA_0 (x2)) (f5 : x10 ≤ x9) (f6 : 1 * x10 + ((-1) * all_0 (r_0 + 0) + 0) ≤ 0) (f7 : (-1) * x10 + (1 * all_0 (r_0 + 0) + 0) ≤ 0) (h8 : x9 = lineB_0 (x2)) (f9 : x6 ≤ x5) (f10 : 1 * x6 + ((-1) * all_0 (r_0 + 0) + 0) ≤ 0) (f11 : (-1) * x6 + (1 * all_0 (r_0 + 0) + 0) ≤ 0) (h12 : x5 = lineA_0 (x2)) (f13 : x2 < x3) (g14 : x3 = lines_0) (f15 : LSA (r_0) (items_0) (layerMany_0) (lines_0) (all_0) (turned_0) (itemLayer_0) (firstJoint_0) (lineA_0) (lineB_0)) (f16 : LSB (items_0) (layerMany_0) (itemLayer_0) (layerSize_0) (layerItem_0)) (f17 : SGR (r_0) (all_0)) (f18 : pointMany_0 = items_0) (f19 : PCQ (pointMany_0) (costMany_0) (costA_0) (costB_0) (costW_0) (costPlain_0)) (f20 : costMany_0 = x2) (f21 : apartMany_0 = 0) (hK_0_83 : ∀ j : Int, 0 ≤ j → j < 200 → 0 ≤ costA_0 j ∧ costA_0 j ≤ 75) (hK_0_84 : ∀ j : Int, 0 ≤ j → j < 200 → 0 ≤ costB_0 j ∧ costB_0 j ≤ 75) (hK_0_85 : ∀ j : Int, 0 ≤ j → j < 200 → 0 ≤ costW_0 j ∧ costW_0 j ≤ 72) (hK_0_86 : ∀ j : Int, 0 ≤ j → j < 200 → 0 ≤ costPlain_0 j ∧ costPlain_0 j ≤ 1) (hK_0_95 : ∀ j : Int, 0 ≤ j → j < 48 → 0 ≤ turned_0 j ∧ turned_0 j ≤ 1) (hK_0_102 : ∀ j : Int, 0 ≤ j → j < 76 → 0 ≤ itemLayer_0 j ∧ itemLayer_0 j ≤ 75) (hK_0_104 : ∀ j : Int, 0 ≤ j → j < 48 → 0 ≤ firstJoint_0 j ∧ firstJoint_0 j ≤ 76) (hK_0_105 : ∀ j : Int, 0 ≤ j → j < 76 → 0 ≤ layerSize_0 j ∧ layerSize_0 j ≤ 76) (hK_0_106 : ∀ j : Int, 0 ≤ j → j < 5776 → 0 ≤ layerItem_0 j ∧ layerItem_0 j ≤ 75) (hK_0_108 : ∀ j : Int, 0 ≤ j → j < 130 → 0 ≤ lineA_0 j ∧ lineA_0 j ≤ 75) (hK_0_109 : ∀ j : Int, 0 ≤ j → j < 130 → 0 ≤ lineB_0 j ∧ lineB_0 j ≤ 75) (kz_0_79 : 0 ≤ pointMany_0 ∧ pointMany_0 ≤ 76) (kz_0_80 : 0 ≤ costMany_0 ∧ costMany_0 ≤ 200) (kz_0_81 : 0 ≤ apartMany_0 ∧ apartMany_0 ≤ 200) (kz_0_100 : 0 ≤ items_0 ∧ items_0 ≤ 76) (kz_0_101 : 0 ≤ layerMany_0 ∧ layerMany_0 ≤ 76) (kz_0_107 : 0 ≤ lines_0 ∧ lines_0 ≤ 130) (ex2 : gx = x2) (ex3 : 0 ≤ gx ∧ gx ≤ 199) : (0 ≤ x16) ∧ ((x16 + 1) ≤ pointMany_0) := by
  try simp only [Int.add_zero] at *
  first
    | omega
    | (have h := ‹LSA _ _ _ _ _ _ _ _ _ _›.2.1; omega)
    | (have h := lsa_la (p := x2) (x := x15) ‹LSA _ _ _ _ _ _ _ _ _ _› (by omega) (by omega) (by assumption); omega)
    | (have h := lsa_lb (p := x2) (x := x16) ‹LSA _ _ _ _ _ _ _ _ _ _› (by omega) (by omega) (by assumption); omega)
def o_Mo_across2_9 : or_T := (167, 21, [(0, (2, 0, 0, [150])), (1, (2, 0, 0, [150])), (2, (0, 0, 129, [])), (3, (0, 1, 130, [])), (4, (2, 0, 0, [225])), (5, (0, 0, 75, [])), (6, (0, 0, 24, [])), (8, (2, 0, 0, [226])), (9, (0, 0, 75, [])), (10, (0, 0, 24, [])), (13, (0, 0, 75, [])), (15, (0, 0, 75, [])), (16, (0, 0, 75, []))], [(10, [16, 8, 2], []), (9, [8, 1], [109]), (10, [15, 4, 2], []), (9, [4, 1], [108]), (10, [13, 4, 2], []), (7, [9, 10], [3]), (20, [10, 1], [30, 0, 1, 0, 0, -1, 3, 2005000]), (20, [10, 1], [30, 0, -1, 0, 0, 1, 3, 2005000]), (10, [9, 8, 2], []), (7, [5, 6], [3]), (20, [6, 1], [30, 0, 1, 0, 0, -1, 3, 2005000]), (20, [6, 1], [30, 0, -1, 0, 0, 1, 3, 2005000]), (10, [5, 4, 2], []), (7, [2, 3], [2]), (9, [3, 1], [107]), (20, [1], [60, 4, 6, 369, 5, 100, 101, 107, 2, 95, 102, 104, 108, 109]), (20, [1], [60, 2, 3, 372, 100, 101, 102, 105, 106]), (20, [1], [60, 1, 1, 122, 5, 2]), (20, [1], [50, 2, 0, 79, 100, 1, 3, 2, 0, 79, 2, 0, 100]), (20, [1], [60, 2, 4, 380, 79, 80, 83, 84, 85, 86]), (20, [1, 2], [50, 1, 0, 80, 1, 3, 2, 0, 80, 1, 1]), (20, [1], [50, 1, 0, 81, 1, 3, 2, 0, 81, 0, 0]), (24, [0, 1], [])], [], [(0, 0, 199, [])], [(23, [21, 2], [0, 1, -1]), (23, [21, 2], [0, -1, 1]), (20, [1, 21], [50, 1, 0, 80, 1, 3, 2, 0, 80, 1, 1]), (20, [1], [60, 2, 4, 380, 79, 80, 83, 84, 85, 86]), (20, [15, 1], [50, 1, 0, 1079, 2, 6, 0, 2, 0, 0, 1, 0, 0, 6, 4, 2, 1, 0, 0, 1, 2, 1, 79]), (20, [16, 1], [50, 1, 0, 1079, 2, 6, 0, 2, 0, 0, 1, 0, 0, 6, 4, 2, 1, 0, 0, 1, 2, 1, 79])], [], [(9, 10, 0, 4294967296), (5, 6, 0, 4294967296), (2, 3, -4294967296, -1)])
theorem oo_Mo_across2_9 {kA : Nat → ClassId} : or_ok PRD kA GG o_Mo_across2_9 := by
  intro A ta ws vs hD hth hl hk hds hf
  have hl : vs.length = 21 := hl
  have hk : ∀ q ∈ ([(0, (2, 0, 0, [150])), (1, (2, 0, 0, [150])), (2, (0, 0, 129, [])), (3, (0, 1, 130, [])), (4, (2, 0, 0, [225])), (5, (0, 0, 75, [])), (6, (0, 0, 24, [])), (8, (2, 0, 0, [226])), (9, (0, 0, 75, [])), (10, (0, 0, 24, [])), (13, (0, 0, 75, [])), (15, (0, 0, 75, [])), (16, (0, 0, 75, []))] : List (Nat × tv_T)), tv_ok ta q.2 (n_v vs q.1) := hk
  obtain ⟨t0, hk⟩ := List.forall_mem_cons.mp hk
  have t0 : tv_ok ta (2, 0, 0, [150]) (n_v vs 0) := t0
  have r0 : ta (v_ad (n_v vs 0)) = some 150 := tv_rg t0
  obtain ⟨t1, hk⟩ := List.forall_mem_cons.mp hk
  have t1 : tv_ok ta (2, 0, 0, [150]) (n_v vs 1) := t1
  have r1 : ta (v_ad (n_v vs 1)) = some 150 := tv_rg t1
  obtain ⟨t2, hk⟩ := List.forall_mem_cons.mp hk
  have t2 : tv_ok ta (0, 0, 129, []) (n_v vs 2) := t2
  have k2 : 0 ≤ v_iv (n_v vs 2) ∧ v_iv (n_v vs 2) ≤ 129 := tv_rng t2
  obtain ⟨t3, hk⟩ := List.forall_mem_cons.mp hk
  have t3 : tv_ok ta (0, 1, 130, []) (n_v vs 3) := t3
  have k3 : 1 ≤ v_iv (n_v vs 3) ∧ v_iv (n_v vs 3) ≤ 130 := tv_rng t3
  obtain ⟨t4, hk⟩ := List.forall_mem_cons.mp hk
  have t4 : tv_ok ta (2, 0, 0, [225]) (n_v vs 4) := t4
  have r4 : ta (v_ad (n_v vs 4)) = some 225 := tv_rg t4
  obtain ⟨t5, hk⟩ := List.forall_mem_cons.mp hk
  have t5 : tv_ok ta (0, 0, 75, []) (n_v vs 5) := t5
  have k5 : 0 ≤ v_iv (n_v vs 5) ∧ v_iv (n_v vs 5) ≤ 75 := tv_rng t5
  obtain ⟨t6, hk⟩ := List.forall_mem_cons.mp hk
  have t6 : tv_ok ta (0, 0, 24, []) (n_v vs 6) := t6
  have k6 : 0 ≤ v_iv (n_v vs 6) ∧ v_iv (n_v vs 6) ≤ 24 := tv_rng t6
  obtain ⟨t8, hk⟩ := List.forall_mem_cons.mp hk
  have t8 : tv_ok ta (2, 0, 0, [226]) (n_v vs 8) := t8
  have r8 : ta (v_ad (n_v vs 8)) = some 226 := tv_rg t8
  obtain ⟨t9, hk⟩ := List.forall_mem_cons.mp hk
  have t9 : tv_ok ta (0, 0, 75, []) (n_v vs 9) := t9
  have k9 : 0 ≤ v_iv (n_v vs 9) ∧ v_iv (n_v vs 9) ≤ 75 := tv_rng t9
  obtain ⟨t10, hk⟩ := List.forall_mem_cons.mp hk
  have t10 : tv_ok ta (0, 0, 24, []) (n_v vs 10) := t10
  have k10 : 0 ≤ v_iv (n_v vs 10) ∧ v_iv (n_v vs 10) ≤ 24 := tv_rng t10
  obtain ⟨t13, hk⟩ := List.forall_mem_cons.mp hk
  have t13 : tv_ok ta (0, 0, 75, []) (n_v vs 13) := t13
  have k13 : 0 ≤ v_iv (n_v vs 13) ∧ v_iv (n_v vs 13) ≤ 75 := tv_rng t13
  obtain ⟨t15, hk⟩ := List.forall_mem_cons.mp hk
  have t15 : tv_ok ta (0, 0, 75, []) (n_v vs 15) := t15
  have k15 : 0 ≤ v_iv (n_v vs 15) ∧ v_iv (n_v vs 15) ≤ 75 := tv_rng t15
  obtain ⟨t16, hk⟩ := List.forall_mem_cons.mp hk
  have t16 : tv_ok ta (0, 0, 75, []) (n_v vs 16) := t16
  have k16 : 0 ≤ v_iv (n_v vs 16) ∧ v_iv (n_v vs 16) ≤ 75 := tv_rng t16
  have hds : ∀ q ∈ ([(9, 10, 0, 4294967296), (5, 6, 0, 4294967296), (2, 3, -4294967296, -1)] : List of_T), n_iv vs q.2.1 + q.2.2.1 ≤ n_iv vs q.1 ∧ n_iv vs q.1 ≤ n_iv vs q.2.1 + q.2.2.2 := hds
  obtain ⟨d0, hds⟩ := List.forall_mem_cons.mp hds
  have d0 : v_iv (n_v vs 10) + 0 ≤ v_iv (n_v vs 9) ∧ v_iv (n_v vs 9) ≤ v_iv (n_v vs 10) + 4294967296 := d0
  obtain ⟨d1, hds⟩ := List.forall_mem_cons.mp hds
  have d1 : v_iv (n_v vs 6) + 0 ≤ v_iv (n_v vs 5) ∧ v_iv (n_v vs 5) ≤ v_iv (n_v vs 6) + 4294967296 := d1
  obtain ⟨d2, hds⟩ := List.forall_mem_cons.mp hds
  have d2 : v_iv (n_v vs 3) + (-4294967296) ≤ v_iv (n_v vs 2) ∧ v_iv (n_v vs 2) ≤ v_iv (n_v vs 3) + (-1) := d2
  have hf : fc_ok PRD [(10, [16, 8, 2], []), (9, [8, 1], [109]), (10, [15, 4, 2], []), (9, [4, 1], [108]), (10, [13, 4, 2], []), (7, [9, 10], [3]), (20, [10, 1], [30, 0, 1, 0, 0, -1, 3, 2005000]), (20, [10, 1], [30, 0, -1, 0, 0, 1, 3, 2005000]), (10, [9, 8, 2], []), (7, [5, 6], [3]), (20, [6, 1], [30, 0, 1, 0, 0, -1, 3, 2005000]), (20, [6, 1], [30, 0, -1, 0, 0, 1, 3, 2005000]), (10, [5, 4, 2], []), (7, [2, 3], [2]), (9, [3, 1], [107]), (20, [1], [60, 4, 6, 369, 5, 100, 101, 107, 2, 95, 102, 104, 108, 109]), (20, [1], [60, 2, 3, 372, 100, 101, 102, 105, 106]), (20, [1], [60, 1, 1, 122, 5, 2]), (20, [1], [50, 2, 0, 79, 100, 1, 3, 2, 0, 79, 2, 0, 100]), (20, [1], [60, 2, 4, 380, 79, 80, 83, 84, 85, 86]), (20, [1, 2], [50, 1, 0, 80, 1, 3, 2, 0, 80, 1, 1]), (20, [1], [50, 1, 0, 81, 1, 3, 2, 0, 81, 0, 0]), (24, [0, 1], [])] ta ws vs := hf
  obtain ⟨f0, hf⟩ := fc_un (show (10 : Nat) < 100 from by decide) hf
  have f0 : v_iv (n_v vs 16) = w_el ws (v_ad (n_v vs 8)) (v_iv (n_v vs 2)).toNat := f0
  obtain ⟨f1, hf⟩ := fc_un (show (9 : Nat) < 100 from by decide) hf
  have f1 : n_v vs 8 = w_fd ws (v_ad (n_v vs 1)) 109 := f1
  obtain ⟨f2, hf⟩ := fc_un (show (10 : Nat) < 100 from by decide) hf
  have f2 : v_iv (n_v vs 15) = w_el ws (v_ad (n_v vs 4)) (v_iv (n_v vs 2)).toNat := f2
  obtain ⟨f3, hf⟩ := fc_un (show (9 : Nat) < 100 from by decide) hf
  have f3 : n_v vs 4 = w_fd ws (v_ad (n_v vs 1)) 108 := f3
  obtain ⟨f4, hf⟩ := fc_un (show (10 : Nat) < 100 from by decide) hf
  have f4 : v_iv (n_v vs 13) = w_el ws (v_ad (n_v vs 4)) (v_iv (n_v vs 2)).toNat := f4
  obtain ⟨f5, hf⟩ := fc_un (show (7 : Nat) < 100 from by decide) hf
  have f5 : v_iv (n_v vs 10) ≤ v_iv (n_v vs 9) := f5
  obtain ⟨f6, hf⟩ := fc_un (show (20 : Nat) < 100 from by decide) hf
  have f6 : 1 * v_iv (n_v vs 10) + ((-1) * w_el ws (w_ar ws (n_v vs 1) 2) (w_fi ws (n_v vs 1) 5 + 0).toNat + 0) ≤ 0 := f6
  obtain ⟨f7, hf⟩ := fc_un (show (20 : Nat) < 100 from by decide) hf
  have f7 : (-1) * v_iv (n_v vs 10) + (1 * w_el ws (w_ar ws (n_v vs 1) 2) (w_fi ws (n_v vs 1) 5 + 0).toNat + 0) ≤ 0 := f7
  obtain ⟨f8, hf⟩ := fc_un (show (10 : Nat) < 100 from by decide) hf
  have f8 : v_iv (n_v vs 9) = w_el ws (v_ad (n_v vs 8)) (v_iv (n_v vs 2)).toNat := f8
  obtain ⟨f9, hf⟩ := fc_un (show (7 : Nat) < 100 from by decide) hf
  have f9 : v_iv (n_v vs 6) ≤ v_iv (n_v vs 5) := f9
  obtain ⟨f10, hf⟩ := fc_un (show (20 : Nat) < 100 from by decide) hf
  have f10 : 1 * v_iv (n_v vs 6) + ((-1) * w_el ws (w_ar ws (n_v vs 1) 2) (w_fi ws (n_v vs 1) 5 + 0).toNat + 0) ≤ 0 := f10
  obtain ⟨f11, hf⟩ := fc_un (show (20 : Nat) < 100 from by decide) hf
  have f11 : (-1) * v_iv (n_v vs 6) + (1 * w_el ws (w_ar ws (n_v vs 1) 2) (w_fi ws (n_v vs 1) 5 + 0).toNat + 0) ≤ 0 := f11
  obtain ⟨f12, hf⟩ := fc_un (show (10 : Nat) < 100 from by decide) hf
  have f12 : v_iv (n_v vs 5) = w_el ws (v_ad (n_v vs 4)) (v_iv (n_v vs 2)).toNat := f12
  obtain ⟨f13, hf⟩ := fc_un (show (7 : Nat) < 100 from by decide) hf
  have f13 : v_iv (n_v vs 2) < v_iv (n_v vs 3) := f13
  obtain ⟨f14, hf⟩ := fc_un (show (9 : Nat) < 100 from by decide) hf
  have f14 : n_v vs 3 = w_fd ws (v_ad (n_v vs 1)) 107 := f14
  obtain ⟨f15, hf⟩ := fc_un (show (20 : Nat) < 100 from by decide) hf
  have f15 : LSA (w_fi ws (n_v vs 1) 5) (w_fi ws (n_v vs 1) 100) (w_fi ws (n_v vs 1) 101) (w_fi ws (n_v vs 1) 107) (w_ei ws (w_ar ws (n_v vs 1) 2)) (w_ei ws (w_ar ws (n_v vs 1) 95)) (w_ei ws (w_ar ws (n_v vs 1) 102)) (w_ei ws (w_ar ws (n_v vs 1) 104)) (w_ei ws (w_ar ws (n_v vs 1) 108)) (w_ei ws (w_ar ws (n_v vs 1) 109)) := f15
  obtain ⟨f16, hf⟩ := fc_un (show (20 : Nat) < 100 from by decide) hf
  have f16 : LSB (w_fi ws (n_v vs 1) 100) (w_fi ws (n_v vs 1) 101) (w_ei ws (w_ar ws (n_v vs 1) 102)) (w_ei ws (w_ar ws (n_v vs 1) 105)) (w_ei ws (w_ar ws (n_v vs 1) 106)) := f16
  obtain ⟨f17, hf⟩ := fc_un (show (20 : Nat) < 100 from by decide) hf
  have f17 : SGR (w_fi ws (n_v vs 1) 5) (w_ei ws (w_ar ws (n_v vs 1) 2)) := f17
  obtain ⟨f18, hf⟩ := fc_un (show (20 : Nat) < 100 from by decide) hf
  have f18 : w_fi ws (n_v vs 1) 79 = w_fi ws (n_v vs 1) 100 := f18
  obtain ⟨f19, hf⟩ := fc_un (show (20 : Nat) < 100 from by decide) hf
  have f19 : PCQ (w_fi ws (n_v vs 1) 79) (w_fi ws (n_v vs 1) 80) (w_ei ws (w_ar ws (n_v vs 1) 83)) (w_ei ws (w_ar ws (n_v vs 1) 84)) (w_ei ws (w_ar ws (n_v vs 1) 85)) (w_ei ws (w_ar ws (n_v vs 1) 86)) := f19
  obtain ⟨f20, hf⟩ := fc_un (show (20 : Nat) < 100 from by decide) hf
  have f20 : w_fi ws (n_v vs 1) 80 = v_iv (n_v vs 2) := f20
  obtain ⟨f21, hf⟩ := fc_un (show (20 : Nat) < 100 from by decide) hf
  have f21 : w_fi ws (n_v vs 1) 81 = 0 := f21
  obtain ⟨f22, hf⟩ := fc_un (show (24 : Nat) < 100 from by decide) hf
  have f22 : n_v vs 0 = n_v vs 1 := f22
  have q1 : n_v vs 1 = n_v vs 0 := f22.symm
  rw [q1] at f1
  rw [q1] at f3
  rw [q1] at f6
  rw [q1] at f7
  rw [q1] at f10
  rw [q1] at f11
  rw [q1] at f14
  rw [q1] at f15
  rw [q1] at f16
  rw [q1] at f17
  rw [q1] at f18
  rw [q1] at f19
  rw [q1] at f20
  rw [q1] at f21
  have cr_0_2 : ta (w_ar ws (n_v vs 0) 2) = some 152 := tv_rg (th_fd hD hth r0 (g := GG_150) rfl (k := 2) (t := (2, 0, 0, [152])) rfl rfl)
  have cr_0_83 : ta (w_ar ws (n_v vs 0) 83) = some 205 := tv_rg (th_fd hD hth r0 (g := GG_150) rfl (k := 83) (t := (2, 0, 0, [205])) rfl rfl)
  have cr_0_84 : ta (w_ar ws (n_v vs 0) 84) = some 206 := tv_rg (th_fd hD hth r0 (g := GG_150) rfl (k := 84) (t := (2, 0, 0, [206])) rfl rfl)
  have cr_0_85 : ta (w_ar ws (n_v vs 0) 85) = some 207 := tv_rg (th_fd hD hth r0 (g := GG_150) rfl (k := 85) (t := (2, 0, 0, [207])) rfl rfl)
  have cr_0_86 : ta (w_ar ws (n_v vs 0) 86) = some 208 := tv_rg (th_fd hD hth r0 (g := GG_150) rfl (k := 86) (t := (2, 0, 0, [208])) rfl rfl)
  have cr_0_95 : ta (w_ar ws (n_v vs 0) 95) = some 216 := tv_rg (th_fd hD hth r0 (g := GG_150) rfl (k := 95) (t := (2, 0, 0, [216])) rfl rfl)
  have cr_0_102 : ta (w_ar ws (n_v vs 0) 102) = some 220 := tv_rg (th_fd hD hth r0 (g := GG_150) rfl (k := 102) (t := (2, 0, 0, [220])) rfl rfl)
  have cr_0_104 : ta (w_ar ws (n_v vs 0) 104) = some 222 := tv_rg (th_fd hD hth r0 (g := GG_150) rfl (k := 104) (t := (2, 0, 0, [222])) rfl rfl)
  have cr_0_105 : ta (w_ar ws (n_v vs 0) 105) = some 223 := tv_rg (th_fd hD hth r0 (g := GG_150) rfl (k := 105) (t := (2, 0, 0, [223])) rfl rfl)
  have cr_0_106 : ta (w_ar ws (n_v vs 0) 106) = some 224 := tv_rg (th_fd hD hth r0 (g := GG_150) rfl (k := 106) (t := (2, 0, 0, [224])) rfl rfl)
  have cr_0_108 : ta (w_ar ws (n_v vs 0) 108) = some 225 := tv_rg (th_fd hD hth r0 (g := GG_150) rfl (k := 108) (t := (2, 0, 0, [225])) rfl rfl)
  have cr_0_109 : ta (w_ar ws (n_v vs 0) 109) = some 226 := tv_rg (th_fd hD hth r0 (g := GG_150) rfl (k := 109) (t := (2, 0, 0, [226])) rfl rfl)
  have ad_8 : v_ad (n_v vs 8) = w_ar ws (n_v vs 0) 109 := congrArg v_ad f1
  have ad_4 : v_ad (n_v vs 4) = w_ar ws (n_v vs 0) 108 := congrArg v_ad f3
  rw [ad_8] at f0
  have h0 : v_iv (n_v vs 16) = w_ei ws (w_ar ws (n_v vs 0) 109) (v_iv (n_v vs 2)) := f0
  rw [ad_4] at f2
  have h2 : v_iv (n_v vs 15) = w_ei ws (w_ar ws (n_v vs 0) 108) (v_iv (n_v vs 2)) := f2
  rw [ad_4] at f4
  have h4 : v_iv (n_v vs 13) = w_ei ws (w_ar ws (n_v vs 0) 108) (v_iv (n_v vs 2)) := f4
  rw [ad_8] at f8
  have h8 : v_iv (n_v vs 9) = w_ei ws (w_ar ws (n_v vs 0) 109) (v_iv (n_v vs 2)) := f8
  rw [ad_4] at f12
  have h12 : v_iv (n_v vs 5) = w_ei ws (w_ar ws (n_v vs 0) 108) (v_iv (n_v vs 2)) := f12
  have g14 : v_iv (n_v vs 3) = w_fi ws (n_v vs 0) 107 := congrArg v_iv f14
  have hK_0_83 : ∀ j : Int, 0 ≤ j → j < 200 → 0 ≤ w_ei ws (w_ar ws (n_v vs 0) 83) j ∧ w_ei ws (w_ar ws (n_v vs 0) 83) j ≤ 75 := fun j h0 h1 => th_el hD hth cr_0_83 (kd := 0) (n := 200) (m := 200) (lo := 0) (hi := 75) (rs := []) (L := []) rfl (by decide) (j := j.toNat) (by omega)
  have hK_0_84 : ∀ j : Int, 0 ≤ j → j < 200 → 0 ≤ w_ei ws (w_ar ws (n_v vs 0) 84) j ∧ w_ei ws (w_ar ws (n_v vs 0) 84) j ≤ 75 := fun j h0 h1 => th_el hD hth cr_0_84 (kd := 0) (n := 200) (m := 200) (lo := 0) (hi := 75) (rs := []) (L := []) rfl (by decide) (j := j.toNat) (by omega)
  have hK_0_85 : ∀ j : Int, 0 ≤ j → j < 200 → 0 ≤ w_ei ws (w_ar ws (n_v vs 0) 85) j ∧ w_ei ws (w_ar ws (n_v vs 0) 85) j ≤ 72 := fun j h0 h1 => th_el hD hth cr_0_85 (kd := 0) (n := 200) (m := 200) (lo := 0) (hi := 72) (rs := []) (L := []) rfl (by decide) (j := j.toNat) (by omega)
  have hK_0_86 : ∀ j : Int, 0 ≤ j → j < 200 → 0 ≤ w_ei ws (w_ar ws (n_v vs 0) 86) j ∧ w_ei ws (w_ar ws (n_v vs 0) 86) j ≤ 1 := fun j h0 h1 => th_el hD hth cr_0_86 (kd := 2) (n := 200) (m := 200) (lo := 0) (hi := 1) (rs := []) (L := []) rfl (by decide) (j := j.toNat) (by omega)
  have hK_0_95 : ∀ j : Int, 0 ≤ j → j < 48 → 0 ≤ w_ei ws (w_ar ws (n_v vs 0) 95) j ∧ w_ei ws (w_ar ws (n_v vs 0) 95) j ≤ 1 := fun j h0 h1 => th_el hD hth cr_0_95 (kd := 2) (n := 48) (m := 48) (lo := 0) (hi := 1) (rs := []) (L := []) rfl (by decide) (j := j.toNat) (by omega)
  have hK_0_102 : ∀ j : Int, 0 ≤ j → j < 76 → 0 ≤ w_ei ws (w_ar ws (n_v vs 0) 102) j ∧ w_ei ws (w_ar ws (n_v vs 0) 102) j ≤ 75 := fun j h0 h1 => th_el hD hth cr_0_102 (kd := 0) (n := 76) (m := 76) (lo := 0) (hi := 75) (rs := []) (L := []) rfl (by decide) (j := j.toNat) (by omega)
  have hK_0_104 : ∀ j : Int, 0 ≤ j → j < 48 → 0 ≤ w_ei ws (w_ar ws (n_v vs 0) 104) j ∧ w_ei ws (w_ar ws (n_v vs 0) 104) j ≤ 76 := fun j h0 h1 => th_el hD hth cr_0_104 (kd := 0) (n := 48) (m := 48) (lo := 0) (hi := 76) (rs := []) (L := []) rfl (by decide) (j := j.toNat) (by omega)
  have hK_0_105 : ∀ j : Int, 0 ≤ j → j < 76 → 0 ≤ w_ei ws (w_ar ws (n_v vs 0) 105) j ∧ w_ei ws (w_ar ws (n_v vs 0) 105) j ≤ 76 := fun j h0 h1 => th_el hD hth cr_0_105 (kd := 0) (n := 76) (m := 76) (lo := 0) (hi := 76) (rs := []) (L := []) rfl (by decide) (j := j.toNat) (by omega)
  have hK_0_106 : ∀ j : Int, 0 ≤ j → j < 5776 → 0 ≤ w_ei ws (w_ar ws (n_v vs 0) 106) j ∧ w_ei ws (w_ar ws (n_v vs 0) 106) j ≤ 75 := fun j h0 h1 => th_el hD hth cr_0_106 (kd := 0) (n := 5776) (m := 5776) (lo := 0) (hi := 75) (rs := []) (L := []) rfl (by decide) (j := j.toNat) (by omega)
  have hK_0_108 : ∀ j : Int, 0 ≤ j → j < 130 → 0 ≤ w_ei ws (w_ar ws (n_v vs 0) 108) j ∧ w_ei ws (w_ar ws (n_v vs 0) 108) j ≤ 75 := fun j h0 h1 => th_el hD hth cr_0_108 (kd := 0) (n := 130) (m := 130) (lo := 0) (hi := 75) (rs := []) (L := []) rfl (by decide) (j := j.toNat) (by omega)
  have hK_0_109 : ∀ j : Int, 0 ≤ j → j < 130 → 0 ≤ w_ei ws (w_ar ws (n_v vs 0) 109) j ∧ w_ei ws (w_ar ws (n_v vs 0) 109) j ≤ 75 := fun j h0 h1 => th_el hD hth cr_0_109 (kd := 0) (n := 130) (m := 130) (lo := 0) (hi := 75) (rs := []) (L := []) rfl (by decide) (j := j.toNat) (by omega)
  have kz_0_79 : 0 ≤ w_fi ws (n_v vs 0) 79 ∧ w_fi ws (n_v vs 0) 79 ≤ 76 := tv_rng (th_fd hD hth r0 (g := GG_150) rfl (k := 79) (t := (0, 0, 76, [])) rfl rfl)
  have kz_0_80 : 0 ≤ w_fi ws (n_v vs 0) 80 ∧ w_fi ws (n_v vs 0) 80 ≤ 200 := tv_rng (th_fd hD hth r0 (g := GG_150) rfl (k := 80) (t := (0, 0, 200, [])) rfl rfl)
  have kz_0_81 : 0 ≤ w_fi ws (n_v vs 0) 81 ∧ w_fi ws (n_v vs 0) 81 ≤ 200 := tv_rng (th_fd hD hth r0 (g := GG_150) rfl (k := 81) (t := (0, 0, 200, [])) rfl rfl)
  have kz_0_100 : 0 ≤ w_fi ws (n_v vs 0) 100 ∧ w_fi ws (n_v vs 0) 100 ≤ 76 := tv_rng (th_fd hD hth r0 (g := GG_150) rfl (k := 100) (t := (0, 0, 76, [])) rfl rfl)
  have kz_0_101 : 0 ≤ w_fi ws (n_v vs 0) 101 ∧ w_fi ws (n_v vs 0) 101 ≤ 76 := tv_rng (th_fd hD hth r0 (g := GG_150) rfl (k := 101) (t := (0, 0, 76, [])) rfl rfl)
  have kz_0_107 : 0 ≤ w_fi ws (n_v vs 0) 107 ∧ w_fi ws (n_v vs 0) 107 ≤ 130 := tv_rng (th_fd hD hth r0 (g := GG_150) rfl (k := 107) (t := (0, 0, 130, [])) rfl rfl)
  obtain ⟨x, ex, hx⟩ := iv_ex (ta := ta) (lo := 0) (hi := 199) (z := v_iv (n_v vs 2)) (by omega) (by omega) (by omega) (by omega)
  have ex2 : v_iv (Value.int x) = v_iv (n_v vs 2) := ex
  have ex3 : 0 ≤ v_iv (Value.int x) ∧ v_iv (Value.int x) ≤ 199 := tv_rng hx
  have e_1 : n_v (vs ++ [Value.int x]) 1 = n_v vs 1 := n_v_old (by rw [hl]; decide)
  have e_2 : n_v (vs ++ [Value.int x]) 2 = n_v vs 2 := n_v_old (by rw [hl]; decide)
  have e_15 : n_v (vs ++ [Value.int x]) 15 = n_v vs 15 := n_v_old (by rw [hl]; decide)
  have e_16 : n_v (vs ++ [Value.int x]) 16 = n_v vs 16 := n_v_old (by rw [hl]; decide)
  have e_21 : n_v (vs ++ [Value.int x]) 21 = Value.int x := n_v_new hl
  have nf0 : fc_1 PRD (23, [21, 2], [0, 1, -1]) ws (vs ++ [Value.int x]) := by
    refine ⟨fun n hn => ?_, ?_⟩
    · have hn : n ∈ [21, 2] := hn
      rw [List.length_append, hl]
      simp only [List.mem_cons, List.not_mem_nil, or_false] at hn
      show n < 21 + 1; omega
    · show 1 * v_iv (n_v (vs ++ [Value.int x]) 21) + ((-1) * v_iv (n_v (vs ++ [Value.int x]) 2) + 0) ≤ 0
      rw [e_2]
      rw [e_21]
      exact vc_Mo_across2_9_0 (v_iv (n_v vs 2)) (v_iv (n_v vs 3)) (v_iv (n_v vs 5)) (v_iv (n_v vs 6)) (v_iv (n_v vs 9)) (v_iv (n_v vs 10)) (v_iv (n_v vs 13)) (v_iv (n_v vs 15)) (v_iv (n_v vs 16)) (w_ei ws (w_ar ws (n_v vs 0) 109)) (w_ei ws (w_ar ws (n_v vs 0) 108)) (w_ei ws (w_ar ws (n_v vs 0) 2)) (w_fi ws (n_v vs 0) 5) (w_fi ws (n_v vs 0) 107) (w_ei ws (w_ar ws (n_v vs 0) 95)) (w_ei ws (w_ar ws (n_v vs 0) 102)) (w_ei ws (w_ar ws (n_v vs 0) 104)) (w_fi ws (n_v vs 0) 100) (w_fi ws (n_v vs 0) 101) (w_ei ws (w_ar ws (n_v vs 0) 105)) (w_ei ws (w_ar ws (n_v vs 0) 106)) (w_fi ws (n_v vs 0) 79) (w_ei ws (w_ar ws (n_v vs 0) 83)) (w_ei ws (w_ar ws (n_v vs 0) 84)) (w_ei ws (w_ar ws (n_v vs 0) 85)) (w_ei ws (w_ar ws (n_v vs 0) 86)) (w_fi ws (n_v vs 0) 80) (w_fi ws (n_v vs 0) 81) (v_iv (Value.int x)) k2 k3 k5 k6 k9 k10 k13 k15 k16 d0 d1 d2 h0 h2 h4 f5 f6 f7 h8 f9 f10 f11 h12 f13 g14 f15 f16 f17 f18 f19 f20 f21 hK_0_83 hK_0_84 hK_0_85 hK_0_86 hK_0_95 hK_0_102 hK_0_104 hK_0_105 hK_0_106 hK_0_108 hK_0_109 kz_0_79 kz_0_80 kz_0_81 kz_0_100 kz_0_101 kz_0_107 ex2 ex3
  have nf1 : fc_1 PRD (23, [21, 2], [0, -1, 1]) ws (vs ++ [Value.int x]) := by
    refine ⟨fun n hn => ?_, ?_⟩
    · have hn : n ∈ [21, 2] := hn
      rw [List.length_append, hl]
      simp only [List.mem_cons, List.not_mem_nil, or_false] at hn
      show n < 21 + 1; omega
    · show (-1) * v_iv (n_v (vs ++ [Value.int x]) 21) + (1 * v_iv (n_v (vs ++ [Value.int x]) 2) + 0) ≤ 0
      rw [e_2]
      rw [e_21]
      exact vc_Mo_across2_9_1 (v_iv (n_v vs 2)) (v_iv (n_v vs 3)) (v_iv (n_v vs 5)) (v_iv (n_v vs 6)) (v_iv (n_v vs 9)) (v_iv (n_v vs 10)) (v_iv (n_v vs 13)) (v_iv (n_v vs 15)) (v_iv (n_v vs 16)) (w_ei ws (w_ar ws (n_v vs 0) 109)) (w_ei ws (w_ar ws (n_v vs 0) 108)) (w_ei ws (w_ar ws (n_v vs 0) 2)) (w_fi ws (n_v vs 0) 5) (w_fi ws (n_v vs 0) 107) (w_ei ws (w_ar ws (n_v vs 0) 95)) (w_ei ws (w_ar ws (n_v vs 0) 102)) (w_ei ws (w_ar ws (n_v vs 0) 104)) (w_fi ws (n_v vs 0) 100) (w_fi ws (n_v vs 0) 101) (w_ei ws (w_ar ws (n_v vs 0) 105)) (w_ei ws (w_ar ws (n_v vs 0) 106)) (w_fi ws (n_v vs 0) 79) (w_ei ws (w_ar ws (n_v vs 0) 83)) (w_ei ws (w_ar ws (n_v vs 0) 84)) (w_ei ws (w_ar ws (n_v vs 0) 85)) (w_ei ws (w_ar ws (n_v vs 0) 86)) (w_fi ws (n_v vs 0) 80) (w_fi ws (n_v vs 0) 81) (v_iv (Value.int x)) k2 k3 k5 k6 k9 k10 k13 k15 k16 d0 d1 d2 h0 h2 h4 f5 f6 f7 h8 f9 f10 f11 h12 f13 g14 f15 f16 f17 f18 f19 f20 f21 hK_0_83 hK_0_84 hK_0_85 hK_0_86 hK_0_95 hK_0_102 hK_0_104 hK_0_105 hK_0_106 hK_0_108 hK_0_109 kz_0_79 kz_0_80 kz_0_81 kz_0_100 kz_0_101 kz_0_107 ex2 ex3
  have nf2 : fc_1 PRD (20, [1, 21], [50, 1, 0, 80, 1, 3, 2, 0, 80, 1, 1]) ws (vs ++ [Value.int x]) := by
    refine ⟨fun n hn => ?_, ?_⟩
    · have hn : n ∈ [1, 21] := hn
      rw [List.length_append, hl]
      simp only [List.mem_cons, List.not_mem_nil, or_false] at hn
      show n < 21 + 1; omega
    · show w_fi ws (n_v (vs ++ [Value.int x]) 1) 80 = v_iv (n_v (vs ++ [Value.int x]) 21)
      rw [e_1]
      rw [e_21]
      rw [q1]
      exact vc_Mo_across2_9_2 (v_iv (n_v vs 2)) (v_iv (n_v vs 3)) (v_iv (n_v vs 5)) (v_iv (n_v vs 6)) (v_iv (n_v vs 9)) (v_iv (n_v vs 10)) (v_iv (n_v vs 13)) (v_iv (n_v vs 15)) (v_iv (n_v vs 16)) (w_ei ws (w_ar ws (n_v vs 0) 109)) (w_ei ws (w_ar ws (n_v vs 0) 108)) (w_ei ws (w_ar ws (n_v vs 0) 2)) (w_fi ws (n_v vs 0) 5) (w_fi ws (n_v vs 0) 107) (w_ei ws (w_ar ws (n_v vs 0) 95)) (w_ei ws (w_ar ws (n_v vs 0) 102)) (w_ei ws (w_ar ws (n_v vs 0) 104)) (w_fi ws (n_v vs 0) 100) (w_fi ws (n_v vs 0) 101) (w_ei ws (w_ar ws (n_v vs 0) 105)) (w_ei ws (w_ar ws (n_v vs 0) 106)) (w_fi ws (n_v vs 0) 79) (w_ei ws (w_ar ws (n_v vs 0) 83)) (w_ei ws (w_ar ws (n_v vs 0) 84)) (w_ei ws (w_ar ws (n_v vs 0) 85)) (w_ei ws (w_ar ws (n_v vs 0) 86)) (w_fi ws (n_v vs 0) 80) (w_fi ws (n_v vs 0) 81) (v_iv (Value.int x)) k2 k3 k5 k6 k9 k10 k13 k15 k16 d0 d1 d2 h0 h2 h4 f5 f6 f7 h8 f9 f10 f11 h12 f13 g14 f15 f16 f17 f18 f19 f20 f21 hK_0_83 hK_0_84 hK_0_85 hK_0_86 hK_0_95 hK_0_102 hK_0_104 hK_0_105 hK_0_106 hK_0_108 hK_0_109 kz_0_79 kz_0_80 kz_0_81 kz_0_100 kz_0_101 kz_0_107 ex2 ex3
  have nf3 : fc_1 PRD (20, [1], [60, 2, 4, 380, 79, 80, 83, 84, 85, 86]) ws (vs ++ [Value.int x]) := by
    refine ⟨fun n hn => ?_, ?_⟩
    · have hn : n ∈ [1] := hn
      rw [List.length_append, hl]
      simp only [List.mem_cons, List.not_mem_nil, or_false] at hn
      show n < 21 + 1; omega
    · show PCQ (w_fi ws (n_v (vs ++ [Value.int x]) 1) 79) (w_fi ws (n_v (vs ++ [Value.int x]) 1) 80) (w_ei ws (w_ar ws (n_v (vs ++ [Value.int x]) 1) 83)) (w_ei ws (w_ar ws (n_v (vs ++ [Value.int x]) 1) 84)) (w_ei ws (w_ar ws (n_v (vs ++ [Value.int x]) 1) 85)) (w_ei ws (w_ar ws (n_v (vs ++ [Value.int x]) 1) 86))
      rw [e_1]
      rw [q1]
      exact vc_Mo_across2_9_3 (v_iv (n_v vs 2)) (v_iv (n_v vs 3)) (v_iv (n_v vs 5)) (v_iv (n_v vs 6)) (v_iv (n_v vs 9)) (v_iv (n_v vs 10)) (v_iv (n_v vs 13)) (v_iv (n_v vs 15)) (v_iv (n_v vs 16)) (w_ei ws (w_ar ws (n_v vs 0) 109)) (w_ei ws (w_ar ws (n_v vs 0) 108)) (w_ei ws (w_ar ws (n_v vs 0) 2)) (w_fi ws (n_v vs 0) 5) (w_fi ws (n_v vs 0) 107) (w_ei ws (w_ar ws (n_v vs 0) 95)) (w_ei ws (w_ar ws (n_v vs 0) 102)) (w_ei ws (w_ar ws (n_v vs 0) 104)) (w_fi ws (n_v vs 0) 100) (w_fi ws (n_v vs 0) 101) (w_ei ws (w_ar ws (n_v vs 0) 105)) (w_ei ws (w_ar ws (n_v vs 0) 106)) (w_fi ws (n_v vs 0) 79) (w_ei ws (w_ar ws (n_v vs 0) 83)) (w_ei ws (w_ar ws (n_v vs 0) 84)) (w_ei ws (w_ar ws (n_v vs 0) 85)) (w_ei ws (w_ar ws (n_v vs 0) 86)) (w_fi ws (n_v vs 0) 80) (w_fi ws (n_v vs 0) 81) (v_iv (Value.int x)) k2 k3 k5 k6 k9 k10 k13 k15 k16 d0 d1 d2 h0 h2 h4 f5 f6 f7 h8 f9 f10 f11 h12 f13 g14 f15 f16 f17 f18 f19 f20 f21 hK_0_83 hK_0_84 hK_0_85 hK_0_86 hK_0_95 hK_0_102 hK_0_104 hK_0_105 hK_0_106 hK_0_108 hK_0_109 kz_0_79 kz_0_80 kz_0_81 kz_0_100 kz_0_101 kz_0_107 ex2 ex3
  have nf4 : fc_1 PRD (20, [15, 1], [50, 1, 0, 1079, 2, 6, 0, 2, 0, 0, 1, 0, 0, 6, 4, 2, 1, 0, 0, 1, 2, 1, 79]) ws (vs ++ [Value.int x]) := by
    refine ⟨fun n hn => ?_, ?_⟩
    · have hn : n ∈ [15, 1] := hn
      rw [List.length_append, hl]
      simp only [List.mem_cons, List.not_mem_nil, or_false] at hn
      show n < 21 + 1; omega
    · show (0 ≤ v_iv (n_v (vs ++ [Value.int x]) 15)) ∧ ((v_iv (n_v (vs ++ [Value.int x]) 15) + 1) ≤ w_fi ws (n_v (vs ++ [Value.int x]) 1) 79)
      rw [e_1]
      rw [e_15]
      rw [q1]
      exact vc_Mo_across2_9_4 (v_iv (n_v vs 2)) (v_iv (n_v vs 3)) (v_iv (n_v vs 5)) (v_iv (n_v vs 6)) (v_iv (n_v vs 9)) (v_iv (n_v vs 10)) (v_iv (n_v vs 13)) (v_iv (n_v vs 15)) (v_iv (n_v vs 16)) (w_ei ws (w_ar ws (n_v vs 0) 109)) (w_ei ws (w_ar ws (n_v vs 0) 108)) (w_ei ws (w_ar ws (n_v vs 0) 2)) (w_fi ws (n_v vs 0) 5) (w_fi ws (n_v vs 0) 107) (w_ei ws (w_ar ws (n_v vs 0) 95)) (w_ei ws (w_ar ws (n_v vs 0) 102)) (w_ei ws (w_ar ws (n_v vs 0) 104)) (w_fi ws (n_v vs 0) 100) (w_fi ws (n_v vs 0) 101) (w_ei ws (w_ar ws (n_v vs 0) 105)) (w_ei ws (w_ar ws (n_v vs 0) 106)) (w_fi ws (n_v vs 0) 79) (w_ei ws (w_ar ws (n_v vs 0) 83)) (w_ei ws (w_ar ws (n_v vs 0) 84)) (w_ei ws (w_ar ws (n_v vs 0) 85)) (w_ei ws (w_ar ws (n_v vs 0) 86)) (w_fi ws (n_v vs 0) 80) (w_fi ws (n_v vs 0) 81) (v_iv (Value.int x)) k2 k3 k5 k6 k9 k10 k13 k15 k16 d0 d1 d2 h0 h2 h4 f5 f6 f7 h8 f9 f10 f11 h12 f13 g14 f15 f16 f17 f18 f19 f20 f21 hK_0_83 hK_0_84 hK_0_85 hK_0_86 hK_0_95 hK_0_102 hK_0_104 hK_0_105 hK_0_106 hK_0_108 hK_0_109 kz_0_79 kz_0_80 kz_0_81 kz_0_100 kz_0_101 kz_0_107 ex2 ex3
  have nf5 : fc_1 PRD (20, [16, 1], [50, 1, 0, 1079, 2, 6, 0, 2, 0, 0, 1, 0, 0, 6, 4, 2, 1, 0, 0, 1, 2, 1, 79]) ws (vs ++ [Value.int x]) := by
    refine ⟨fun n hn => ?_, ?_⟩
    · have hn : n ∈ [16, 1] := hn
      rw [List.length_append, hl]
      simp only [List.mem_cons, List.not_mem_nil, or_false] at hn
      show n < 21 + 1; omega
    · show (0 ≤ v_iv (n_v (vs ++ [Value.int x]) 16)) ∧ ((v_iv (n_v (vs ++ [Value.int x]) 16) + 1) ≤ w_fi ws (n_v (vs ++ [Value.int x]) 1) 79)
      rw [e_1]
      rw [e_16]
      rw [q1]
      exact vc_Mo_across2_9_5 (v_iv (n_v vs 2)) (v_iv (n_v vs 3)) (v_iv (n_v vs 5)) (v_iv (n_v vs 6)) (v_iv (n_v vs 9)) (v_iv (n_v vs 10)) (v_iv (n_v vs 13)) (v_iv (n_v vs 15)) (v_iv (n_v vs 16)) (w_ei ws (w_ar ws (n_v vs 0) 109)) (w_ei ws (w_ar ws (n_v vs 0) 108)) (w_ei ws (w_ar ws (n_v vs 0) 2)) (w_fi ws (n_v vs 0) 5) (w_fi ws (n_v vs 0) 107) (w_ei ws (w_ar ws (n_v vs 0) 95)) (w_ei ws (w_ar ws (n_v vs 0) 102)) (w_ei ws (w_ar ws (n_v vs 0) 104)) (w_fi ws (n_v vs 0) 100) (w_fi ws (n_v vs 0) 101) (w_ei ws (w_ar ws (n_v vs 0) 105)) (w_ei ws (w_ar ws (n_v vs 0) 106)) (w_fi ws (n_v vs 0) 79) (w_ei ws (w_ar ws (n_v vs 0) 83)) (w_ei ws (w_ar ws (n_v vs 0) 84)) (w_ei ws (w_ar ws (n_v vs 0) 85)) (w_ei ws (w_ar ws (n_v vs 0) 86)) (w_fi ws (n_v vs 0) 80) (w_fi ws (n_v vs 0) 81) (v_iv (Value.int x)) k2 k3 k5 k6 k9 k10 k13 k15 k16 d0 d1 d2 h0 h2 h4 f5 f6 f7 h8 f9 f10 f11 h12 f13 g14 f15 f16 f17 f18 f19 f20 f21 hK_0_83 hK_0_84 hK_0_85 hK_0_86 hK_0_95 hK_0_102 hK_0_104 hK_0_105 hK_0_106 hK_0_108 hK_0_109 kz_0_79 kz_0_80 kz_0_81 kz_0_100 kz_0_101 kz_0_107 ex2 ex3
  exact ⟨(fun _ h => (by cases h)), [Value.int x], ag_one hx, List.forall_mem_cons.mpr ⟨⟨show (23 : Nat) < 100 from by decide, nf0⟩, List.forall_mem_cons.mpr ⟨⟨show (23 : Nat) < 100 from by decide, nf1⟩, List.forall_mem_cons.mpr ⟨⟨show (20 : Nat) < 100 from by decide, nf2⟩, List.forall_mem_cons.mpr ⟨⟨show (20 : Nat) < 100 from by decide, nf3⟩, List.forall_mem_cons.mpr ⟨⟨show (20 : Nat) < 100 from by decide, nf4⟩, List.forall_mem_cons.mpr ⟨⟨show (20 : Nat) < 100 from by decide, nf5⟩, (fun _ h => (by cases h))⟩⟩⟩⟩⟩⟩, (fun _ h => (by cases h))⟩
set_option maxHeartbeats 4000000 in
theorem vc_Mo_across2_10_0 (x2 : Int) (x3 : Int) (x5 : Int) (x6 : Int) (x9 : Int) (x10 : Int) (x15 : Int) (x16 : Int) (x21 : Int) (x22 : Int) (pointMany_0 : Int) (all_0 : Int → Int) (r_0 : Int) (turned_0 : Int → Int) (itemLayer_0 : Int → Int) (firstJoint_0 : Int → Int) (lineA_0 : Int → Int) (lineB_0 : Int → Int) (items_0 : Int) (layerMany_0 : Int) (lines_0 : Int) (layerSize_0 : Int → Int) (layerItem_0 : Int → Int) (apartMany_0 : Int) (costMany_0 : Int) (costA_0 : Int → Int) (costB_0 : Int → Int) (costW_0 : Int → Int) (costPlain_0 : Int → Int) (k2 : 0 ≤ x2 ∧ x2 ≤ 129) (k3 : 1 ≤ x3 ∧ x3 ≤ 130) (k5 : 0 ≤ x5 ∧ x5 ≤ 75) (k6 : 0 ≤ x6 ∧ x6 ≤ 24) (k9 : 0 ≤ x9 ∧ x9 ≤ 75) (k10 : 0 ≤ x10 ∧ x10 ≤ 24) (k15 : 0 ≤ x15 ∧ x15 ≤ 75) (k16 : 0 ≤ x16 ∧ x16 ≤ 75) (k21 : 0 ≤ x21 ∧ x21 ≤ 199) (k22 : 1 ≤ x22 ∧ x22 ≤ 130) (d0 : x2 + 1 ≤ x22 ∧ x22 ≤ x2 + 1) (d1 : x3 + (-4294967296) ≤ x22 ∧ x22 ≤ x3 + 0) (d2 : x10 + 0 ≤ x9 ∧ x9 ≤ x10 + 4294967296) (d3 : x6 + 0 ≤ x5 ∧ x5 ≤ x6 + 4294967296) (d4 : x3 + (-4294967296) ≤ x2 ∧ x2 ≤ x3 + (-1)) (f0 : x22 = x2 + 1) (f1 : 1 * x21 + ((-1) * x2 + 0) ≤ 0) (f2 : (-1) * x21 + (1 * x2 + 0) ≤ 0) (f3 : (0 ≤ x15) ∧ ((x15 + 1) ≤ pointMany_0)) (f4 : (0 ≤ x16) ∧ ((x16 + 1) ≤ pointMany_0)) (f5 : 1 * x10 + ((-1) * all_0 (r_0 + 0) + 0) ≤ 0) (f6 : (-1) * x10 + (1 * all_0 (r_0 + 0) + 0) ≤ 0) (f7 : 1 * x6 + ((-1) * all_0 (r_0 + 0) + 0) ≤ 0) (f8 : (-1) * x6 + (1 * all_0 (r_0 + 0) + 0) ≤ 0) (f9 : LSA (r_0) (items_0) (layerMany_0) (lines_0) (all_0) (turned_0) (itemLayer_0) (firstJoint_0) (lineA_0) (lineB_0)) (f10 : LSB (items_0) (layerMany_0) (itemLayer_0) (layerSize_0) (layerItem_0)) (f11 : SGR (r_0) (all_0)) (f12 : pointMany_0 = items_0) (f13 : apartMany_0 = 0) (f15 : costMany_0 = (x21 + 1)) (f16 : PCQ (pointMany_0) (costMany_0) (costA_0) (costB_0) (costW_0) (costPlain_0)) (f18 : 1 * x21 + ((-1) * x2 + 0) ≤ 0) (f19 : (-1) * x21 + (1 * x2 + 0) ≤ 0) (f20 : x10 ≤ x9) (f21 : x6 ≤ x5) (f22 : x2 < x3) (hK_0_83 : ∀ j : Int, 0 ≤ j → j < 200 → 0 ≤ costA_0 j ∧ costA_0 j ≤ 75) (hK_0_84 : ∀ j : Int, 0 ≤ j → j < 200 → 0 ≤ costB_0 j ∧ costB_0 j ≤ 75) (hK_0_85 : ∀ j : Int, 0 ≤ j → j < 200 → 0 ≤ costW_0 j ∧ costW_0 j ≤ 72) (hK_0_86 : ∀ j : Int, 0 ≤ j → j < 200 → 0 ≤ costPlain_0 j ∧ costPlain_0 j ≤ 1) (hK_0_95 : ∀ j : Int, 0 ≤ j → j < 48 → 0 ≤ turned_0 j ∧ turned_0 j ≤ 1) (hK_0_102 : ∀ j : Int, 0 ≤ j → j < 76 → 0 ≤ itemLayer_0 j ∧ itemLayer_0 j ≤ 75) (hK_0_104 : ∀ j : Int, 0 ≤ j → j < 48 → 0 ≤ firstJoint_0 j ∧ firstJoint_0 j ≤ 76) (hK_0_105 : ∀ j : Int, 0 ≤ j → j < 76 → 0 ≤ layerSize_0 j ∧ layerSize_0 j ≤ 76) (hK_0_106 : ∀ j : Int, 0 ≤ j → j < 5776 → 0 ≤ layerItem_0 j ∧ layerItem_0 j ≤ 75) (hK_0_108 : ∀ j : Int, 0 ≤ j → j < 130 → 0 ≤ lineA_0 j ∧ lineA_0 j ≤ 75) (hK_0_109 : ∀ j : Int, 0 ≤ j → j < 130 → 0 ≤ lineB_0 j ∧ lineB_0 j ≤ 75) (kz_0_79 : 0 ≤ pointMany_0 ∧ pointMany_0 ≤ 76) (kz_0_80 : 0 ≤ costMany_0 ∧ costMany_0 ≤ 200) (kz_0_81 : 0 ≤ apartMany_0 ∧ apartMany_0 ≤ 200) (kz_0_100 : 0 ≤ items_0 ∧ items_0 ≤ 76) (kz_0_101 : 0 ≤ layerMany_0 ∧ layerMany_0 ≤ 76) (kz_0_107 : 0 ≤ lines_0 ∧ lines_0 ≤ 130) : costMany_0 = x22 := by
  try simp only [Int.add_zero] at *
  first
    | omega
    | (have h := ‹LSA _ _ _ _ _ _ _ _ _ _›.2.1; omega)
    | (have h := lsa_la (p := x2) (x := x15) ‹LSA _ _ _ _ _ _ _ _ _ _› (by omega) (by omega) (by assumption); omega)
    | (have h := lsa_lb (p := x2) (x := x16) ‹LSA _ _ _ _ _ _ _ _ _ _› (by omega) (by omega) (by assumption); omega)
def o_Mo_across2_10 : or_T := (20, 23, [(0, (2, 0, 0, [150])), (1, (2, 0, 0, [150])), (2, (0, 0, 129, [])), (3, (0, 1, 130, [])), (5, (0, 0, 75, [])), (6, (0, 0, 24, [])), (9, (0, 0, 75, [])), (10, (0, 0, 24, [])), (15, (0, 0, 75, [])), (16, (0, 0, 75, [])), (21, (0, 0, 199, [])), (22, (0, 1, 130, []))], [(6, [22, 2], [1]), (23, [21, 2], [0, 1, -1]), (23, [21, 2], [0, -1, 1]), (20, [15, 1], [50, 1, 0, 1079, 2, 6, 0, 2, 0, 0, 1, 0, 0, 6, 4, 2, 1, 0, 0, 1, 2, 1, 79]), (20, [16, 1], [50, 1, 0, 1079, 2, 6, 0, 2, 0, 0, 1, 0, 0, 6, 4, 2, 1, 0, 0, 1, 2, 1, 79]), (20, [10, 1], [30, 0, 1, 0, 0, -1, 3, 2005000]), (20, [10, 1], [30, 0, -1, 0, 0, 1, 3, 2005000]), (20, [6, 1], [30, 0, 1, 0, 0, -1, 3, 2005000]), (20, [6, 1], [30, 0, -1, 0, 0, 1, 3, 2005000]), (20, [1], [60, 4, 6, 369, 5, 100, 101, 107, 2, 95, 102, 104, 108, 109]), (20, [1], [60, 2, 3, 372, 100, 101, 102, 105, 106]), (20, [1], [60, 1, 1, 122, 5, 2]), (20, [1], [50, 2, 0, 79, 100, 1, 3, 2, 0, 79, 2, 0, 100]), (20, [1], [50, 1, 0, 81, 1, 3, 2, 0, 81, 0, 0]), (24, [0, 1], []), (20, [1, 21], [50, 1, 0, 80, 1, 3, 2, 0, 80, 4, 2, 1, 1, 0, 1]), (20, [1], [60, 2, 4, 380, 79, 80, 83, 84, 85, 86]), (102, [21], [771330261244315332260141804323758049210657437015740560944660480, 13080]), (23, [21, 2], [0, 1, -1]), (23, [21, 2], [0, -1, 1]), (7, [9, 10], [3]), (7, [5, 6], [3]), (7, [2, 3], [2])], [], [], [(20, [1, 22], [50, 1, 0, 80, 1, 3, 2, 0, 80, 1, 1])], [], [(22, 2, 1, 1), (22, 3, -4294967296, 0), (9, 10, 0, 4294967296), (5, 6, 0, 4294967296), (2, 3, -4294967296, -1)])
theorem oo_Mo_across2_10 {kA : Nat → ClassId} : or_ok PRD kA GG o_Mo_across2_10 := by
  intro A ta ws vs hD hth hl hk hds hf
  have hl : vs.length = 23 := hl
  have hk : ∀ q ∈ ([(0, (2, 0, 0, [150])), (1, (2, 0, 0, [150])), (2, (0, 0, 129, [])), (3, (0, 1, 130, [])), (5, (0, 0, 75, [])), (6, (0, 0, 24, [])), (9, (0, 0, 75, [])), (10, (0, 0, 24, [])), (15, (0, 0, 75, [])), (16, (0, 0, 75, [])), (21, (0, 0, 199, [])), (22, (0, 1, 130, []))] : List (Nat × tv_T)), tv_ok ta q.2 (n_v vs q.1) := hk
  obtain ⟨t0, hk⟩ := List.forall_mem_cons.mp hk
  have t0 : tv_ok ta (2, 0, 0, [150]) (n_v vs 0) := t0
  have r0 : ta (v_ad (n_v vs 0)) = some 150 := tv_rg t0
  obtain ⟨t1, hk⟩ := List.forall_mem_cons.mp hk
  have t1 : tv_ok ta (2, 0, 0, [150]) (n_v vs 1) := t1
  have r1 : ta (v_ad (n_v vs 1)) = some 150 := tv_rg t1
  obtain ⟨t2, hk⟩ := List.forall_mem_cons.mp hk
  have t2 : tv_ok ta (0, 0, 129, []) (n_v vs 2) := t2
  have k2 : 0 ≤ v_iv (n_v vs 2) ∧ v_iv (n_v vs 2) ≤ 129 := tv_rng t2
  obtain ⟨t3, hk⟩ := List.forall_mem_cons.mp hk
  have t3 : tv_ok ta (0, 1, 130, []) (n_v vs 3) := t3
  have k3 : 1 ≤ v_iv (n_v vs 3) ∧ v_iv (n_v vs 3) ≤ 130 := tv_rng t3
  obtain ⟨t5, hk⟩ := List.forall_mem_cons.mp hk
  have t5 : tv_ok ta (0, 0, 75, []) (n_v vs 5) := t5
  have k5 : 0 ≤ v_iv (n_v vs 5) ∧ v_iv (n_v vs 5) ≤ 75 := tv_rng t5
  obtain ⟨t6, hk⟩ := List.forall_mem_cons.mp hk
  have t6 : tv_ok ta (0, 0, 24, []) (n_v vs 6) := t6
  have k6 : 0 ≤ v_iv (n_v vs 6) ∧ v_iv (n_v vs 6) ≤ 24 := tv_rng t6
  obtain ⟨t9, hk⟩ := List.forall_mem_cons.mp hk
  have t9 : tv_ok ta (0, 0, 75, []) (n_v vs 9) := t9
  have k9 : 0 ≤ v_iv (n_v vs 9) ∧ v_iv (n_v vs 9) ≤ 75 := tv_rng t9
  obtain ⟨t10, hk⟩ := List.forall_mem_cons.mp hk
  have t10 : tv_ok ta (0, 0, 24, []) (n_v vs 10) := t10
  have k10 : 0 ≤ v_iv (n_v vs 10) ∧ v_iv (n_v vs 10) ≤ 24 := tv_rng t10
  obtain ⟨t15, hk⟩ := List.forall_mem_cons.mp hk
  have t15 : tv_ok ta (0, 0, 75, []) (n_v vs 15) := t15
  have k15 : 0 ≤ v_iv (n_v vs 15) ∧ v_iv (n_v vs 15) ≤ 75 := tv_rng t15
  obtain ⟨t16, hk⟩ := List.forall_mem_cons.mp hk
  have t16 : tv_ok ta (0, 0, 75, []) (n_v vs 16) := t16
  have k16 : 0 ≤ v_iv (n_v vs 16) ∧ v_iv (n_v vs 16) ≤ 75 := tv_rng t16
  obtain ⟨t21, hk⟩ := List.forall_mem_cons.mp hk
  have t21 : tv_ok ta (0, 0, 199, []) (n_v vs 21) := t21
  have k21 : 0 ≤ v_iv (n_v vs 21) ∧ v_iv (n_v vs 21) ≤ 199 := tv_rng t21
  obtain ⟨t22, hk⟩ := List.forall_mem_cons.mp hk
  have t22 : tv_ok ta (0, 1, 130, []) (n_v vs 22) := t22
  have k22 : 1 ≤ v_iv (n_v vs 22) ∧ v_iv (n_v vs 22) ≤ 130 := tv_rng t22
  have hds : ∀ q ∈ ([(22, 2, 1, 1), (22, 3, -4294967296, 0), (9, 10, 0, 4294967296), (5, 6, 0, 4294967296), (2, 3, -4294967296, -1)] : List of_T), n_iv vs q.2.1 + q.2.2.1 ≤ n_iv vs q.1 ∧ n_iv vs q.1 ≤ n_iv vs q.2.1 + q.2.2.2 := hds
  obtain ⟨d0, hds⟩ := List.forall_mem_cons.mp hds
  have d0 : v_iv (n_v vs 2) + 1 ≤ v_iv (n_v vs 22) ∧ v_iv (n_v vs 22) ≤ v_iv (n_v vs 2) + 1 := d0
  obtain ⟨d1, hds⟩ := List.forall_mem_cons.mp hds
  have d1 : v_iv (n_v vs 3) + (-4294967296) ≤ v_iv (n_v vs 22) ∧ v_iv (n_v vs 22) ≤ v_iv (n_v vs 3) + 0 := d1
  obtain ⟨d2, hds⟩ := List.forall_mem_cons.mp hds
  have d2 : v_iv (n_v vs 10) + 0 ≤ v_iv (n_v vs 9) ∧ v_iv (n_v vs 9) ≤ v_iv (n_v vs 10) + 4294967296 := d2
  obtain ⟨d3, hds⟩ := List.forall_mem_cons.mp hds
  have d3 : v_iv (n_v vs 6) + 0 ≤ v_iv (n_v vs 5) ∧ v_iv (n_v vs 5) ≤ v_iv (n_v vs 6) + 4294967296 := d3
  obtain ⟨d4, hds⟩ := List.forall_mem_cons.mp hds
  have d4 : v_iv (n_v vs 3) + (-4294967296) ≤ v_iv (n_v vs 2) ∧ v_iv (n_v vs 2) ≤ v_iv (n_v vs 3) + (-1) := d4
  have hf : fc_ok PRD [(6, [22, 2], [1]), (23, [21, 2], [0, 1, -1]), (23, [21, 2], [0, -1, 1]), (20, [15, 1], [50, 1, 0, 1079, 2, 6, 0, 2, 0, 0, 1, 0, 0, 6, 4, 2, 1, 0, 0, 1, 2, 1, 79]), (20, [16, 1], [50, 1, 0, 1079, 2, 6, 0, 2, 0, 0, 1, 0, 0, 6, 4, 2, 1, 0, 0, 1, 2, 1, 79]), (20, [10, 1], [30, 0, 1, 0, 0, -1, 3, 2005000]), (20, [10, 1], [30, 0, -1, 0, 0, 1, 3, 2005000]), (20, [6, 1], [30, 0, 1, 0, 0, -1, 3, 2005000]), (20, [6, 1], [30, 0, -1, 0, 0, 1, 3, 2005000]), (20, [1], [60, 4, 6, 369, 5, 100, 101, 107, 2, 95, 102, 104, 108, 109]), (20, [1], [60, 2, 3, 372, 100, 101, 102, 105, 106]), (20, [1], [60, 1, 1, 122, 5, 2]), (20, [1], [50, 2, 0, 79, 100, 1, 3, 2, 0, 79, 2, 0, 100]), (20, [1], [50, 1, 0, 81, 1, 3, 2, 0, 81, 0, 0]), (24, [0, 1], []), (20, [1, 21], [50, 1, 0, 80, 1, 3, 2, 0, 80, 4, 2, 1, 1, 0, 1]), (20, [1], [60, 2, 4, 380, 79, 80, 83, 84, 85, 86]), (102, [21], [771330261244315332260141804323758049210657437015740560944660480, 13080]), (23, [21, 2], [0, 1, -1]), (23, [21, 2], [0, -1, 1]), (7, [9, 10], [3]), (7, [5, 6], [3]), (7, [2, 3], [2])] ta ws vs := hf
  obtain ⟨f0, hf⟩ := fc_un (show (6 : Nat) < 100 from by decide) hf
  have f0 : v_iv (n_v vs 22) = v_iv (n_v vs 2) + 1 := f0
  obtain ⟨f1, hf⟩ := fc_un (show (23 : Nat) < 100 from by decide) hf
  have f1 : 1 * v_iv (n_v vs 21) + ((-1) * v_iv (n_v vs 2) + 0) ≤ 0 := f1
  obtain ⟨f2, hf⟩ := fc_un (show (23 : Nat) < 100 from by decide) hf
  have f2 : (-1) * v_iv (n_v vs 21) + (1 * v_iv (n_v vs 2) + 0) ≤ 0 := f2
  obtain ⟨f3, hf⟩ := fc_un (show (20 : Nat) < 100 from by decide) hf
  have f3 : (0 ≤ v_iv (n_v vs 15)) ∧ ((v_iv (n_v vs 15) + 1) ≤ w_fi ws (n_v vs 1) 79) := f3
  obtain ⟨f4, hf⟩ := fc_un (show (20 : Nat) < 100 from by decide) hf
  have f4 : (0 ≤ v_iv (n_v vs 16)) ∧ ((v_iv (n_v vs 16) + 1) ≤ w_fi ws (n_v vs 1) 79) := f4
  obtain ⟨f5, hf⟩ := fc_un (show (20 : Nat) < 100 from by decide) hf
  have f5 : 1 * v_iv (n_v vs 10) + ((-1) * w_el ws (w_ar ws (n_v vs 1) 2) (w_fi ws (n_v vs 1) 5 + 0).toNat + 0) ≤ 0 := f5
  obtain ⟨f6, hf⟩ := fc_un (show (20 : Nat) < 100 from by decide) hf
  have f6 : (-1) * v_iv (n_v vs 10) + (1 * w_el ws (w_ar ws (n_v vs 1) 2) (w_fi ws (n_v vs 1) 5 + 0).toNat + 0) ≤ 0 := f6
  obtain ⟨f7, hf⟩ := fc_un (show (20 : Nat) < 100 from by decide) hf
  have f7 : 1 * v_iv (n_v vs 6) + ((-1) * w_el ws (w_ar ws (n_v vs 1) 2) (w_fi ws (n_v vs 1) 5 + 0).toNat + 0) ≤ 0 := f7
  obtain ⟨f8, hf⟩ := fc_un (show (20 : Nat) < 100 from by decide) hf
  have f8 : (-1) * v_iv (n_v vs 6) + (1 * w_el ws (w_ar ws (n_v vs 1) 2) (w_fi ws (n_v vs 1) 5 + 0).toNat + 0) ≤ 0 := f8
  obtain ⟨f9, hf⟩ := fc_un (show (20 : Nat) < 100 from by decide) hf
  have f9 : LSA (w_fi ws (n_v vs 1) 5) (w_fi ws (n_v vs 1) 100) (w_fi ws (n_v vs 1) 101) (w_fi ws (n_v vs 1) 107) (w_ei ws (w_ar ws (n_v vs 1) 2)) (w_ei ws (w_ar ws (n_v vs 1) 95)) (w_ei ws (w_ar ws (n_v vs 1) 102)) (w_ei ws (w_ar ws (n_v vs 1) 104)) (w_ei ws (w_ar ws (n_v vs 1) 108)) (w_ei ws (w_ar ws (n_v vs 1) 109)) := f9
  obtain ⟨f10, hf⟩ := fc_un (show (20 : Nat) < 100 from by decide) hf
  have f10 : LSB (w_fi ws (n_v vs 1) 100) (w_fi ws (n_v vs 1) 101) (w_ei ws (w_ar ws (n_v vs 1) 102)) (w_ei ws (w_ar ws (n_v vs 1) 105)) (w_ei ws (w_ar ws (n_v vs 1) 106)) := f10
  obtain ⟨f11, hf⟩ := fc_un (show (20 : Nat) < 100 from by decide) hf
  have f11 : SGR (w_fi ws (n_v vs 1) 5) (w_ei ws (w_ar ws (n_v vs 1) 2)) := f11
  obtain ⟨f12, hf⟩ := fc_un (show (20 : Nat) < 100 from by decide) hf
  have f12 : w_fi ws (n_v vs 1) 79 = w_fi ws (n_v vs 1) 100 := f12
  obtain ⟨f13, hf⟩ := fc_un (show (20 : Nat) < 100 from by decide) hf
  have f13 : w_fi ws (n_v vs 1) 81 = 0 := f13
  obtain ⟨f14, hf⟩ := fc_un (show (24 : Nat) < 100 from by decide) hf
  have f14 : n_v vs 0 = n_v vs 1 := f14
  obtain ⟨f15, hf⟩ := fc_un (show (20 : Nat) < 100 from by decide) hf
  have f15 : w_fi ws (n_v vs 1) 80 = (v_iv (n_v vs 21) + 1) := f15
  obtain ⟨f16, hf⟩ := fc_un (show (20 : Nat) < 100 from by decide) hf
  have f16 : PCQ (w_fi ws (n_v vs 1) 79) (w_fi ws (n_v vs 1) 80) (w_ei ws (w_ar ws (n_v vs 1) 83)) (w_ei ws (w_ar ws (n_v vs 1) 84)) (w_ei ws (w_ar ws (n_v vs 1) 85)) (w_ei ws (w_ar ws (n_v vs 1) 86)) := f16
  obtain ⟨ta1, w1, le1, ⟨_, s1⟩, hf⟩ := fc_us (show ¬ (102 : Nat) < 100 from by decide) hf
  obtain ⟨f18, hf⟩ := fc_un (show (23 : Nat) < 100 from by decide) hf
  have f18 : 1 * v_iv (n_v vs 21) + ((-1) * v_iv (n_v vs 2) + 0) ≤ 0 := f18
  obtain ⟨f19, hf⟩ := fc_un (show (23 : Nat) < 100 from by decide) hf
  have f19 : (-1) * v_iv (n_v vs 21) + (1 * v_iv (n_v vs 2) + 0) ≤ 0 := f19
  obtain ⟨f20, hf⟩ := fc_un (show (7 : Nat) < 100 from by decide) hf
  have f20 : v_iv (n_v vs 10) ≤ v_iv (n_v vs 9) := f20
  obtain ⟨f21, hf⟩ := fc_un (show (7 : Nat) < 100 from by decide) hf
  have f21 : v_iv (n_v vs 6) ≤ v_iv (n_v vs 5) := f21
  obtain ⟨f22, hf⟩ := fc_un (show (7 : Nat) < 100 from by decide) hf
  have f22 : v_iv (n_v vs 2) < v_iv (n_v vs 3) := f22
  have q1 : n_v vs 1 = n_v vs 0 := f14.symm
  rw [q1] at f3
  rw [q1] at f4
  rw [q1] at f5
  rw [q1] at f6
  rw [q1] at f7
  rw [q1] at f8
  rw [q1] at f9
  rw [q1] at f10
  rw [q1] at f11
  rw [q1] at f12
  rw [q1] at f13
  rw [q1] at f15
  rw [q1] at f16
  have cr_0_2 : ta (w_ar ws (n_v vs 0) 2) = some 152 := tv_rg (th_fd hD hth r0 (g := GG_150) rfl (k := 2) (t := (2, 0, 0, [152])) rfl rfl)
  have cr_0_83 : ta (w_ar ws (n_v vs 0) 83) = some 205 := tv_rg (th_fd hD hth r0 (g := GG_150) rfl (k := 83) (t := (2, 0, 0, [205])) rfl rfl)
  have cr_0_84 : ta (w_ar ws (n_v vs 0) 84) = some 206 := tv_rg (th_fd hD hth r0 (g := GG_150) rfl (k := 84) (t := (2, 0, 0, [206])) rfl rfl)
  have cr_0_85 : ta (w_ar ws (n_v vs 0) 85) = some 207 := tv_rg (th_fd hD hth r0 (g := GG_150) rfl (k := 85) (t := (2, 0, 0, [207])) rfl rfl)
  have cr_0_86 : ta (w_ar ws (n_v vs 0) 86) = some 208 := tv_rg (th_fd hD hth r0 (g := GG_150) rfl (k := 86) (t := (2, 0, 0, [208])) rfl rfl)
  have cr_0_95 : ta (w_ar ws (n_v vs 0) 95) = some 216 := tv_rg (th_fd hD hth r0 (g := GG_150) rfl (k := 95) (t := (2, 0, 0, [216])) rfl rfl)
  have cr_0_102 : ta (w_ar ws (n_v vs 0) 102) = some 220 := tv_rg (th_fd hD hth r0 (g := GG_150) rfl (k := 102) (t := (2, 0, 0, [220])) rfl rfl)
  have cr_0_104 : ta (w_ar ws (n_v vs 0) 104) = some 222 := tv_rg (th_fd hD hth r0 (g := GG_150) rfl (k := 104) (t := (2, 0, 0, [222])) rfl rfl)
  have cr_0_105 : ta (w_ar ws (n_v vs 0) 105) = some 223 := tv_rg (th_fd hD hth r0 (g := GG_150) rfl (k := 105) (t := (2, 0, 0, [223])) rfl rfl)
  have cr_0_106 : ta (w_ar ws (n_v vs 0) 106) = some 224 := tv_rg (th_fd hD hth r0 (g := GG_150) rfl (k := 106) (t := (2, 0, 0, [224])) rfl rfl)
  have cr_0_108 : ta (w_ar ws (n_v vs 0) 108) = some 225 := tv_rg (th_fd hD hth r0 (g := GG_150) rfl (k := 108) (t := (2, 0, 0, [225])) rfl rfl)
  have cr_0_109 : ta (w_ar ws (n_v vs 0) 109) = some 226 := tv_rg (th_fd hD hth r0 (g := GG_150) rfl (k := 109) (t := (2, 0, 0, [226])) rfl rfl)
  have hK_0_83 : ∀ j : Int, 0 ≤ j → j < 200 → 0 ≤ w_ei ws (w_ar ws (n_v vs 0) 83) j ∧ w_ei ws (w_ar ws (n_v vs 0) 83) j ≤ 75 := fun j h0 h1 => th_el hD hth cr_0_83 (kd := 0) (n := 200) (m := 200) (lo := 0) (hi := 75) (rs := []) (L := []) rfl (by decide) (j := j.toNat) (by omega)
  have hK_0_84 : ∀ j : Int, 0 ≤ j → j < 200 → 0 ≤ w_ei ws (w_ar ws (n_v vs 0) 84) j ∧ w_ei ws (w_ar ws (n_v vs 0) 84) j ≤ 75 := fun j h0 h1 => th_el hD hth cr_0_84 (kd := 0) (n := 200) (m := 200) (lo := 0) (hi := 75) (rs := []) (L := []) rfl (by decide) (j := j.toNat) (by omega)
  have hK_0_85 : ∀ j : Int, 0 ≤ j → j < 200 → 0 ≤ w_ei ws (w_ar ws (n_v vs 0) 85) j ∧ w_ei ws (w_ar ws (n_v vs 0) 85) j ≤ 72 := fun j h0 h1 => th_el hD hth cr_0_85 (kd := 0) (n := 200) (m := 200) (lo := 0) (hi := 72) (rs := []) (L := []) rfl (by decide) (j := j.toNat) (by omega)
  have hK_0_86 : ∀ j : Int, 0 ≤ j → j < 200 → 0 ≤ w_ei ws (w_ar ws (n_v vs 0) 86) j ∧ w_ei ws (w_ar ws (n_v vs 0) 86) j ≤ 1 := fun j h0 h1 => th_el hD hth cr_0_86 (kd := 2) (n := 200) (m := 200) (lo := 0) (hi := 1) (rs := []) (L := []) rfl (by decide) (j := j.toNat) (by omega)
  have hK_0_95 : ∀ j : Int, 0 ≤ j → j < 48 → 0 ≤ w_ei ws (w_ar ws (n_v vs 0) 95) j ∧ w_ei ws (w_ar ws (n_v vs 0) 95) j ≤ 1 := fun j h0 h1 => th_el hD hth cr_0_95 (kd := 2) (n := 48) (m := 48) (lo := 0) (hi := 1) (rs := []) (L := []) rfl (by decide) (j := j.toNat) (by omega)
  have hK_0_102 : ∀ j : Int, 0 ≤ j → j < 76 → 0 ≤ w_ei ws (w_ar ws (n_v vs 0) 102) j ∧ w_ei ws (w_ar ws (n_v vs 0) 102) j ≤ 75 := fun j h0 h1 => th_el hD hth cr_0_102 (kd := 0) (n := 76) (m := 76) (lo := 0) (hi := 75) (rs := []) (L := []) rfl (by decide) (j := j.toNat) (by omega)
  have hK_0_104 : ∀ j : Int, 0 ≤ j → j < 48 → 0 ≤ w_ei ws (w_ar ws (n_v vs 0) 104) j ∧ w_ei ws (w_ar ws (n_v vs 0) 104) j ≤ 76 := fun j h0 h1 => th_el hD hth cr_0_104 (kd := 0) (n := 48) (m := 48) (lo := 0) (hi := 76) (rs := []) (L := []) rfl (by decide) (j := j.toNat) (by omega)
  have hK_0_105 : ∀ j : Int, 0 ≤ j → j < 76 → 0 ≤ w_ei ws (w_ar ws (n_v vs 0) 105) j ∧ w_ei ws (w_ar ws (n_v vs 0) 105) j ≤ 76 := fun j h0 h1 => th_el hD hth cr_0_105 (kd := 0) (n := 76) (m := 76) (lo := 0) (hi := 76) (rs := []) (L := []) rfl (by decide) (j := j.toNat) (by omega)
  have hK_0_106 : ∀ j : Int, 0 ≤ j → j < 5776 → 0 ≤ w_ei ws (w_ar ws (n_v vs 0) 106) j ∧ w_ei ws (w_ar ws (n_v vs 0) 106) j ≤ 75 := fun j h0 h1 => th_el hD hth cr_0_106 (kd := 0) (n := 5776) (m := 5776) (lo := 0) (hi := 75) (rs := []) (L := []) rfl (by decide) (j := j.toNat) (by omega)
  have hK_0_108 : ∀ j : Int, 0 ≤ j → j < 130 → 0 ≤ w_ei ws (w_ar ws (n_v vs 0) 108) j ∧ w_ei ws (w_ar ws (n_v vs 0) 108) j ≤ 75 := fun j h0 h1 => th_el hD hth cr_0_108 (kd := 0) (n := 130) (m := 130) (lo := 0) (hi := 75) (rs := []) (L := []) rfl (by decide) (j := j.toNat) (by omega)
  have hK_0_109 : ∀ j : Int, 0 ≤ j → j < 130 → 0 ≤ w_ei ws (w_ar ws (n_v vs 0) 109) j ∧ w_ei ws (w_ar ws (n_v vs 0) 109) j ≤ 75 := fun j h0 h1 => th_el hD hth cr_0_109 (kd := 0) (n := 130) (m := 130) (lo := 0) (hi := 75) (rs := []) (L := []) rfl (by decide) (j := j.toNat) (by omega)
  have kz_0_79 : 0 ≤ w_fi ws (n_v vs 0) 79 ∧ w_fi ws (n_v vs 0) 79 ≤ 76 := tv_rng (th_fd hD hth r0 (g := GG_150) rfl (k := 79) (t := (0, 0, 76, [])) rfl rfl)
  have kz_0_80 : 0 ≤ w_fi ws (n_v vs 0) 80 ∧ w_fi ws (n_v vs 0) 80 ≤ 200 := tv_rng (th_fd hD hth r0 (g := GG_150) rfl (k := 80) (t := (0, 0, 200, [])) rfl rfl)
  have kz_0_81 : 0 ≤ w_fi ws (n_v vs 0) 81 ∧ w_fi ws (n_v vs 0) 81 ≤ 200 := tv_rng (th_fd hD hth r0 (g := GG_150) rfl (k := 81) (t := (0, 0, 200, [])) rfl rfl)
  have kz_0_100 : 0 ≤ w_fi ws (n_v vs 0) 100 ∧ w_fi ws (n_v vs 0) 100 ≤ 76 := tv_rng (th_fd hD hth r0 (g := GG_150) rfl (k := 100) (t := (0, 0, 76, [])) rfl rfl)
  have kz_0_101 : 0 ≤ w_fi ws (n_v vs 0) 101 ∧ w_fi ws (n_v vs 0) 101 ≤ 76 := tv_rng (th_fd hD hth r0 (g := GG_150) rfl (k := 101) (t := (0, 0, 76, [])) rfl rfl)
  have kz_0_107 : 0 ≤ w_fi ws (n_v vs 0) 107 ∧ w_fi ws (n_v vs 0) 107 ≤ 130 := tv_rng (th_fd hD hth r0 (g := GG_150) rfl (k := 107) (t := (0, 0, 130, [])) rfl rfl)
  have nf0 : fc_1 PRD (20, [1, 22], [50, 1, 0, 80, 1, 3, 2, 0, 80, 1, 1]) ws (vs) := by
    refine ⟨fun n hn => ?_, ?_⟩
    · have hn : n ∈ [1, 22] := hn
      rw [hl]
      simp only [List.mem_cons, List.not_mem_nil, or_false] at hn
      show n < 23; omega
    · show w_fi ws (n_v vs 1) 80 = v_iv (n_v vs 22)
      rw [q1]
      exact vc_Mo_across2_10_0 (v_iv (n_v vs 2)) (v_iv (n_v vs 3)) (v_iv (n_v vs 5)) (v_iv (n_v vs 6)) (v_iv (n_v vs 9)) (v_iv (n_v vs 10)) (v_iv (n_v vs 15)) (v_iv (n_v vs 16)) (v_iv (n_v vs 21)) (v_iv (n_v vs 22)) (w_fi ws (n_v vs 0) 79) (w_ei ws (w_ar ws (n_v vs 0) 2)) (w_fi ws (n_v vs 0) 5) (w_ei ws (w_ar ws (n_v vs 0) 95)) (w_ei ws (w_ar ws (n_v vs 0) 102)) (w_ei ws (w_ar ws (n_v vs 0) 104)) (w_ei ws (w_ar ws (n_v vs 0) 108)) (w_ei ws (w_ar ws (n_v vs 0) 109)) (w_fi ws (n_v vs 0) 100) (w_fi ws (n_v vs 0) 101) (w_fi ws (n_v vs 0) 107) (w_ei ws (w_ar ws (n_v vs 0) 105)) (w_ei ws (w_ar ws (n_v vs 0) 106)) (w_fi ws (n_v vs 0) 81) (w_fi ws (n_v vs 0) 80) (w_ei ws (w_ar ws (n_v vs 0) 83)) (w_ei ws (w_ar ws (n_v vs 0) 84)) (w_ei ws (w_ar ws (n_v vs 0) 85)) (w_ei ws (w_ar ws (n_v vs 0) 86)) k2 k3 k5 k6 k9 k10 k15 k16 k21 k22 d0 d1 d2 d3 d4 f0 f1 f2 f3 f4 f5 f6 f7 f8 f9 f10 f11 f12 f13 f15 f16 f18 f19 f20 f21 f22 hK_0_83 hK_0_84 hK_0_85 hK_0_86 hK_0_95 hK_0_102 hK_0_104 hK_0_105 hK_0_106 hK_0_108 hK_0_109 kz_0_79 kz_0_80 kz_0_81 kz_0_100 kz_0_101 kz_0_107
  refine ⟨(fun _ h => (by cases h)), [], trivial, ?_, (fun _ h => (by cases h))⟩
  rw [List.append_nil]
  exact List.forall_mem_cons.mpr ⟨⟨show (20 : Nat) < 100 from by decide, nf0⟩, (fun _ h => (by cases h))⟩
set_option maxHeartbeats 4000000 in
theorem vc_Mo_across2_11_0 (x2 : Int) (x3 : Int) (layerMany_0 : Int) (all_0 : Int → Int) (turned_0 : Int → Int) (itemLayer_0 : Int → Int) (firstJoint_0 : Int → Int) (lineA_0 : Int → Int) (lineB_0 : Int → Int) (r_0 : Int) (items_0 : Int) (lines_0 : Int) (layerSize_0 : Int → Int) (layerItem_0 : Int → Int) (pointMany_0 : Int) (costA_0 : Int → Int) (costB_0 : Int → Int) (costW_0 : Int → Int) (costPlain_0 : Int → Int) (costMany_0 : Int) (apartA_0 : Int → Int) (apartB_0 : Int → Int) (apart_0 : Int → Int) (apartMany_0 : Int) (k2 : 0 ≤ x2 ∧ x2 ≤ 76) (k3 : 0 ≤ x3 ∧ x3 ≤ 76) (d0 : x3 + 0 ≤ x2 ∧ x2 ≤ x3 + 4294967296) (f0 : x3 ≤ x2) (g1 : x3 = layerMany_0) (f2 : LSA (r_0) (items_0) (layerMany_0) (lines_0) (all_0) (turned_0) (itemLayer_0) (firstJoint_0) (lineA_0) (lineB_0)) (f3 : LSB (items_0) (layerMany_0) (itemLayer_0) (layerSize_0) (layerItem_0)) (f4 : SGR (r_0) (all_0)) (f5 : pointMany_0 = items_0) (f6 : PCQ (pointMany_0) (costMany_0) (costA_0) (costB_0) (costW_0) (costPlain_0)) (f7 : costMany_0 ≤ 130) (f8 : PAL1 (apartMany_0) (layerMany_0) (layerSize_0) (layerItem_0) (apartA_0) (apartB_0) (apart_0) (x2)) (f9 : apartMany_0 ≤ 76) (hK_0_83 : ∀ j : Int, 0 ≤ j → j < 200 → 0 ≤ costA_0 j ∧ costA_0 j ≤ 75) (hK_0_84 : ∀ j : Int, 0 ≤ j → j < 200 → 0 ≤ costB_0 j ∧ costB_0 j ≤ 75) (hK_0_85 : ∀ j : Int, 0 ≤ j → j < 200 → 0 ≤ costW_0 j ∧ costW_0 j ≤ 72) (hK_0_86 : ∀ j : Int, 0 ≤ j → j < 200 → 0 ≤ costPlain_0 j ∧ costPlain_0 j ≤ 1) (hK_0_87 : ∀ j : Int, 0 ≤ j → j < 200 → 0 ≤ apartA_0 j ∧ apartA_0 j ≤ 75) (hK_0_88 : ∀ j : Int, 0 ≤ j → j < 200 → 0 ≤ apartB_0 j ∧ apartB_0 j ≤ 75) (hK_0_89 : ∀ j : Int, 0 ≤ j → j < 200 → 0 ≤ apart_0 j ∧ apart_0 j ≤ 202) (hK_0_95 : ∀ j : Int, 0 ≤ j → j < 48 → 0 ≤ turned_0 j ∧ turned_0 j ≤ 1) (hK_0_102 : ∀ j : Int, 0 ≤ j → j < 76 → 0 ≤ itemLayer_0 j ∧ itemLayer_0 j ≤ 75) (hK_0_104 : ∀ j : Int, 0 ≤ j → j < 48 → 0 ≤ firstJoint_0 j ∧ firstJoint_0 j ≤ 76) (hK_0_105 : ∀ j : Int, 0 ≤ j → j < 76 → 0 ≤ layerSize_0 j ∧ layerSize_0 j ≤ 76) (hK_0_106 : ∀ j : Int, 0 ≤ j → j < 5776 → 0 ≤ layerItem_0 j ∧ layerItem_0 j ≤ 75) (hK_0_108 : ∀ j : Int, 0 ≤ j → j < 130 → 0 ≤ lineA_0 j ∧ lineA_0 j ≤ 75) (hK_0_109 : ∀ j : Int, 0 ≤ j → j < 130 → 0 ≤ lineB_0 j ∧ lineB_0 j ≤ 75) (kz_0_79 : 0 ≤ pointMany_0 ∧ pointMany_0 ≤ 76) (kz_0_80 : 0 ≤ costMany_0 ∧ costMany_0 ≤ 200) (kz_0_81 : 0 ≤ apartMany_0 ∧ apartMany_0 ≤ 200) (kz_0_100 : 0 ≤ items_0 ∧ items_0 ≤ 76) (kz_0_101 : 0 ≤ layerMany_0 ∧ layerMany_0 ≤ 76) (kz_0_107 : 0 ≤ lines_0 ∧ lines_0 ≤ 130) : PBR (pointMany_0) (costMany_0) (apartMany_0) (costA_0) (costB_0) (costW_0) (costPlain_0) (apartA_0) (apartB_0) (apart_0) := by
  exact pbr_across ‹LSA _ _ _ _ _ _ _ _ _ _› ‹LSB _ _ _ _ _› (by omega) ‹PCQ _ _ _ _ _ _› (by omega) (by omega) ‹PAL1 _ _ _ _ _ _ _ _›
def o_Mo_across2_11 : or_T := (259, 4, [(0, (2, 0, 0, [150])), (1, (2, 0, 0, [150])), (2, (0, 0, 76, [])), (3, (0, 0, 76, []))], [(7, [2, 3], [3]), (9, [3, 1], [101]), (20, [1], [60, 4, 6, 369, 5, 100, 101, 107, 2, 95, 102, 104, 108, 109]), (20, [1], [60, 2, 3, 372, 100, 101, 102, 105, 106]), (20, [1], [60, 1, 1, 122, 5, 2]), (20, [1], [50, 2, 0, 79, 100, 1, 3, 2, 0, 79, 2, 0, 100]), (20, [1], [60, 2, 4, 380, 79, 80, 83, 84, 85, 86]), (20, [1], [50, 1, 0, 80, 0, 3, 2, 0, 80, 0, 130]), (20, [1, 2], [60, 2, 5, 392, 81, 101, 105, 106, 87, 88, 89]), (20, [1], [50, 1, 0, 81, 0, 3, 2, 0, 81, 0, 76]), (24, [0, 1], [])], [], [], [(20, [1], [60, 3, 7, 320, 79, 80, 81, 83, 84, 85, 86, 87, 88, 89])], [], [(2, 3, 0, 4294967296)])
theorem oo_Mo_across2_11 {kA : Nat → ClassId} : or_ok PRD kA GG o_Mo_across2_11 := by
  intro A ta ws vs hD hth hl hk hds hf
  have hl : vs.length = 4 := hl
  have hk : ∀ q ∈ ([(0, (2, 0, 0, [150])), (1, (2, 0, 0, [150])), (2, (0, 0, 76, [])), (3, (0, 0, 76, []))] : List (Nat × tv_T)), tv_ok ta q.2 (n_v vs q.1) := hk
  obtain ⟨t0, hk⟩ := List.forall_mem_cons.mp hk
  have t0 : tv_ok ta (2, 0, 0, [150]) (n_v vs 0) := t0
  have r0 : ta (v_ad (n_v vs 0)) = some 150 := tv_rg t0
  obtain ⟨t1, hk⟩ := List.forall_mem_cons.mp hk
  have t1 : tv_ok ta (2, 0, 0, [150]) (n_v vs 1) := t1
  have r1 : ta (v_ad (n_v vs 1)) = some 150 := tv_rg t1
  obtain ⟨t2, hk⟩ := List.forall_mem_cons.mp hk
  have t2 : tv_ok ta (0, 0, 76, []) (n_v vs 2) := t2
  have k2 : 0 ≤ v_iv (n_v vs 2) ∧ v_iv (n_v vs 2) ≤ 76 := tv_rng t2
  obtain ⟨t3, hk⟩ := List.forall_mem_cons.mp hk
  have t3 : tv_ok ta (0, 0, 76, []) (n_v vs 3) := t3
  have k3 : 0 ≤ v_iv (n_v vs 3) ∧ v_iv (n_v vs 3) ≤ 76 := tv_rng t3
  have hds : ∀ q ∈ ([(2, 3, 0, 4294967296)] : List of_T), n_iv vs q.2.1 + q.2.2.1 ≤ n_iv vs q.1 ∧ n_iv vs q.1 ≤ n_iv vs q.2.1 + q.2.2.2 := hds
  obtain ⟨d0, hds⟩ := List.forall_mem_cons.mp hds
  have d0 : v_iv (n_v vs 3) + 0 ≤ v_iv (n_v vs 2) ∧ v_iv (n_v vs 2) ≤ v_iv (n_v vs 3) + 4294967296 := d0
  have hf : fc_ok PRD [(7, [2, 3], [3]), (9, [3, 1], [101]), (20, [1], [60, 4, 6, 369, 5, 100, 101, 107, 2, 95, 102, 104, 108, 109]), (20, [1], [60, 2, 3, 372, 100, 101, 102, 105, 106]), (20, [1], [60, 1, 1, 122, 5, 2]), (20, [1], [50, 2, 0, 79, 100, 1, 3, 2, 0, 79, 2, 0, 100]), (20, [1], [60, 2, 4, 380, 79, 80, 83, 84, 85, 86]), (20, [1], [50, 1, 0, 80, 0, 3, 2, 0, 80, 0, 130]), (20, [1, 2], [60, 2, 5, 392, 81, 101, 105, 106, 87, 88, 89]), (20, [1], [50, 1, 0, 81, 0, 3, 2, 0, 81, 0, 76]), (24, [0, 1], [])] ta ws vs := hf
  obtain ⟨f0, hf⟩ := fc_un (show (7 : Nat) < 100 from by decide) hf
  have f0 : v_iv (n_v vs 3) ≤ v_iv (n_v vs 2) := f0
  obtain ⟨f1, hf⟩ := fc_un (show (9 : Nat) < 100 from by decide) hf
  have f1 : n_v vs 3 = w_fd ws (v_ad (n_v vs 1)) 101 := f1
  obtain ⟨f2, hf⟩ := fc_un (show (20 : Nat) < 100 from by decide) hf
  have f2 : LSA (w_fi ws (n_v vs 1) 5) (w_fi ws (n_v vs 1) 100) (w_fi ws (n_v vs 1) 101) (w_fi ws (n_v vs 1) 107) (w_ei ws (w_ar ws (n_v vs 1) 2)) (w_ei ws (w_ar ws (n_v vs 1) 95)) (w_ei ws (w_ar ws (n_v vs 1) 102)) (w_ei ws (w_ar ws (n_v vs 1) 104)) (w_ei ws (w_ar ws (n_v vs 1) 108)) (w_ei ws (w_ar ws (n_v vs 1) 109)) := f2
  obtain ⟨f3, hf⟩ := fc_un (show (20 : Nat) < 100 from by decide) hf
  have f3 : LSB (w_fi ws (n_v vs 1) 100) (w_fi ws (n_v vs 1) 101) (w_ei ws (w_ar ws (n_v vs 1) 102)) (w_ei ws (w_ar ws (n_v vs 1) 105)) (w_ei ws (w_ar ws (n_v vs 1) 106)) := f3
  obtain ⟨f4, hf⟩ := fc_un (show (20 : Nat) < 100 from by decide) hf
  have f4 : SGR (w_fi ws (n_v vs 1) 5) (w_ei ws (w_ar ws (n_v vs 1) 2)) := f4
  obtain ⟨f5, hf⟩ := fc_un (show (20 : Nat) < 100 from by decide) hf
  have f5 : w_fi ws (n_v vs 1) 79 = w_fi ws (n_v vs 1) 100 := f5
  obtain ⟨f6, hf⟩ := fc_un (show (20 : Nat) < 100 from by decide) hf
  have f6 : PCQ (w_fi ws (n_v vs 1) 79) (w_fi ws (n_v vs 1) 80) (w_ei ws (w_ar ws (n_v vs 1) 83)) (w_ei ws (w_ar ws (n_v vs 1) 84)) (w_ei ws (w_ar ws (n_v vs 1) 85)) (w_ei ws (w_ar ws (n_v vs 1) 86)) := f6
  obtain ⟨f7, hf⟩ := fc_un (show (20 : Nat) < 100 from by decide) hf
  have f7 : w_fi ws (n_v vs 1) 80 ≤ 130 := f7
  obtain ⟨f8, hf⟩ := fc_un (show (20 : Nat) < 100 from by decide) hf
  have f8 : PAL1 (w_fi ws (n_v vs 1) 81) (w_fi ws (n_v vs 1) 101) (w_ei ws (w_ar ws (n_v vs 1) 105)) (w_ei ws (w_ar ws (n_v vs 1) 106)) (w_ei ws (w_ar ws (n_v vs 1) 87)) (w_ei ws (w_ar ws (n_v vs 1) 88)) (w_ei ws (w_ar ws (n_v vs 1) 89)) (v_iv (n_v vs 2)) := f8
  obtain ⟨f9, hf⟩ := fc_un (show (20 : Nat) < 100 from by decide) hf
  have f9 : w_fi ws (n_v vs 1) 81 ≤ 76 := f9
  obtain ⟨f10, hf⟩ := fc_un (show (24 : Nat) < 100 from by decide) hf
  have f10 : n_v vs 0 = n_v vs 1 := f10
  have q1 : n_v vs 1 = n_v vs 0 := f10.symm
  rw [q1] at f1
  rw [q1] at f2
  rw [q1] at f3
  rw [q1] at f4
  rw [q1] at f5
  rw [q1] at f6
  rw [q1] at f7
  rw [q1] at f8
  rw [q1] at f9
  have cr_0_2 : ta (w_ar ws (n_v vs 0) 2) = some 152 := tv_rg (th_fd hD hth r0 (g := GG_150) rfl (k := 2) (t := (2, 0, 0, [152])) rfl rfl)
  have cr_0_83 : ta (w_ar ws (n_v vs 0) 83) = some 205 := tv_rg (th_fd hD hth r0 (g := GG_150) rfl (k := 83) (t := (2, 0, 0, [205])) rfl rfl)
  have cr_0_84 : ta (w_ar ws (n_v vs 0) 84) = some 206 := tv_rg (th_fd hD hth r0 (g := GG_150) rfl (k := 84) (t := (2, 0, 0, [206])) rfl rfl)
  have cr_0_85 : ta (w_ar ws (n_v vs 0) 85) = some 207 := tv_rg (th_fd hD hth r0 (g := GG_150) rfl (k := 85) (t := (2, 0, 0, [207])) rfl rfl)
  have cr_0_86 : ta (w_ar ws (n_v vs 0) 86) = some 208 := tv_rg (th_fd hD hth r0 (g := GG_150) rfl (k := 86) (t := (2, 0, 0, [208])) rfl rfl)
  have cr_0_87 : ta (w_ar ws (n_v vs 0) 87) = some 209 := tv_rg (th_fd hD hth r0 (g := GG_150) rfl (k := 87) (t := (2, 0, 0, [209])) rfl rfl)
  have cr_0_88 : ta (w_ar ws (n_v vs 0) 88) = some 210 := tv_rg (th_fd hD hth r0 (g := GG_150) rfl (k := 88) (t := (2, 0, 0, [210])) rfl rfl)
  have cr_0_89 : ta (w_ar ws (n_v vs 0) 89) = some 211 := tv_rg (th_fd hD hth r0 (g := GG_150) rfl (k := 89) (t := (2, 0, 0, [211])) rfl rfl)
  have cr_0_95 : ta (w_ar ws (n_v vs 0) 95) = some 216 := tv_rg (th_fd hD hth r0 (g := GG_150) rfl (k := 95) (t := (2, 0, 0, [216])) rfl rfl)
  have cr_0_102 : ta (w_ar ws (n_v vs 0) 102) = some 220 := tv_rg (th_fd hD hth r0 (g := GG_150) rfl (k := 102) (t := (2, 0, 0, [220])) rfl rfl)
  have cr_0_104 : ta (w_ar ws (n_v vs 0) 104) = some 222 := tv_rg (th_fd hD hth r0 (g := GG_150) rfl (k := 104) (t := (2, 0, 0, [222])) rfl rfl)
  have cr_0_105 : ta (w_ar ws (n_v vs 0) 105) = some 223 := tv_rg (th_fd hD hth r0 (g := GG_150) rfl (k := 105) (t := (2, 0, 0, [223])) rfl rfl)
  have cr_0_106 : ta (w_ar ws (n_v vs 0) 106) = some 224 := tv_rg (th_fd hD hth r0 (g := GG_150) rfl (k := 106) (t := (2, 0, 0, [224])) rfl rfl)
  have cr_0_108 : ta (w_ar ws (n_v vs 0) 108) = some 225 := tv_rg (th_fd hD hth r0 (g := GG_150) rfl (k := 108) (t := (2, 0, 0, [225])) rfl rfl)
  have cr_0_109 : ta (w_ar ws (n_v vs 0) 109) = some 226 := tv_rg (th_fd hD hth r0 (g := GG_150) rfl (k := 109) (t := (2, 0, 0, [226])) rfl rfl)
  have g1 : v_iv (n_v vs 3) = w_fi ws (n_v vs 0) 101 := congrArg v_iv f1
  have hK_0_83 : ∀ j : Int, 0 ≤ j → j < 200 → 0 ≤ w_ei ws (w_ar ws (n_v vs 0) 83) j ∧ w_ei ws (w_ar ws (n_v vs 0) 83) j ≤ 75 := fun j h0 h1 => th_el hD hth cr_0_83 (kd := 0) (n := 200) (m := 200) (lo := 0) (hi := 75) (rs := []) (L := []) rfl (by decide) (j := j.toNat) (by omega)
  have hK_0_84 : ∀ j : Int, 0 ≤ j → j < 200 → 0 ≤ w_ei ws (w_ar ws (n_v vs 0) 84) j ∧ w_ei ws (w_ar ws (n_v vs 0) 84) j ≤ 75 := fun j h0 h1 => th_el hD hth cr_0_84 (kd := 0) (n := 200) (m := 200) (lo := 0) (hi := 75) (rs := []) (L := []) rfl (by decide) (j := j.toNat) (by omega)
  have hK_0_85 : ∀ j : Int, 0 ≤ j → j < 200 → 0 ≤ w_ei ws (w_ar ws (n_v vs 0) 85) j ∧ w_ei ws (w_ar ws (n_v vs 0) 85) j ≤ 72 := fun j h0 h1 => th_el hD hth cr_0_85 (kd := 0) (n := 200) (m := 200) (lo := 0) (hi := 72) (rs := []) (L := []) rfl (by decide) (j := j.toNat) (by omega)
  have hK_0_86 : ∀ j : Int, 0 ≤ j → j < 200 → 0 ≤ w_ei ws (w_ar ws (n_v vs 0) 86) j ∧ w_ei ws (w_ar ws (n_v vs 0) 86) j ≤ 1 := fun j h0 h1 => th_el hD hth cr_0_86 (kd := 2) (n := 200) (m := 200) (lo := 0) (hi := 1) (rs := []) (L := []) rfl (by decide) (j := j.toNat) (by omega)
  have hK_0_87 : ∀ j : Int, 0 ≤ j → j < 200 → 0 ≤ w_ei ws (w_ar ws (n_v vs 0) 87) j ∧ w_ei ws (w_ar ws (n_v vs 0) 87) j ≤ 75 := fun j h0 h1 => th_el hD hth cr_0_87 (kd := 0) (n := 200) (m := 200) (lo := 0) (hi := 75) (rs := []) (L := []) rfl (by decide) (j := j.toNat) (by omega)
  have hK_0_88 : ∀ j : Int, 0 ≤ j → j < 200 → 0 ≤ w_ei ws (w_ar ws (n_v vs 0) 88) j ∧ w_ei ws (w_ar ws (n_v vs 0) 88) j ≤ 75 := fun j h0 h1 => th_el hD hth cr_0_88 (kd := 0) (n := 200) (m := 200) (lo := 0) (hi := 75) (rs := []) (L := []) rfl (by decide) (j := j.toNat) (by omega)
  have hK_0_89 : ∀ j : Int, 0 ≤ j → j < 200 → 0 ≤ w_ei ws (w_ar ws (n_v vs 0) 89) j ∧ w_ei ws (w_ar ws (n_v vs 0) 89) j ≤ 202 := fun j h0 h1 => th_el hD hth cr_0_89 (kd := 0) (n := 200) (m := 200) (lo := 0) (hi := 202) (rs := []) (L := []) rfl (by decide) (j := j.toNat) (by omega)
  have hK_0_95 : ∀ j : Int, 0 ≤ j → j < 48 → 0 ≤ w_ei ws (w_ar ws (n_v vs 0) 95) j ∧ w_ei ws (w_ar ws (n_v vs 0) 95) j ≤ 1 := fun j h0 h1 => th_el hD hth cr_0_95 (kd := 2) (n := 48) (m := 48) (lo := 0) (hi := 1) (rs := []) (L := []) rfl (by decide) (j := j.toNat) (by omega)
  have hK_0_102 : ∀ j : Int, 0 ≤ j → j < 76 → 0 ≤ w_ei ws (w_ar ws (n_v vs 0) 102) j ∧ w_ei ws (w_ar ws (n_v vs 0) 102) j ≤ 75 := fun j h0 h1 => th_el hD hth cr_0_102 (kd := 0) (n := 76) (m := 76) (lo := 0) (hi := 75) (rs := []) (L := []) rfl (by decide) (j := j.toNat) (by omega)
  have hK_0_104 : ∀ j : Int, 0 ≤ j → j < 48 → 0 ≤ w_ei ws (w_ar ws (n_v vs 0) 104) j ∧ w_ei ws (w_ar ws (n_v vs 0) 104) j ≤ 76 := fun j h0 h1 => th_el hD hth cr_0_104 (kd := 0) (n := 48) (m := 48) (lo := 0) (hi := 76) (rs := []) (L := []) rfl (by decide) (j := j.toNat) (by omega)
  have hK_0_105 : ∀ j : Int, 0 ≤ j → j < 76 → 0 ≤ w_ei ws (w_ar ws (n_v vs 0) 105) j ∧ w_ei ws (w_ar ws (n_v vs 0) 105) j ≤ 76 := fun j h0 h1 => th_el hD hth cr_0_105 (kd := 0) (n := 76) (m := 76) (lo := 0) (hi := 76) (rs := []) (L := []) rfl (by decide) (j := j.toNat) (by omega)
  have hK_0_106 : ∀ j : Int, 0 ≤ j → j < 5776 → 0 ≤ w_ei ws (w_ar ws (n_v vs 0) 106) j ∧ w_ei ws (w_ar ws (n_v vs 0) 106) j ≤ 75 := fun j h0 h1 => th_el hD hth cr_0_106 (kd := 0) (n := 5776) (m := 5776) (lo := 0) (hi := 75) (rs := []) (L := []) rfl (by decide) (j := j.toNat) (by omega)
  have hK_0_108 : ∀ j : Int, 0 ≤ j → j < 130 → 0 ≤ w_ei ws (w_ar ws (n_v vs 0) 108) j ∧ w_ei ws (w_ar ws (n_v vs 0) 108) j ≤ 75 := fun j h0 h1 => th_el hD hth cr_0_108 (kd := 0) (n := 130) (m := 130) (lo := 0) (hi := 75) (rs := []) (L := []) rfl (by decide) (j := j.toNat) (by omega)
  have hK_0_109 : ∀ j : Int, 0 ≤ j → j < 130 → 0 ≤ w_ei ws (w_ar ws (n_v vs 0) 109) j ∧ w_ei ws (w_ar ws (n_v vs 0) 109) j ≤ 75 := fun j h0 h1 => th_el hD hth cr_0_109 (kd := 0) (n := 130) (m := 130) (lo := 0) (hi := 75) (rs := []) (L := []) rfl (by decide) (j := j.toNat) (by omega)
  have kz_0_79 : 0 ≤ w_fi ws (n_v vs 0) 79 ∧ w_fi ws (n_v vs 0) 79 ≤ 76 := tv_rng (th_fd hD hth r0 (g := GG_150) rfl (k := 79) (t := (0, 0, 76, [])) rfl rfl)
  have kz_0_80 : 0 ≤ w_fi ws (n_v vs 0) 80 ∧ w_fi ws (n_v vs 0) 80 ≤ 200 := tv_rng (th_fd hD hth r0 (g := GG_150) rfl (k := 80) (t := (0, 0, 200, [])) rfl rfl)
  have kz_0_81 : 0 ≤ w_fi ws (n_v vs 0) 81 ∧ w_fi ws (n_v vs 0) 81 ≤ 200 := tv_rng (th_fd hD hth r0 (g := GG_150) rfl (k := 81) (t := (0, 0, 200, [])) rfl rfl)
  have kz_0_100 : 0 ≤ w_fi ws (n_v vs 0) 100 ∧ w_fi ws (n_v vs 0) 100 ≤ 76 := tv_rng (th_fd hD hth r0 (g := GG_150) rfl (k := 100) (t := (0, 0, 76, [])) rfl rfl)
  have kz_0_101 : 0 ≤ w_fi ws (n_v vs 0) 101 ∧ w_fi ws (n_v vs 0) 101 ≤ 76 := tv_rng (th_fd hD hth r0 (g := GG_150) rfl (k := 101) (t := (0, 0, 76, [])) rfl rfl)
  have kz_0_107 : 0 ≤ w_fi ws (n_v vs 0) 107 ∧ w_fi ws (n_v vs 0) 107 ≤ 130 := tv_rng (th_fd hD hth r0 (g := GG_150) rfl (k := 107) (t := (0, 0, 130, [])) rfl rfl)
  have nf0 : fc_1 PRD (20, [1], [60, 3, 7, 320, 79, 80, 81, 83, 84, 85, 86, 87, 88, 89]) ws (vs) := by
    refine ⟨fun n hn => ?_, ?_⟩
    · have hn : n ∈ [1] := hn
      rw [hl]
      simp only [List.mem_cons, List.not_mem_nil, or_false] at hn
      show n < 4; omega
    · show PBR (w_fi ws (n_v vs 1) 79) (w_fi ws (n_v vs 1) 80) (w_fi ws (n_v vs 1) 81) (w_ei ws (w_ar ws (n_v vs 1) 83)) (w_ei ws (w_ar ws (n_v vs 1) 84)) (w_ei ws (w_ar ws (n_v vs 1) 85)) (w_ei ws (w_ar ws (n_v vs 1) 86)) (w_ei ws (w_ar ws (n_v vs 1) 87)) (w_ei ws (w_ar ws (n_v vs 1) 88)) (w_ei ws (w_ar ws (n_v vs 1) 89))
      rw [q1]
      exact vc_Mo_across2_11_0 (v_iv (n_v vs 2)) (v_iv (n_v vs 3)) (w_fi ws (n_v vs 0) 101) (w_ei ws (w_ar ws (n_v vs 0) 2)) (w_ei ws (w_ar ws (n_v vs 0) 95)) (w_ei ws (w_ar ws (n_v vs 0) 102)) (w_ei ws (w_ar ws (n_v vs 0) 104)) (w_ei ws (w_ar ws (n_v vs 0) 108)) (w_ei ws (w_ar ws (n_v vs 0) 109)) (w_fi ws (n_v vs 0) 5) (w_fi ws (n_v vs 0) 100) (w_fi ws (n_v vs 0) 107) (w_ei ws (w_ar ws (n_v vs 0) 105)) (w_ei ws (w_ar ws (n_v vs 0) 106)) (w_fi ws (n_v vs 0) 79) (w_ei ws (w_ar ws (n_v vs 0) 83)) (w_ei ws (w_ar ws (n_v vs 0) 84)) (w_ei ws (w_ar ws (n_v vs 0) 85)) (w_ei ws (w_ar ws (n_v vs 0) 86)) (w_fi ws (n_v vs 0) 80) (w_ei ws (w_ar ws (n_v vs 0) 87)) (w_ei ws (w_ar ws (n_v vs 0) 88)) (w_ei ws (w_ar ws (n_v vs 0) 89)) (w_fi ws (n_v vs 0) 81) k2 k3 d0 f0 g1 f2 f3 f4 f5 f6 f7 f8 f9 hK_0_83 hK_0_84 hK_0_85 hK_0_86 hK_0_87 hK_0_88 hK_0_89 hK_0_95 hK_0_102 hK_0_104 hK_0_105 hK_0_106 hK_0_108 hK_0_109 kz_0_79 kz_0_80 kz_0_81 kz_0_100 kz_0_101 kz_0_107
  refine ⟨(fun _ h => (by cases h)), [], trivial, ?_, (fun _ h => (by cases h))⟩
  rw [List.append_nil]
  exact List.forall_mem_cons.mpr ⟨⟨show (20 : Nat) < 100 from by decide, nf0⟩, (fun _ h => (by cases h))⟩
set_option maxHeartbeats 4000000 in
theorem vc_Mo_across2_12_0 (x2 : Int) (x3 : Int) (costA_0 : Int → Int) (costB_0 : Int → Int) (costW_0 : Int → Int) (costPlain_0 : Int → Int) (apartA_0 : Int → Int) (apartB_0 : Int → Int) (apart_0 : Int → Int) (pointMany_0 : Int) (costMany_0 : Int) (apartMany_0 : Int) (all_0 : Int → Int) (turned_0 : Int → Int) (itemLayer_0 : Int → Int) (firstJoint_0 : Int → Int) (lineA_0 : Int → Int) (lineB_0 : Int → Int) (r_0 : Int) (items_0 : Int) (layerMany_0 : Int) (lines_0 : Int) (layerSize_0 : Int → Int) (layerItem_0 : Int → Int) (spot_0 : Int → Int) (k2 : 0 ≤ x2 ∧ x2 ≤ 76) (k3 : 0 ≤ x3 ∧ x3 ≤ 76) (d0 : x3 + 0 ≤ x2 ∧ x2 ≤ x3 + 4294967296) (f0 : PBR (pointMany_0) (costMany_0) (apartMany_0) (costA_0) (costB_0) (costW_0) (costPlain_0) (apartA_0) (apartB_0) (apart_0)) (f1 : LSA (r_0) (items_0) (layerMany_0) (lines_0) (all_0) (turned_0) (itemLayer_0) (firstJoint_0) (lineA_0) (lineB_0)) (f2 : LSB (items_0) (layerMany_0) (itemLayer_0) (layerSize_0) (layerItem_0)) (f3 : SGR (r_0) (all_0)) (f4 : pointMany_0 = items_0) (f5 : PCQ (pointMany_0) (costMany_0) (costA_0) (costB_0) (costW_0) (costPlain_0)) (f6 : costMany_0 ≤ 130) (f7 : PAL1 (apartMany_0) (layerMany_0) (layerSize_0) (layerItem_0) (apartA_0) (apartB_0) (apart_0) (x2)) (f8 : apartMany_0 ≤ 76) (f10 : RIP (pointMany_0) (costMany_0) (apartMany_0) (spot_0) (costA_0) (costB_0) (costW_0) (costPlain_0) (apartA_0) (apartB_0) (apart_0)) (f12 : x3 ≤ x2) (hK_0_82 : ∀ j : Int, 0 ≤ j → j < 76 → 0 ≤ spot_0 j ∧ spot_0 j ≤ 221100000) (hK_0_83 : ∀ j : Int, 0 ≤ j → j < 200 → 0 ≤ costA_0 j ∧ costA_0 j ≤ 75) (hK_0_84 : ∀ j : Int, 0 ≤ j → j < 200 → 0 ≤ costB_0 j ∧ costB_0 j ≤ 75) (hK_0_85 : ∀ j : Int, 0 ≤ j → j < 200 → 0 ≤ costW_0 j ∧ costW_0 j ≤ 72) (hK_0_86 : ∀ j : Int, 0 ≤ j → j < 200 → 0 ≤ costPlain_0 j ∧ costPlain_0 j ≤ 1) (hK_0_87 : ∀ j : Int, 0 ≤ j → j < 200 → 0 ≤ apartA_0 j ∧ apartA_0 j ≤ 75) (hK_0_88 : ∀ j : Int, 0 ≤ j → j < 200 → 0 ≤ apartB_0 j ∧ apartB_0 j ≤ 75) (hK_0_89 : ∀ j : Int, 0 ≤ j → j < 200 → 0 ≤ apart_0 j ∧ apart_0 j ≤ 202) (hK_0_95 : ∀ j : Int, 0 ≤ j → j < 48 → 0 ≤ turned_0 j ∧ turned_0 j ≤ 1) (hK_0_102 : ∀ j : Int, 0 ≤ j → j < 76 → 0 ≤ itemLayer_0 j ∧ itemLayer_0 j ≤ 75) (hK_0_104 : ∀ j : Int, 0 ≤ j → j < 48 → 0 ≤ firstJoint_0 j ∧ firstJoint_0 j ≤ 76) (hK_0_105 : ∀ j : Int, 0 ≤ j → j < 76 → 0 ≤ layerSize_0 j ∧ layerSize_0 j ≤ 76) (hK_0_106 : ∀ j : Int, 0 ≤ j → j < 5776 → 0 ≤ layerItem_0 j ∧ layerItem_0 j ≤ 75) (hK_0_108 : ∀ j : Int, 0 ≤ j → j < 130 → 0 ≤ lineA_0 j ∧ lineA_0 j ≤ 75) (hK_0_109 : ∀ j : Int, 0 ≤ j → j < 130 → 0 ≤ lineB_0 j ∧ lineB_0 j ≤ 75) (kz_0_79 : 0 ≤ pointMany_0 ∧ pointMany_0 ≤ 76) (kz_0_80 : 0 ≤ costMany_0 ∧ costMany_0 ≤ 200) (kz_0_81 : 0 ≤ apartMany_0 ∧ apartMany_0 ≤ 200) (kz_0_100 : 0 ≤ items_0 ∧ items_0 ≤ 76) (kz_0_101 : 0 ≤ layerMany_0 ∧ layerMany_0 ≤ 76) (kz_0_107 : 0 ≤ lines_0 ∧ lines_0 ≤ 130) : RIP (pointMany_0) (costMany_0) (apartMany_0) (spot_0) (costA_0) (costB_0) (costW_0) (costPlain_0) (apartA_0) (apartB_0) (apart_0) := by
  assumption
set_option maxHeartbeats 4000000 in
theorem vc_Mo_across2_12_1 (x2 : Int) (x3 : Int) (costA_0 : Int → Int) (costB_0 : Int → Int) (costW_0 : Int → Int) (costPlain_0 : Int → Int) (apartA_0 : Int → Int) (apartB_0 : Int → Int) (apart_0 : Int → Int) (pointMany_0 : Int) (costMany_0 : Int) (apartMany_0 : Int) (all_0 : Int → Int) (turned_0 : Int → Int) (itemLayer_0 : Int → Int) (firstJoint_0 : Int → Int) (lineA_0 : Int → Int) (lineB_0 : Int → Int) (r_0 : Int) (items_0 : Int) (layerMany_0 : Int) (lines_0 : Int) (layerSize_0 : Int → Int) (layerItem_0 : Int → Int) (spot_0 : Int → Int) (k2 : 0 ≤ x2 ∧ x2 ≤ 76) (k3 : 0 ≤ x3 ∧ x3 ≤ 76) (d0 : x3 + 0 ≤ x2 ∧ x2 ≤ x3 + 4294967296) (f0 : PBR (pointMany_0) (costMany_0) (apartMany_0) (costA_0) (costB_0) (costW_0) (costPlain_0) (apartA_0) (apartB_0) (apart_0)) (f1 : LSA (r_0) (items_0) (layerMany_0) (lines_0) (all_0) (turned_0) (itemLayer_0) (firstJoint_0) (lineA_0) (lineB_0)) (f2 : LSB (items_0) (layerMany_0) (itemLayer_0) (layerSize_0) (layerItem_0)) (f3 : SGR (r_0) (all_0)) (f4 : pointMany_0 = items_0) (f5 : PCQ (pointMany_0) (costMany_0) (costA_0) (costB_0) (costW_0) (costPlain_0)) (f6 : costMany_0 ≤ 130) (f7 : PAL1 (apartMany_0) (layerMany_0) (layerSize_0) (layerItem_0) (apartA_0) (apartB_0) (apart_0) (x2)) (f8 : apartMany_0 ≤ 76) (f10 : RIP (pointMany_0) (costMany_0) (apartMany_0) (spot_0) (costA_0) (costB_0) (costW_0) (costPlain_0) (apartA_0) (apartB_0) (apart_0)) (f12 : x3 ≤ x2) (hK_0_82 : ∀ j : Int, 0 ≤ j → j < 76 → 0 ≤ spot_0 j ∧ spot_0 j ≤ 221100000) (hK_0_83 : ∀ j : Int, 0 ≤ j → j < 200 → 0 ≤ costA_0 j ∧ costA_0 j ≤ 75) (hK_0_84 : ∀ j : Int, 0 ≤ j → j < 200 → 0 ≤ costB_0 j ∧ costB_0 j ≤ 75) (hK_0_85 : ∀ j : Int, 0 ≤ j → j < 200 → 0 ≤ costW_0 j ∧ costW_0 j ≤ 72) (hK_0_86 : ∀ j : Int, 0 ≤ j → j < 200 → 0 ≤ costPlain_0 j ∧ costPlain_0 j ≤ 1) (hK_0_87 : ∀ j : Int, 0 ≤ j → j < 200 → 0 ≤ apartA_0 j ∧ apartA_0 j ≤ 75) (hK_0_88 : ∀ j : Int, 0 ≤ j → j < 200 → 0 ≤ apartB_0 j ∧ apartB_0 j ≤ 75) (hK_0_89 : ∀ j : Int, 0 ≤ j → j < 200 → 0 ≤ apart_0 j ∧ apart_0 j ≤ 202) (hK_0_95 : ∀ j : Int, 0 ≤ j → j < 48 → 0 ≤ turned_0 j ∧ turned_0 j ≤ 1) (hK_0_102 : ∀ j : Int, 0 ≤ j → j < 76 → 0 ≤ itemLayer_0 j ∧ itemLayer_0 j ≤ 75) (hK_0_104 : ∀ j : Int, 0 ≤ j → j < 48 → 0 ≤ firstJoint_0 j ∧ firstJoint_0 j ≤ 76) (hK_0_105 : ∀ j : Int, 0 ≤ j → j < 76 → 0 ≤ layerSize_0 j ∧ layerSize_0 j ≤ 76) (hK_0_106 : ∀ j : Int, 0 ≤ j → j < 5776 → 0 ≤ layerItem_0 j ∧ layerItem_0 j ≤ 75) (hK_0_108 : ∀ j : Int, 0 ≤ j → j < 130 → 0 ≤ lineA_0 j ∧ lineA_0 j ≤ 75) (hK_0_109 : ∀ j : Int, 0 ≤ j → j < 130 → 0 ≤ lineB_0 j ∧ lineB_0 j ≤ 75) (kz_0_79 : 0 ≤ pointMany_0 ∧ pointMany_0 ≤ 76) (kz_0_80 : 0 ≤ costMany_0 ∧ costMany_0 ≤ 200) (kz_0_81 : 0 ≤ apartMany_0 ∧ apartMany_0 ≤ 200) (kz_0_100 : 0 ≤ items_0 ∧ items_0 ≤ 76) (kz_0_101 : 0 ≤ layerMany_0 ∧ layerMany_0 ≤ 76) (kz_0_107 : 0 ≤ lines_0 ∧ lines_0 ≤ 130) : pointMany_0 = items_0 := by
  try simp only [Int.add_zero] at *
  first
    | omega
    | (have h := ‹LSA _ _ _ _ _ _ _ _ _ _›.2.1; omega)
    | (have h := lsa_la (p := x2) (x := x15) ‹LSA _ _ _ _ _ _ _ _ _ _› (by omega) (by omega) (by assumption); omega)
    | (have h := lsa_lb (p := x2) (x := x16) ‹LSA _ _ _ _ _ _ _ _ _ _› (by omega) (by omega) (by assumption); omega)
def o_Mo_across2_12 : or_T := (262, 4, [(0, (2, 0, 0, [150])), (1, (2, 0, 0, [150])), (2, (0, 0, 76, [])), (3, (0, 0, 76, []))], [(20, [1], [60, 3, 7, 320, 79, 80, 81, 83, 84, 85, 86, 87, 88, 89]), (20, [1], [60, 4, 6, 369, 5, 100, 101, 107, 2, 95, 102, 104, 108, 109]), (20, [1], [60, 2, 3, 372, 100, 101, 102, 105, 106]), (20, [1], [60, 1, 1, 122, 5, 2]), (20, [1], [50, 2, 0, 79, 100, 1, 3, 2, 0, 79, 2, 0, 100]), (20, [1], [60, 2, 4, 380, 79, 80, 83, 84, 85, 86]), (20, [1], [50, 1, 0, 80, 0, 3, 2, 0, 80, 0, 130]), (20, [1, 2], [60, 2, 5, 392, 81, 101, 105, 106, 87, 88, 89]), (20, [1], [50, 1, 0, 81, 0, 3, 2, 0, 81, 0, 76]), (24, [0, 1], []), (20, [1], [60, 3, 8, 348, 79, 80, 81, 82, 83, 84, 85, 86, 87, 88, 89]), (102, [3], [98755984447980506373706822346918488900604507185915316486281363456, 13094]), (7, [2, 3], [3])], [], [], [(20, [0], [60, 3, 8, 348, 79, 80, 81, 82, 83, 84, 85, 86, 87, 88, 89]), (20, [0], [50, 2, 0, 79, 100, 1, 3, 2, 0, 79, 2, 0, 100])], [], [(2, 3, 0, 4294967296)])
theorem oo_Mo_across2_12 {kA : Nat → ClassId} : or_ok PRD kA GG o_Mo_across2_12 := by
  intro A ta ws vs hD hth hl hk hds hf
  have hl : vs.length = 4 := hl
  have hk : ∀ q ∈ ([(0, (2, 0, 0, [150])), (1, (2, 0, 0, [150])), (2, (0, 0, 76, [])), (3, (0, 0, 76, []))] : List (Nat × tv_T)), tv_ok ta q.2 (n_v vs q.1) := hk
  obtain ⟨t0, hk⟩ := List.forall_mem_cons.mp hk
  have t0 : tv_ok ta (2, 0, 0, [150]) (n_v vs 0) := t0
  have r0 : ta (v_ad (n_v vs 0)) = some 150 := tv_rg t0
  obtain ⟨t1, hk⟩ := List.forall_mem_cons.mp hk
  have t1 : tv_ok ta (2, 0, 0, [150]) (n_v vs 1) := t1
  have r1 : ta (v_ad (n_v vs 1)) = some 150 := tv_rg t1
  obtain ⟨t2, hk⟩ := List.forall_mem_cons.mp hk
  have t2 : tv_ok ta (0, 0, 76, []) (n_v vs 2) := t2
  have k2 : 0 ≤ v_iv (n_v vs 2) ∧ v_iv (n_v vs 2) ≤ 76 := tv_rng t2
  obtain ⟨t3, hk⟩ := List.forall_mem_cons.mp hk
  have t3 : tv_ok ta (0, 0, 76, []) (n_v vs 3) := t3
  have k3 : 0 ≤ v_iv (n_v vs 3) ∧ v_iv (n_v vs 3) ≤ 76 := tv_rng t3
  have hds : ∀ q ∈ ([(2, 3, 0, 4294967296)] : List of_T), n_iv vs q.2.1 + q.2.2.1 ≤ n_iv vs q.1 ∧ n_iv vs q.1 ≤ n_iv vs q.2.1 + q.2.2.2 := hds
  obtain ⟨d0, hds⟩ := List.forall_mem_cons.mp hds
  have d0 : v_iv (n_v vs 3) + 0 ≤ v_iv (n_v vs 2) ∧ v_iv (n_v vs 2) ≤ v_iv (n_v vs 3) + 4294967296 := d0
  have hf : fc_ok PRD [(20, [1], [60, 3, 7, 320, 79, 80, 81, 83, 84, 85, 86, 87, 88, 89]), (20, [1], [60, 4, 6, 369, 5, 100, 101, 107, 2, 95, 102, 104, 108, 109]), (20, [1], [60, 2, 3, 372, 100, 101, 102, 105, 106]), (20, [1], [60, 1, 1, 122, 5, 2]), (20, [1], [50, 2, 0, 79, 100, 1, 3, 2, 0, 79, 2, 0, 100]), (20, [1], [60, 2, 4, 380, 79, 80, 83, 84, 85, 86]), (20, [1], [50, 1, 0, 80, 0, 3, 2, 0, 80, 0, 130]), (20, [1, 2], [60, 2, 5, 392, 81, 101, 105, 106, 87, 88, 89]), (20, [1], [50, 1, 0, 81, 0, 3, 2, 0, 81, 0, 76]), (24, [0, 1], []), (20, [1], [60, 3, 8, 348, 79, 80, 81, 82, 83, 84, 85, 86, 87, 88, 89]), (102, [3], [98755984447980506373706822346918488900604507185915316486281363456, 13094]), (7, [2, 3], [3])] ta ws vs := hf
  obtain ⟨f0, hf⟩ := fc_un (show (20 : Nat) < 100 from by decide) hf
  have f0 : PBR (w_fi ws (n_v vs 1) 79) (w_fi ws (n_v vs 1) 80) (w_fi ws (n_v vs 1) 81) (w_ei ws (w_ar ws (n_v vs 1) 83)) (w_ei ws (w_ar ws (n_v vs 1) 84)) (w_ei ws (w_ar ws (n_v vs 1) 85)) (w_ei ws (w_ar ws (n_v vs 1) 86)) (w_ei ws (w_ar ws (n_v vs 1) 87)) (w_ei ws (w_ar ws (n_v vs 1) 88)) (w_ei ws (w_ar ws (n_v vs 1) 89)) := f0
  obtain ⟨f1, hf⟩ := fc_un (show (20 : Nat) < 100 from by decide) hf
  have f1 : LSA (w_fi ws (n_v vs 1) 5) (w_fi ws (n_v vs 1) 100) (w_fi ws (n_v vs 1) 101) (w_fi ws (n_v vs 1) 107) (w_ei ws (w_ar ws (n_v vs 1) 2)) (w_ei ws (w_ar ws (n_v vs 1) 95)) (w_ei ws (w_ar ws (n_v vs 1) 102)) (w_ei ws (w_ar ws (n_v vs 1) 104)) (w_ei ws (w_ar ws (n_v vs 1) 108)) (w_ei ws (w_ar ws (n_v vs 1) 109)) := f1
  obtain ⟨f2, hf⟩ := fc_un (show (20 : Nat) < 100 from by decide) hf
  have f2 : LSB (w_fi ws (n_v vs 1) 100) (w_fi ws (n_v vs 1) 101) (w_ei ws (w_ar ws (n_v vs 1) 102)) (w_ei ws (w_ar ws (n_v vs 1) 105)) (w_ei ws (w_ar ws (n_v vs 1) 106)) := f2
  obtain ⟨f3, hf⟩ := fc_un (show (20 : Nat) < 100 from by decide) hf
  have f3 : SGR (w_fi ws (n_v vs 1) 5) (w_ei ws (w_ar ws (n_v vs 1) 2)) := f3
  obtain ⟨f4, hf⟩ := fc_un (show (20 : Nat) < 100 from by decide) hf
  have f4 : w_fi ws (n_v vs 1) 79 = w_fi ws (n_v vs 1) 100 := f4
  obtain ⟨f5, hf⟩ := fc_un (show (20 : Nat) < 100 from by decide) hf
  have f5 : PCQ (w_fi ws (n_v vs 1) 79) (w_fi ws (n_v vs 1) 80) (w_ei ws (w_ar ws (n_v vs 1) 83)) (w_ei ws (w_ar ws (n_v vs 1) 84)) (w_ei ws (w_ar ws (n_v vs 1) 85)) (w_ei ws (w_ar ws (n_v vs 1) 86)) := f5
  obtain ⟨f6, hf⟩ := fc_un (show (20 : Nat) < 100 from by decide) hf
  have f6 : w_fi ws (n_v vs 1) 80 ≤ 130 := f6
  obtain ⟨f7, hf⟩ := fc_un (show (20 : Nat) < 100 from by decide) hf
  have f7 : PAL1 (w_fi ws (n_v vs 1) 81) (w_fi ws (n_v vs 1) 101) (w_ei ws (w_ar ws (n_v vs 1) 105)) (w_ei ws (w_ar ws (n_v vs 1) 106)) (w_ei ws (w_ar ws (n_v vs 1) 87)) (w_ei ws (w_ar ws (n_v vs 1) 88)) (w_ei ws (w_ar ws (n_v vs 1) 89)) (v_iv (n_v vs 2)) := f7
  obtain ⟨f8, hf⟩ := fc_un (show (20 : Nat) < 100 from by decide) hf
  have f8 : w_fi ws (n_v vs 1) 81 ≤ 76 := f8
  obtain ⟨f9, hf⟩ := fc_un (show (24 : Nat) < 100 from by decide) hf
  have f9 : n_v vs 0 = n_v vs 1 := f9
  obtain ⟨f10, hf⟩ := fc_un (show (20 : Nat) < 100 from by decide) hf
  have f10 : RIP (w_fi ws (n_v vs 1) 79) (w_fi ws (n_v vs 1) 80) (w_fi ws (n_v vs 1) 81) (w_ei ws (w_ar ws (n_v vs 1) 82)) (w_ei ws (w_ar ws (n_v vs 1) 83)) (w_ei ws (w_ar ws (n_v vs 1) 84)) (w_ei ws (w_ar ws (n_v vs 1) 85)) (w_ei ws (w_ar ws (n_v vs 1) 86)) (w_ei ws (w_ar ws (n_v vs 1) 87)) (w_ei ws (w_ar ws (n_v vs 1) 88)) (w_ei ws (w_ar ws (n_v vs 1) 89)) := f10
  obtain ⟨ta1, w1, le1, ⟨_, s1⟩, hf⟩ := fc_us (show ¬ (102 : Nat) < 100 from by decide) hf
  obtain ⟨f12, hf⟩ := fc_un (show (7 : Nat) < 100 from by decide) hf
  have f12 : v_iv (n_v vs 3) ≤ v_iv (n_v vs 2) := f12
  have q1 : n_v vs 1 = n_v vs 0 := f9.symm
  rw [q1] at f0
  rw [q1] at f1
  rw [q1] at f2
  rw [q1] at f3
  rw [q1] at f4
  rw [q1] at f5
  rw [q1] at f6
  rw [q1] at f7
  rw [q1] at f8
  rw [q1] at f10
  have cr_0_2 : ta (w_ar ws (n_v vs 0) 2) = some 152 := tv_rg (th_fd hD hth r0 (g := GG_150) rfl (k := 2) (t := (2, 0, 0, [152])) rfl rfl)
  have cr_0_82 : ta (w_ar ws (n_v vs 0) 82) = some 204 := tv_rg (th_fd hD hth r0 (g := GG_150) rfl (k := 82) (t := (2, 0, 0, [204])) rfl rfl)
  have cr_0_83 : ta (w_ar ws (n_v vs 0) 83) = some 205 := tv_rg (th_fd hD hth r0 (g := GG_150) rfl (k := 83) (t := (2, 0, 0, [205])) rfl rfl)
  have cr_0_84 : ta (w_ar ws (n_v vs 0) 84) = some 206 := tv_rg (th_fd hD hth r0 (g := GG_150) rfl (k := 84) (t := (2, 0, 0, [206])) rfl rfl)
  have cr_0_85 : ta (w_ar ws (n_v vs 0) 85) = some 207 := tv_rg (th_fd hD hth r0 (g := GG_150) rfl (k := 85) (t := (2, 0, 0, [207])) rfl rfl)
  have cr_0_86 : ta (w_ar ws (n_v vs 0) 86) = some 208 := tv_rg (th_fd hD hth r0 (g := GG_150) rfl (k := 86) (t := (2, 0, 0, [208])) rfl rfl)
  have cr_0_87 : ta (w_ar ws (n_v vs 0) 87) = some 209 := tv_rg (th_fd hD hth r0 (g := GG_150) rfl (k := 87) (t := (2, 0, 0, [209])) rfl rfl)
  have cr_0_88 : ta (w_ar ws (n_v vs 0) 88) = some 210 := tv_rg (th_fd hD hth r0 (g := GG_150) rfl (k := 88) (t := (2, 0, 0, [210])) rfl rfl)
  have cr_0_89 : ta (w_ar ws (n_v vs 0) 89) = some 211 := tv_rg (th_fd hD hth r0 (g := GG_150) rfl (k := 89) (t := (2, 0, 0, [211])) rfl rfl)
  have cr_0_95 : ta (w_ar ws (n_v vs 0) 95) = some 216 := tv_rg (th_fd hD hth r0 (g := GG_150) rfl (k := 95) (t := (2, 0, 0, [216])) rfl rfl)
  have cr_0_102 : ta (w_ar ws (n_v vs 0) 102) = some 220 := tv_rg (th_fd hD hth r0 (g := GG_150) rfl (k := 102) (t := (2, 0, 0, [220])) rfl rfl)
  have cr_0_104 : ta (w_ar ws (n_v vs 0) 104) = some 222 := tv_rg (th_fd hD hth r0 (g := GG_150) rfl (k := 104) (t := (2, 0, 0, [222])) rfl rfl)
  have cr_0_105 : ta (w_ar ws (n_v vs 0) 105) = some 223 := tv_rg (th_fd hD hth r0 (g := GG_150) rfl (k := 105) (t := (2, 0, 0, [223])) rfl rfl)
  have cr_0_106 : ta (w_ar ws (n_v vs 0) 106) = some 224 := tv_rg (th_fd hD hth r0 (g := GG_150) rfl (k := 106) (t := (2, 0, 0, [224])) rfl rfl)
  have cr_0_108 : ta (w_ar ws (n_v vs 0) 108) = some 225 := tv_rg (th_fd hD hth r0 (g := GG_150) rfl (k := 108) (t := (2, 0, 0, [225])) rfl rfl)
  have cr_0_109 : ta (w_ar ws (n_v vs 0) 109) = some 226 := tv_rg (th_fd hD hth r0 (g := GG_150) rfl (k := 109) (t := (2, 0, 0, [226])) rfl rfl)
  have hK_0_82 : ∀ j : Int, 0 ≤ j → j < 76 → 0 ≤ w_ei ws (w_ar ws (n_v vs 0) 82) j ∧ w_ei ws (w_ar ws (n_v vs 0) 82) j ≤ 221100000 := fun j h0 h1 => th_el hD hth cr_0_82 (kd := 0) (n := 76) (m := 76) (lo := 0) (hi := 221100000) (rs := []) (L := []) rfl (by decide) (j := j.toNat) (by omega)
  have hK_0_83 : ∀ j : Int, 0 ≤ j → j < 200 → 0 ≤ w_ei ws (w_ar ws (n_v vs 0) 83) j ∧ w_ei ws (w_ar ws (n_v vs 0) 83) j ≤ 75 := fun j h0 h1 => th_el hD hth cr_0_83 (kd := 0) (n := 200) (m := 200) (lo := 0) (hi := 75) (rs := []) (L := []) rfl (by decide) (j := j.toNat) (by omega)
  have hK_0_84 : ∀ j : Int, 0 ≤ j → j < 200 → 0 ≤ w_ei ws (w_ar ws (n_v vs 0) 84) j ∧ w_ei ws (w_ar ws (n_v vs 0) 84) j ≤ 75 := fun j h0 h1 => th_el hD hth cr_0_84 (kd := 0) (n := 200) (m := 200) (lo := 0) (hi := 75) (rs := []) (L := []) rfl (by decide) (j := j.toNat) (by omega)
  have hK_0_85 : ∀ j : Int, 0 ≤ j → j < 200 → 0 ≤ w_ei ws (w_ar ws (n_v vs 0) 85) j ∧ w_ei ws (w_ar ws (n_v vs 0) 85) j ≤ 72 := fun j h0 h1 => th_el hD hth cr_0_85 (kd := 0) (n := 200) (m := 200) (lo := 0) (hi := 72) (rs := []) (L := []) rfl (by decide) (j := j.toNat) (by omega)
  have hK_0_86 : ∀ j : Int, 0 ≤ j → j < 200 → 0 ≤ w_ei ws (w_ar ws (n_v vs 0) 86) j ∧ w_ei ws (w_ar ws (n_v vs 0) 86) j ≤ 1 := fun j h0 h1 => th_el hD hth cr_0_86 (kd := 2) (n := 200) (m := 200) (lo := 0) (hi := 1) (rs := []) (L := []) rfl (by decide) (j := j.toNat) (by omega)
  have hK_0_87 : ∀ j : Int, 0 ≤ j → j < 200 → 0 ≤ w_ei ws (w_ar ws (n_v vs 0) 87) j ∧ w_ei ws (w_ar ws (n_v vs 0) 87) j ≤ 75 := fun j h0 h1 => th_el hD hth cr_0_87 (kd := 0) (n := 200) (m := 200) (lo := 0) (hi := 75) (rs := []) (L := []) rfl (by decide) (j := j.toNat) (by omega)
  have hK_0_88 : ∀ j : Int, 0 ≤ j → j < 200 → 0 ≤ w_ei ws (w_ar ws (n_v vs 0) 88) j ∧ w_ei ws (w_ar ws (n_v vs 0) 88) j ≤ 75 := fun j h0 h1 => th_el hD hth cr_0_88 (kd := 0) (n := 200) (m := 200) (lo := 0) (hi := 75) (rs := []) (L := []) rfl (by decide) (j := j.toNat) (by omega)
  have hK_0_89 : ∀ j : Int, 0 ≤ j → j < 200 → 0 ≤ w_ei ws (w_ar ws (n_v vs 0) 89) j ∧ w_ei ws (w_ar ws (n_v vs 0) 89) j ≤ 202 := fun j h0 h1 => th_el hD hth cr_0_89 (kd := 0) (n := 200) (m := 200) (lo := 0) (hi := 202) (rs := []) (L := []) rfl (by decide) (j := j.toNat) (by omega)
  have hK_0_95 : ∀ j : Int, 0 ≤ j → j < 48 → 0 ≤ w_ei ws (w_ar ws (n_v vs 0) 95) j ∧ w_ei ws (w_ar ws (n_v vs 0) 95) j ≤ 1 := fun j h0 h1 => th_el hD hth cr_0_95 (kd := 2) (n := 48) (m := 48) (lo := 0) (hi := 1) (rs := []) (L := []) rfl (by decide) (j := j.toNat) (by omega)
  have hK_0_102 : ∀ j : Int, 0 ≤ j → j < 76 → 0 ≤ w_ei ws (w_ar ws (n_v vs 0) 102) j ∧ w_ei ws (w_ar ws (n_v vs 0) 102) j ≤ 75 := fun j h0 h1 => th_el hD hth cr_0_102 (kd := 0) (n := 76) (m := 76) (lo := 0) (hi := 75) (rs := []) (L := []) rfl (by decide) (j := j.toNat) (by omega)
  have hK_0_104 : ∀ j : Int, 0 ≤ j → j < 48 → 0 ≤ w_ei ws (w_ar ws (n_v vs 0) 104) j ∧ w_ei ws (w_ar ws (n_v vs 0) 104) j ≤ 76 := fun j h0 h1 => th_el hD hth cr_0_104 (kd := 0) (n := 48) (m := 48) (lo := 0) (hi := 76) (rs := []) (L := []) rfl (by decide) (j := j.toNat) (by omega)
  have hK_0_105 : ∀ j : Int, 0 ≤ j → j < 76 → 0 ≤ w_ei ws (w_ar ws (n_v vs 0) 105) j ∧ w_ei ws (w_ar ws (n_v vs 0) 105) j ≤ 76 := fun j h0 h1 => th_el hD hth cr_0_105 (kd := 0) (n := 76) (m := 76) (lo := 0) (hi := 76) (rs := []) (L := []) rfl (by decide) (j := j.toNat) (by omega)
  have hK_0_106 : ∀ j : Int, 0 ≤ j → j < 5776 → 0 ≤ w_ei ws (w_ar ws (n_v vs 0) 106) j ∧ w_ei ws (w_ar ws (n_v vs 0) 106) j ≤ 75 := fun j h0 h1 => th_el hD hth cr_0_106 (kd := 0) (n := 5776) (m := 5776) (lo := 0) (hi := 75) (rs := []) (L := []) rfl (by decide) (j := j.toNat) (by omega)
  have hK_0_108 : ∀ j : Int, 0 ≤ j → j < 130 → 0 ≤ w_ei ws (w_ar ws (n_v vs 0) 108) j ∧ w_ei ws (w_ar ws (n_v vs 0) 108) j ≤ 75 := fun j h0 h1 => th_el hD hth cr_0_108 (kd := 0) (n := 130) (m := 130) (lo := 0) (hi := 75) (rs := []) (L := []) rfl (by decide) (j := j.toNat) (by omega)
  have hK_0_109 : ∀ j : Int, 0 ≤ j → j < 130 → 0 ≤ w_ei ws (w_ar ws (n_v vs 0) 109) j ∧ w_ei ws (w_ar ws (n_v vs 0) 109) j ≤ 75 := fun j h0 h1 => th_el hD hth cr_0_109 (kd := 0) (n := 130) (m := 130) (lo := 0) (hi := 75) (rs := []) (L := []) rfl (by decide) (j := j.toNat) (by omega)
  have kz_0_79 : 0 ≤ w_fi ws (n_v vs 0) 79 ∧ w_fi ws (n_v vs 0) 79 ≤ 76 := tv_rng (th_fd hD hth r0 (g := GG_150) rfl (k := 79) (t := (0, 0, 76, [])) rfl rfl)
  have kz_0_80 : 0 ≤ w_fi ws (n_v vs 0) 80 ∧ w_fi ws (n_v vs 0) 80 ≤ 200 := tv_rng (th_fd hD hth r0 (g := GG_150) rfl (k := 80) (t := (0, 0, 200, [])) rfl rfl)
  have kz_0_81 : 0 ≤ w_fi ws (n_v vs 0) 81 ∧ w_fi ws (n_v vs 0) 81 ≤ 200 := tv_rng (th_fd hD hth r0 (g := GG_150) rfl (k := 81) (t := (0, 0, 200, [])) rfl rfl)
  have kz_0_100 : 0 ≤ w_fi ws (n_v vs 0) 100 ∧ w_fi ws (n_v vs 0) 100 ≤ 76 := tv_rng (th_fd hD hth r0 (g := GG_150) rfl (k := 100) (t := (0, 0, 76, [])) rfl rfl)
  have kz_0_101 : 0 ≤ w_fi ws (n_v vs 0) 101 ∧ w_fi ws (n_v vs 0) 101 ≤ 76 := tv_rng (th_fd hD hth r0 (g := GG_150) rfl (k := 101) (t := (0, 0, 76, [])) rfl rfl)
  have kz_0_107 : 0 ≤ w_fi ws (n_v vs 0) 107 ∧ w_fi ws (n_v vs 0) 107 ≤ 130 := tv_rng (th_fd hD hth r0 (g := GG_150) rfl (k := 107) (t := (0, 0, 130, [])) rfl rfl)
  have nf0 : fc_1 PRD (20, [0], [60, 3, 8, 348, 79, 80, 81, 82, 83, 84, 85, 86, 87, 88, 89]) ws (vs) := by
    refine ⟨fun n hn => ?_, ?_⟩
    · have hn : n ∈ [0] := hn
      rw [hl]
      simp only [List.mem_cons, List.not_mem_nil, or_false] at hn
      show n < 4; omega
    · show RIP (w_fi ws (n_v vs 0) 79) (w_fi ws (n_v vs 0) 80) (w_fi ws (n_v vs 0) 81) (w_ei ws (w_ar ws (n_v vs 0) 82)) (w_ei ws (w_ar ws (n_v vs 0) 83)) (w_ei ws (w_ar ws (n_v vs 0) 84)) (w_ei ws (w_ar ws (n_v vs 0) 85)) (w_ei ws (w_ar ws (n_v vs 0) 86)) (w_ei ws (w_ar ws (n_v vs 0) 87)) (w_ei ws (w_ar ws (n_v vs 0) 88)) (w_ei ws (w_ar ws (n_v vs 0) 89))
      exact vc_Mo_across2_12_0 (v_iv (n_v vs 2)) (v_iv (n_v vs 3)) (w_ei ws (w_ar ws (n_v vs 0) 83)) (w_ei ws (w_ar ws (n_v vs 0) 84)) (w_ei ws (w_ar ws (n_v vs 0) 85)) (w_ei ws (w_ar ws (n_v vs 0) 86)) (w_ei ws (w_ar ws (n_v vs 0) 87)) (w_ei ws (w_ar ws (n_v vs 0) 88)) (w_ei ws (w_ar ws (n_v vs 0) 89)) (w_fi ws (n_v vs 0) 79) (w_fi ws (n_v vs 0) 80) (w_fi ws (n_v vs 0) 81) (w_ei ws (w_ar ws (n_v vs 0) 2)) (w_ei ws (w_ar ws (n_v vs 0) 95)) (w_ei ws (w_ar ws (n_v vs 0) 102)) (w_ei ws (w_ar ws (n_v vs 0) 104)) (w_ei ws (w_ar ws (n_v vs 0) 108)) (w_ei ws (w_ar ws (n_v vs 0) 109)) (w_fi ws (n_v vs 0) 5) (w_fi ws (n_v vs 0) 100) (w_fi ws (n_v vs 0) 101) (w_fi ws (n_v vs 0) 107) (w_ei ws (w_ar ws (n_v vs 0) 105)) (w_ei ws (w_ar ws (n_v vs 0) 106)) (w_ei ws (w_ar ws (n_v vs 0) 82)) k2 k3 d0 f0 f1 f2 f3 f4 f5 f6 f7 f8 f10 f12 hK_0_82 hK_0_83 hK_0_84 hK_0_85 hK_0_86 hK_0_87 hK_0_88 hK_0_89 hK_0_95 hK_0_102 hK_0_104 hK_0_105 hK_0_106 hK_0_108 hK_0_109 kz_0_79 kz_0_80 kz_0_81 kz_0_100 kz_0_101 kz_0_107
  have nf1 : fc_1 PRD (20, [0], [50, 2, 0, 79, 100, 1, 3, 2, 0, 79, 2, 0, 100]) ws (vs) := by
    refine ⟨fun n hn => ?_, ?_⟩
    · have hn : n ∈ [0] := hn
      rw [hl]
      simp only [List.mem_cons, List.not_mem_nil, or_false] at hn
      show n < 4; omega
    · show w_fi ws (n_v vs 0) 79 = w_fi ws (n_v vs 0) 100
      exact vc_Mo_across2_12_1 (v_iv (n_v vs 2)) (v_iv (n_v vs 3)) (w_ei ws (w_ar ws (n_v vs 0) 83)) (w_ei ws (w_ar ws (n_v vs 0) 84)) (w_ei ws (w_ar ws (n_v vs 0) 85)) (w_ei ws (w_ar ws (n_v vs 0) 86)) (w_ei ws (w_ar ws (n_v vs 0) 87)) (w_ei ws (w_ar ws (n_v vs 0) 88)) (w_ei ws (w_ar ws (n_v vs 0) 89)) (w_fi ws (n_v vs 0) 79) (w_fi ws (n_v vs 0) 80) (w_fi ws (n_v vs 0) 81) (w_ei ws (w_ar ws (n_v vs 0) 2)) (w_ei ws (w_ar ws (n_v vs 0) 95)) (w_ei ws (w_ar ws (n_v vs 0) 102)) (w_ei ws (w_ar ws (n_v vs 0) 104)) (w_ei ws (w_ar ws (n_v vs 0) 108)) (w_ei ws (w_ar ws (n_v vs 0) 109)) (w_fi ws (n_v vs 0) 5) (w_fi ws (n_v vs 0) 100) (w_fi ws (n_v vs 0) 101) (w_fi ws (n_v vs 0) 107) (w_ei ws (w_ar ws (n_v vs 0) 105)) (w_ei ws (w_ar ws (n_v vs 0) 106)) (w_ei ws (w_ar ws (n_v vs 0) 82)) k2 k3 d0 f0 f1 f2 f3 f4 f5 f6 f7 f8 f10 f12 hK_0_82 hK_0_83 hK_0_84 hK_0_85 hK_0_86 hK_0_87 hK_0_88 hK_0_89 hK_0_95 hK_0_102 hK_0_104 hK_0_105 hK_0_106 hK_0_108 hK_0_109 kz_0_79 kz_0_80 kz_0_81 kz_0_100 kz_0_101 kz_0_107
  refine ⟨(fun _ h => (by cases h)), [], trivial, ?_, (fun _ h => (by cases h))⟩
  rw [List.append_nil]
  exact List.forall_mem_cons.mpr ⟨⟨show (20 : Nat) < 100 from by decide, nf0⟩, List.forall_mem_cons.mpr ⟨⟨show (20 : Nat) < 100 from by decide, nf1⟩, (fun _ h => (by cases h))⟩⟩
set_option maxHeartbeats 4000000 in
theorem vc_Mo_across2_13_0 (x2 : Int) (x3 : Int) (x4 : Int) (layerMany_0 : Int) (all_0 : Int → Int) (turned_0 : Int → Int) (itemLayer_0 : Int → Int) (firstJoint_0 : Int → Int) (lineA_0 : Int → Int) (lineB_0 : Int → Int) (r_0 : Int) (items_0 : Int) (lines_0 : Int) (layerSize_0 : Int → Int) (layerItem_0 : Int → Int) (pointMany_0 : Int) (costA_0 : Int → Int) (costB_0 : Int → Int) (costW_0 : Int → Int) (costPlain_0 : Int → Int) (costMany_0 : Int) (apartA_0 : Int → Int) (apartB_0 : Int → Int) (apart_0 : Int → Int) (apartMany_0 : Int) (k2 : 0 ≤ x2 ∧ x2 ≤ 75) (k3 : 1 ≤ x3 ∧ x3 ≤ 76) (k4 : 1 ≤ x4 ∧ x4 ≤ 1) (d0 : x3 + (-4294967296) ≤ x2 ∧ x2 ≤ x3 + (-1)) (f0 : x2 < x3) (g1 : x3 = layerMany_0) (f2 : LSA (r_0) (items_0) (layerMany_0) (lines_0) (all_0) (turned_0) (itemLayer_0) (firstJoint_0) (lineA_0) (lineB_0)) (f3 : LSB (items_0) (layerMany_0) (itemLayer_0) (layerSize_0) (layerItem_0)) (f4 : SGR (r_0) (all_0)) (f5 : pointMany_0 = items_0) (f6 : PCQ (pointMany_0) (costMany_0) (costA_0) (costB_0) (costW_0) (costPlain_0)) (f7 : costMany_0 ≤ 130) (f8 : PAL1 (apartMany_0) (layerMany_0) (layerSize_0) (layerItem_0) (apartA_0) (apartB_0) (apart_0) (x2)) (f9 : apartMany_0 ≤ 76) (hK_0_83 : ∀ j : Int, 0 ≤ j → j < 200 → 0 ≤ costA_0 j ∧ costA_0 j ≤ 75) (hK_0_84 : ∀ j : Int, 0 ≤ j → j < 200 → 0 ≤ costB_0 j ∧ costB_0 j ≤ 75) (hK_0_85 : ∀ j : Int, 0 ≤ j → j < 200 → 0 ≤ costW_0 j ∧ costW_0 j ≤ 72) (hK_0_86 : ∀ j : Int, 0 ≤ j → j < 200 → 0 ≤ costPlain_0 j ∧ costPlain_0 j ≤ 1) (hK_0_87 : ∀ j : Int, 0 ≤ j → j < 200 → 0 ≤ apartA_0 j ∧ apartA_0 j ≤ 75) (hK_0_88 : ∀ j : Int, 0 ≤ j → j < 200 → 0 ≤ apartB_0 j ∧ apartB_0 j ≤ 75) (hK_0_89 : ∀ j : Int, 0 ≤ j → j < 200 → 0 ≤ apart_0 j ∧ apart_0 j ≤ 202) (hK_0_95 : ∀ j : Int, 0 ≤ j → j < 48 → 0 ≤ turned_0 j ∧ turned_0 j ≤ 1) (hK_0_102 : ∀ j : Int, 0 ≤ j → j < 76 → 0 ≤ itemLayer_0 j ∧ itemLayer_0 j ≤ 75) (hK_0_104 : ∀ j : Int, 0 ≤ j → j < 48 → 0 ≤ firstJoint_0 j ∧ firstJoint_0 j ≤ 76) (hK_0_105 : ∀ j : Int, 0 ≤ j → j < 76 → 0 ≤ layerSize_0 j ∧ layerSize_0 j ≤ 76) (hK_0_106 : ∀ j : Int, 0 ≤ j → j < 5776 → 0 ≤ layerItem_0 j ∧ layerItem_0 j ≤ 75) (hK_0_108 : ∀ j : Int, 0 ≤ j → j < 130 → 0 ≤ lineA_0 j ∧ lineA_0 j ≤ 75) (hK_0_109 : ∀ j : Int, 0 ≤ j → j < 130 → 0 ≤ lineB_0 j ∧ lineB_0 j ≤ 75) (kz_0_79 : 0 ≤ pointMany_0 ∧ pointMany_0 ≤ 76) (kz_0_80 : 0 ≤ costMany_0 ∧ costMany_0 ≤ 200) (kz_0_81 : 0 ≤ apartMany_0 ∧ apartMany_0 ≤ 200) (kz_0_100 : 0 ≤ items_0 ∧ items_0 ≤ 76) (kz_0_101 : 0 ≤ layerMany_0 ∧ layerMany_0 ≤ 76) (kz_0_107 : 0 ≤ lines_0 ∧ lines_0 ≤ 130) : PAL2 (apartMany_0) (layerMany_0) (layerSize_0) (layerItem_0) (apartA_0) (apartB_0) (apart_0) (x2) (x4) := by
  first
    | exact paq_less ‹PAL1 _ _ _ _ _ _ _ _› (by omega)
    | (have h := ‹PAP _ _ _ _ _ _ _ _ _›
       exact paq_less h (by omega))
set_option maxHeartbeats 4000000 in
theorem vc_Mo_across2_13_1 (x2 : Int) (x3 : Int) (x4 : Int) (layerMany_0 : Int) (all_0 : Int → Int) (turned_0 : Int → Int) (itemLayer_0 : Int → Int) (firstJoint_0 : Int → Int) (lineA_0 : Int → Int) (lineB_0 : Int → Int) (r_0 : Int) (items_0 : Int) (lines_0 : Int) (layerSize_0 : Int → Int) (layerItem_0 : Int → Int) (pointMany_0 : Int) (costA_0 : Int → Int) (costB_0 : Int → Int) (costW_0 : Int → Int) (costPlain_0 : Int → Int) (costMany_0 : Int) (apartA_0 : Int → Int) (apartB_0 : Int → Int) (apart_0 : Int → Int) (apartMany_0 : Int) (k2 : 0 ≤ x2 ∧ x2 ≤ 75) (k3 : 1 ≤ x3 ∧ x3 ≤ 76) (k4 : 1 ≤ x4 ∧ x4 ≤ 1) (d0 : x3 + (-4294967296) ≤ x2 ∧ x2 ≤ x3 + (-1)) (f0 : x2 < x3) (g1 : x3 = layerMany_0) (f2 : LSA (r_0) (items_0) (layerMany_0) (lines_0) (all_0) (turned_0) (itemLayer_0) (firstJoint_0) (lineA_0) (lineB_0)) (f3 : LSB (items_0) (layerMany_0) (itemLayer_0) (layerSize_0) (layerItem_0)) (f4 : SGR (r_0) (all_0)) (f5 : pointMany_0 = items_0) (f6 : PCQ (pointMany_0) (costMany_0) (costA_0) (costB_0) (costW_0) (costPlain_0)) (f7 : costMany_0 ≤ 130) (f8 : PAL1 (apartMany_0) (layerMany_0) (layerSize_0) (layerItem_0) (apartA_0) (apartB_0) (apart_0) (x2)) (f9 : apartMany_0 ≤ 76) (hK_0_83 : ∀ j : Int, 0 ≤ j → j < 200 → 0 ≤ costA_0 j ∧ costA_0 j ≤ 75) (hK_0_84 : ∀ j : Int, 0 ≤ j → j < 200 → 0 ≤ costB_0 j ∧ costB_0 j ≤ 75) (hK_0_85 : ∀ j : Int, 0 ≤ j → j < 200 → 0 ≤ costW_0 j ∧ costW_0 j ≤ 72) (hK_0_86 : ∀ j : Int, 0 ≤ j → j < 200 → 0 ≤ costPlain_0 j ∧ costPlain_0 j ≤ 1) (hK_0_87 : ∀ j : Int, 0 ≤ j → j < 200 → 0 ≤ apartA_0 j ∧ apartA_0 j ≤ 75) (hK_0_88 : ∀ j : Int, 0 ≤ j → j < 200 → 0 ≤ apartB_0 j ∧ apartB_0 j ≤ 75) (hK_0_89 : ∀ j : Int, 0 ≤ j → j < 200 → 0 ≤ apart_0 j ∧ apart_0 j ≤ 202) (hK_0_95 : ∀ j : Int, 0 ≤ j → j < 48 → 0 ≤ turned_0 j ∧ turned_0 j ≤ 1) (hK_0_102 : ∀ j : Int, 0 ≤ j → j < 76 → 0 ≤ itemLayer_0 j ∧ itemLayer_0 j ≤ 75) (hK_0_104 : ∀ j : Int, 0 ≤ j → j < 48 → 0 ≤ firstJoint_0 j ∧ firstJoint_0 j ≤ 76) (hK_0_105 : ∀ j : Int, 0 ≤ j → j < 76 → 0 ≤ layerSize_0 j ∧ layerSize_0 j ≤ 76) (hK_0_106 : ∀ j : Int, 0 ≤ j → j < 5776 → 0 ≤ layerItem_0 j ∧ layerItem_0 j ≤ 75) (hK_0_108 : ∀ j : Int, 0 ≤ j → j < 130 → 0 ≤ lineA_0 j ∧ lineA_0 j ≤ 75) (hK_0_109 : ∀ j : Int, 0 ≤ j → j < 130 → 0 ≤ lineB_0 j ∧ lineB_0 j ≤ 75) (kz_0_79 : 0 ≤ pointMany_0 ∧ pointMany_0 ≤ 76) (kz_0_80 : 0 ≤ costMany_0 ∧ costMany_0 ≤ 200) (kz_0_81 : 0 ≤ apartMany_0 ∧ apartMany_0 ≤ 200) (kz_0_100 : 0 ≤ items_0 ∧ items_0 ≤ 76) (kz_0_101 : 0 ≤ layerMany_0 ∧ layerMany_0 ≤ 76) (kz_0_107 : 0 ≤ lines_0 ∧ lines_0 ≤ 130) : (x2 + 1) ≤ layerMany_0 := by
  try simp only [Int.add_zero] at *
  first
    | omega
    | (have h := paq_am ‹LSB _ _ _ _ _› ‹PAP _ _ _ _ _ _ _ _ _› (by have h := ‹LSA _ _ _ _ _ _ _ _ _ _›.2.1; have n := ‹LSA _ _ _ _ _ _ _ _ _ _›.1.1.1.1; omega); have h2 := ‹LSB _ _ _ _ _›.1; omega)
set_option maxHeartbeats 4000000 in
theorem vc_Mo_across2_13_2 (x2 : Int) (x3 : Int) (x4 : Int) (layerMany_0 : Int) (all_0 : Int → Int) (turned_0 : Int → Int) (itemLayer_0 : Int → Int) (firstJoint_0 : Int → Int) (lineA_0 : Int → Int) (lineB_0 : Int → Int) (r_0 : Int) (items_0 : Int) (lines_0 : Int) (layerSize_0 : Int → Int) (layerItem_0 : Int → Int) (pointMany_0 : Int) (costA_0 : Int → Int) (costB_0 : Int → Int) (costW_0 : Int → Int) (costPlain_0 : Int → Int) (costMany_0 : Int) (apartA_0 : Int → Int) (apartB_0 : Int → Int) (apart_0 : Int → Int) (apartMany_0 : Int) (k2 : 0 ≤ x2 ∧ x2 ≤ 75) (k3 : 1 ≤ x3 ∧ x3 ≤ 76) (k4 : 1 ≤ x4 ∧ x4 ≤ 1) (d0 : x3 + (-4294967296) ≤ x2 ∧ x2 ≤ x3 + (-1)) (f0 : x2 < x3) (g1 : x3 = layerMany_0) (f2 : LSA (r_0) (items_0) (layerMany_0) (lines_0) (all_0) (turned_0) (itemLayer_0) (firstJoint_0) (lineA_0) (lineB_0)) (f3 : LSB (items_0) (layerMany_0) (itemLayer_0) (layerSize_0) (layerItem_0)) (f4 : SGR (r_0) (all_0)) (f5 : pointMany_0 = items_0) (f6 : PCQ (pointMany_0) (costMany_0) (costA_0) (costB_0) (costW_0) (costPlain_0)) (f7 : costMany_0 ≤ 130) (f8 : PAL1 (apartMany_0) (layerMany_0) (layerSize_0) (layerItem_0) (apartA_0) (apartB_0) (apart_0) (x2)) (f9 : apartMany_0 ≤ 76) (hK_0_83 : ∀ j : Int, 0 ≤ j → j < 200 → 0 ≤ costA_0 j ∧ costA_0 j ≤ 75) (hK_0_84 : ∀ j : Int, 0 ≤ j → j < 200 → 0 ≤ costB_0 j ∧ costB_0 j ≤ 75) (hK_0_85 : ∀ j : Int, 0 ≤ j → j < 200 → 0 ≤ costW_0 j ∧ costW_0 j ≤ 72) (hK_0_86 : ∀ j : Int, 0 ≤ j → j < 200 → 0 ≤ costPlain_0 j ∧ costPlain_0 j ≤ 1) (hK_0_87 : ∀ j : Int, 0 ≤ j → j < 200 → 0 ≤ apartA_0 j ∧ apartA_0 j ≤ 75) (hK_0_88 : ∀ j : Int, 0 ≤ j → j < 200 → 0 ≤ apartB_0 j ∧ apartB_0 j ≤ 75) (hK_0_89 : ∀ j : Int, 0 ≤ j → j < 200 → 0 ≤ apart_0 j ∧ apart_0 j ≤ 202) (hK_0_95 : ∀ j : Int, 0 ≤ j → j < 48 → 0 ≤ turned_0 j ∧ turned_0 j ≤ 1) (hK_0_102 : ∀ j : Int, 0 ≤ j → j < 76 → 0 ≤ itemLayer_0 j ∧ itemLayer_0 j ≤ 75) (hK_0_104 : ∀ j : Int, 0 ≤ j → j < 48 → 0 ≤ firstJoint_0 j ∧ firstJoint_0 j ≤ 76) (hK_0_105 : ∀ j : Int, 0 ≤ j → j < 76 → 0 ≤ layerSize_0 j ∧ layerSize_0 j ≤ 76) (hK_0_106 : ∀ j : Int, 0 ≤ j → j < 5776 → 0 ≤ layerItem_0 j ∧ layerItem_0 j ≤ 75) (hK_0_108 : ∀ j : Int, 0 ≤ j → j < 130 → 0 ≤ lineA_0 j ∧ lineA_0 j ≤ 75) (hK_0_109 : ∀ j : Int, 0 ≤ j → j < 130 → 0 ≤ lineB_0 j ∧ lineB_0 j ≤ 75) (kz_0_79 : 0 ≤ pointMany_0 ∧ pointMany_0 ≤ 76) (kz_0_80 : 0 ≤ costMany_0 ∧ costMany_0 ≤ 200) (kz_0_81 : 0 ≤ apartMany_0 ∧ apartMany_0 ≤ 200) (kz_0_100 : 0 ≤ items_0 ∧ items_0 ≤ 76) (kz_0_101 : 0 ≤ layerMany_0 ∧ layerMany_0 ≤ 76) (kz_0_107 : 0 ≤ lines_0 ∧ lines_0 ≤ 130) : 1 ≤ x4 := by
  try simp only [Int.add_zero] at *
  first
    | omega
    | (have h := paq_am ‹LSB _ _ _ _ _› ‹PAP _ _ _ _ _ _ _ _ _› (by have h := ‹LSA _ _ _ _ _ _ _ _ _ _›.2.1; have n := ‹LSA _ _ _ _ _ _ _ _ _ _›.1.1.1.1; omega); have h2 := ‹LSB _ _ _ _ _›.1; omega)
def o_Mo_across2_13 : or_T := (188, 5, [(0, (2, 0, 0, [150])), (1, (2, 0, 0, [150])), (2, (0, 0, 75, [])), (3, (0, 1, 76, [])), (4, (0, 1, 1, []))], [(7, [2, 3], [2]), (9, [3, 1], [101]), (20, [1], [60, 4, 6, 369, 5, 100, 101, 107, 2, 95, 102, 104, 108, 109]), (20, [1], [60, 2, 3, 372, 100, 101, 102, 105, 106]), (20, [1], [60, 1, 1, 122, 5, 2]), (20, [1], [50, 2, 0, 79, 100, 1, 3, 2, 0, 79, 2, 0, 100]), (20, [1], [60, 2, 4, 380, 79, 80, 83, 84, 85, 86]), (20, [1], [50, 1, 0, 80, 0, 3, 2, 0, 80, 0, 130]), (20, [1, 2], [60, 2, 5, 392, 81, 101, 105, 106, 87, 88, 89]), (20, [1], [50, 1, 0, 81, 0, 3, 2, 0, 81, 0, 76]), (24, [0, 1], [])], [], [], [(20, [1, 2, 4], [60, 2, 5, 393, 81, 101, 105, 106, 87, 88, 89]), (20, [2, 1], [50, 1, 0, 1101, 0, 6, 4, 2, 1, 0, 0, 1, 2, 1, 101]), (20, [4], [50, 0, 0, 0, 2, 0, 1, 1, 0])], [], [(2, 3, -4294967296, -1)])
theorem oo_Mo_across2_13 {kA : Nat → ClassId} : or_ok PRD kA GG o_Mo_across2_13 := by
  intro A ta ws vs hD hth hl hk hds hf
  have hl : vs.length = 5 := hl
  have hk : ∀ q ∈ ([(0, (2, 0, 0, [150])), (1, (2, 0, 0, [150])), (2, (0, 0, 75, [])), (3, (0, 1, 76, [])), (4, (0, 1, 1, []))] : List (Nat × tv_T)), tv_ok ta q.2 (n_v vs q.1) := hk
  obtain ⟨t0, hk⟩ := List.forall_mem_cons.mp hk
  have t0 : tv_ok ta (2, 0, 0, [150]) (n_v vs 0) := t0
  have r0 : ta (v_ad (n_v vs 0)) = some 150 := tv_rg t0
  obtain ⟨t1, hk⟩ := List.forall_mem_cons.mp hk
  have t1 : tv_ok ta (2, 0, 0, [150]) (n_v vs 1) := t1
  have r1 : ta (v_ad (n_v vs 1)) = some 150 := tv_rg t1
  obtain ⟨t2, hk⟩ := List.forall_mem_cons.mp hk
  have t2 : tv_ok ta (0, 0, 75, []) (n_v vs 2) := t2
  have k2 : 0 ≤ v_iv (n_v vs 2) ∧ v_iv (n_v vs 2) ≤ 75 := tv_rng t2
  obtain ⟨t3, hk⟩ := List.forall_mem_cons.mp hk
  have t3 : tv_ok ta (0, 1, 76, []) (n_v vs 3) := t3
  have k3 : 1 ≤ v_iv (n_v vs 3) ∧ v_iv (n_v vs 3) ≤ 76 := tv_rng t3
  obtain ⟨t4, hk⟩ := List.forall_mem_cons.mp hk
  have t4 : tv_ok ta (0, 1, 1, []) (n_v vs 4) := t4
  have k4 : 1 ≤ v_iv (n_v vs 4) ∧ v_iv (n_v vs 4) ≤ 1 := tv_rng t4
  have hds : ∀ q ∈ ([(2, 3, -4294967296, -1)] : List of_T), n_iv vs q.2.1 + q.2.2.1 ≤ n_iv vs q.1 ∧ n_iv vs q.1 ≤ n_iv vs q.2.1 + q.2.2.2 := hds
  obtain ⟨d0, hds⟩ := List.forall_mem_cons.mp hds
  have d0 : v_iv (n_v vs 3) + (-4294967296) ≤ v_iv (n_v vs 2) ∧ v_iv (n_v vs 2) ≤ v_iv (n_v vs 3) + (-1) := d0
  have hf : fc_ok PRD [(7, [2, 3], [2]), (9, [3, 1], [101]), (20, [1], [60, 4, 6, 369, 5, 100, 101, 107, 2, 95, 102, 104, 108, 109]), (20, [1], [60, 2, 3, 372, 100, 101, 102, 105, 106]), (20, [1], [60, 1, 1, 122, 5, 2]), (20, [1], [50, 2, 0, 79, 100, 1, 3, 2, 0, 79, 2, 0, 100]), (20, [1], [60, 2, 4, 380, 79, 80, 83, 84, 85, 86]), (20, [1], [50, 1, 0, 80, 0, 3, 2, 0, 80, 0, 130]), (20, [1, 2], [60, 2, 5, 392, 81, 101, 105, 106, 87, 88, 89]), (20, [1], [50, 1, 0, 81, 0, 3, 2, 0, 81, 0, 76]), (24, [0, 1], [])] ta ws vs := hf
  obtain ⟨f0, hf⟩ := fc_un (show (7 : Nat) < 100 from by decide) hf
  have f0 : v_iv (n_v vs 2) < v_iv (n_v vs 3) := f0
  obtain ⟨f1, hf⟩ := fc_un (show (9 : Nat) < 100 from by decide) hf
  have f1 : n_v vs 3 = w_fd ws (v_ad (n_v vs 1)) 101 := f1
  obtain ⟨f2, hf⟩ := fc_un (show (20 : Nat) < 100 from by decide) hf
  have f2 : LSA (w_fi ws (n_v vs 1) 5) (w_fi ws (n_v vs 1) 100) (w_fi ws (n_v vs 1) 101) (w_fi ws (n_v vs 1) 107) (w_ei ws (w_ar ws (n_v vs 1) 2)) (w_ei ws (w_ar ws (n_v vs 1) 95)) (w_ei ws (w_ar ws (n_v vs 1) 102)) (w_ei ws (w_ar ws (n_v vs 1) 104)) (w_ei ws (w_ar ws (n_v vs 1) 108)) (w_ei ws (w_ar ws (n_v vs 1) 109)) := f2
  obtain ⟨f3, hf⟩ := fc_un (show (20 : Nat) < 100 from by decide) hf
  have f3 : LSB (w_fi ws (n_v vs 1) 100) (w_fi ws (n_v vs 1) 101) (w_ei ws (w_ar ws (n_v vs 1) 102)) (w_ei ws (w_ar ws (n_v vs 1) 105)) (w_ei ws (w_ar ws (n_v vs 1) 106)) := f3
  obtain ⟨f4, hf⟩ := fc_un (show (20 : Nat) < 100 from by decide) hf
  have f4 : SGR (w_fi ws (n_v vs 1) 5) (w_ei ws (w_ar ws (n_v vs 1) 2)) := f4
  obtain ⟨f5, hf⟩ := fc_un (show (20 : Nat) < 100 from by decide) hf
  have f5 : w_fi ws (n_v vs 1) 79 = w_fi ws (n_v vs 1) 100 := f5
  obtain ⟨f6, hf⟩ := fc_un (show (20 : Nat) < 100 from by decide) hf
  have f6 : PCQ (w_fi ws (n_v vs 1) 79) (w_fi ws (n_v vs 1) 80) (w_ei ws (w_ar ws (n_v vs 1) 83)) (w_ei ws (w_ar ws (n_v vs 1) 84)) (w_ei ws (w_ar ws (n_v vs 1) 85)) (w_ei ws (w_ar ws (n_v vs 1) 86)) := f6
  obtain ⟨f7, hf⟩ := fc_un (show (20 : Nat) < 100 from by decide) hf
  have f7 : w_fi ws (n_v vs 1) 80 ≤ 130 := f7
  obtain ⟨f8, hf⟩ := fc_un (show (20 : Nat) < 100 from by decide) hf
  have f8 : PAL1 (w_fi ws (n_v vs 1) 81) (w_fi ws (n_v vs 1) 101) (w_ei ws (w_ar ws (n_v vs 1) 105)) (w_ei ws (w_ar ws (n_v vs 1) 106)) (w_ei ws (w_ar ws (n_v vs 1) 87)) (w_ei ws (w_ar ws (n_v vs 1) 88)) (w_ei ws (w_ar ws (n_v vs 1) 89)) (v_iv (n_v vs 2)) := f8
  obtain ⟨f9, hf⟩ := fc_un (show (20 : Nat) < 100 from by decide) hf
  have f9 : w_fi ws (n_v vs 1) 81 ≤ 76 := f9
  obtain ⟨f10, hf⟩ := fc_un (show (24 : Nat) < 100 from by decide) hf
  have f10 : n_v vs 0 = n_v vs 1 := f10
  have q1 : n_v vs 1 = n_v vs 0 := f10.symm
  rw [q1] at f1
  rw [q1] at f2
  rw [q1] at f3
  rw [q1] at f4
  rw [q1] at f5
  rw [q1] at f6
  rw [q1] at f7
  rw [q1] at f8
  rw [q1] at f9
  have cr_0_2 : ta (w_ar ws (n_v vs 0) 2) = some 152 := tv_rg (th_fd hD hth r0 (g := GG_150) rfl (k := 2) (t := (2, 0, 0, [152])) rfl rfl)
  have cr_0_83 : ta (w_ar ws (n_v vs 0) 83) = some 205 := tv_rg (th_fd hD hth r0 (g := GG_150) rfl (k := 83) (t := (2, 0, 0, [205])) rfl rfl)
  have cr_0_84 : ta (w_ar ws (n_v vs 0) 84) = some 206 := tv_rg (th_fd hD hth r0 (g := GG_150) rfl (k := 84) (t := (2, 0, 0, [206])) rfl rfl)
  have cr_0_85 : ta (w_ar ws (n_v vs 0) 85) = some 207 := tv_rg (th_fd hD hth r0 (g := GG_150) rfl (k := 85) (t := (2, 0, 0, [207])) rfl rfl)
  have cr_0_86 : ta (w_ar ws (n_v vs 0) 86) = some 208 := tv_rg (th_fd hD hth r0 (g := GG_150) rfl (k := 86) (t := (2, 0, 0, [208])) rfl rfl)
  have cr_0_87 : ta (w_ar ws (n_v vs 0) 87) = some 209 := tv_rg (th_fd hD hth r0 (g := GG_150) rfl (k := 87) (t := (2, 0, 0, [209])) rfl rfl)
  have cr_0_88 : ta (w_ar ws (n_v vs 0) 88) = some 210 := tv_rg (th_fd hD hth r0 (g := GG_150) rfl (k := 88) (t := (2, 0, 0, [210])) rfl rfl)
  have cr_0_89 : ta (w_ar ws (n_v vs 0) 89) = some 211 := tv_rg (th_fd hD hth r0 (g := GG_150) rfl (k := 89) (t := (2, 0, 0, [211])) rfl rfl)
  have cr_0_95 : ta (w_ar ws (n_v vs 0) 95) = some 216 := tv_rg (th_fd hD hth r0 (g := GG_150) rfl (k := 95) (t := (2, 0, 0, [216])) rfl rfl)
  have cr_0_102 : ta (w_ar ws (n_v vs 0) 102) = some 220 := tv_rg (th_fd hD hth r0 (g := GG_150) rfl (k := 102) (t := (2, 0, 0, [220])) rfl rfl)
  have cr_0_104 : ta (w_ar ws (n_v vs 0) 104) = some 222 := tv_rg (th_fd hD hth r0 (g := GG_150) rfl (k := 104) (t := (2, 0, 0, [222])) rfl rfl)
  have cr_0_105 : ta (w_ar ws (n_v vs 0) 105) = some 223 := tv_rg (th_fd hD hth r0 (g := GG_150) rfl (k := 105) (t := (2, 0, 0, [223])) rfl rfl)
  have cr_0_106 : ta (w_ar ws (n_v vs 0) 106) = some 224 := tv_rg (th_fd hD hth r0 (g := GG_150) rfl (k := 106) (t := (2, 0, 0, [224])) rfl rfl)
  have cr_0_108 : ta (w_ar ws (n_v vs 0) 108) = some 225 := tv_rg (th_fd hD hth r0 (g := GG_150) rfl (k := 108) (t := (2, 0, 0, [225])) rfl rfl)
  have cr_0_109 : ta (w_ar ws (n_v vs 0) 109) = some 226 := tv_rg (th_fd hD hth r0 (g := GG_150) rfl (k := 109) (t := (2, 0, 0, [226])) rfl rfl)
  have g1 : v_iv (n_v vs 3) = w_fi ws (n_v vs 0) 101 := congrArg v_iv f1
  have hK_0_83 : ∀ j : Int, 0 ≤ j → j < 200 → 0 ≤ w_ei ws (w_ar ws (n_v vs 0) 83) j ∧ w_ei ws (w_ar ws (n_v vs 0) 83) j ≤ 75 := fun j h0 h1 => th_el hD hth cr_0_83 (kd := 0) (n := 200) (m := 200) (lo := 0) (hi := 75) (rs := []) (L := []) rfl (by decide) (j := j.toNat) (by omega)
  have hK_0_84 : ∀ j : Int, 0 ≤ j → j < 200 → 0 ≤ w_ei ws (w_ar ws (n_v vs 0) 84) j ∧ w_ei ws (w_ar ws (n_v vs 0) 84) j ≤ 75 := fun j h0 h1 => th_el hD hth cr_0_84 (kd := 0) (n := 200) (m := 200) (lo := 0) (hi := 75) (rs := []) (L := []) rfl (by decide) (j := j.toNat) (by omega)
  have hK_0_85 : ∀ j : Int, 0 ≤ j → j < 200 → 0 ≤ w_ei ws (w_ar ws (n_v vs 0) 85) j ∧ w_ei ws (w_ar ws (n_v vs 0) 85) j ≤ 72 := fun j h0 h1 => th_el hD hth cr_0_85 (kd := 0) (n := 200) (m := 200) (lo := 0) (hi := 72) (rs := []) (L := []) rfl (by decide) (j := j.toNat) (by omega)
  have hK_0_86 : ∀ j : Int, 0 ≤ j → j < 200 → 0 ≤ w_ei ws (w_ar ws (n_v vs 0) 86) j ∧ w_ei ws (w_ar ws (n_v vs 0) 86) j ≤ 1 := fun j h0 h1 => th_el hD hth cr_0_86 (kd := 2) (n := 200) (m := 200) (lo := 0) (hi := 1) (rs := []) (L := []) rfl (by decide) (j := j.toNat) (by omega)
  have hK_0_87 : ∀ j : Int, 0 ≤ j → j < 200 → 0 ≤ w_ei ws (w_ar ws (n_v vs 0) 87) j ∧ w_ei ws (w_ar ws (n_v vs 0) 87) j ≤ 75 := fun j h0 h1 => th_el hD hth cr_0_87 (kd := 0) (n := 200) (m := 200) (lo := 0) (hi := 75) (rs := []) (L := []) rfl (by decide) (j := j.toNat) (by omega)
  have hK_0_88 : ∀ j : Int, 0 ≤ j → j < 200 → 0 ≤ w_ei ws (w_ar ws (n_v vs 0) 88) j ∧ w_ei ws (w_ar ws (n_v vs 0) 88) j ≤ 75 := fun j h0 h1 => th_el hD hth cr_0_88 (kd := 0) (n := 200) (m := 200) (lo := 0) (hi := 75) (rs := []) (L := []) rfl (by decide) (j := j.toNat) (by omega)
  have hK_0_89 : ∀ j : Int, 0 ≤ j → j < 200 → 0 ≤ w_ei ws (w_ar ws (n_v vs 0) 89) j ∧ w_ei ws (w_ar ws (n_v vs 0) 89) j ≤ 202 := fun j h0 h1 => th_el hD hth cr_0_89 (kd := 0) (n := 200) (m := 200) (lo := 0) (hi := 202) (rs := []) (L := []) rfl (by decide) (j := j.toNat) (by omega)
  have hK_0_95 : ∀ j : Int, 0 ≤ j → j < 48 → 0 ≤ w_ei ws (w_ar ws (n_v vs 0) 95) j ∧ w_ei ws (w_ar ws (n_v vs 0) 95) j ≤ 1 := fun j h0 h1 => th_el hD hth cr_0_95 (kd := 2) (n := 48) (m := 48) (lo := 0) (hi := 1) (rs := []) (L := []) rfl (by decide) (j := j.toNat) (by omega)
  have hK_0_102 : ∀ j : Int, 0 ≤ j → j < 76 → 0 ≤ w_ei ws (w_ar ws (n_v vs 0) 102) j ∧ w_ei ws (w_ar ws (n_v vs 0) 102) j ≤ 75 := fun j h0 h1 => th_el hD hth cr_0_102 (kd := 0) (n := 76) (m := 76) (lo := 0) (hi := 75) (rs := []) (L := []) rfl (by decide) (j := j.toNat) (by omega)
  have hK_0_104 : ∀ j : Int, 0 ≤ j → j < 48 → 0 ≤ w_ei ws (w_ar ws (n_v vs 0) 104) j ∧ w_ei ws (w_ar ws (n_v vs 0) 104) j ≤ 76 := fun j h0 h1 => th_el hD hth cr_0_104 (kd := 0) (n := 48) (m := 48) (lo := 0) (hi := 76) (rs := []) (L := []) rfl (by decide) (j := j.toNat) (by omega)
  have hK_0_105 : ∀ j : Int, 0 ≤ j → j < 76 → 0 ≤ w_ei ws (w_ar ws (n_v vs 0) 105) j ∧ w_ei ws (w_ar ws (n_v vs 0) 105) j ≤ 76 := fun j h0 h1 => th_el hD hth cr_0_105 (kd := 0) (n := 76) (m := 76) (lo := 0) (hi := 76) (rs := []) (L := []) rfl (by decide) (j := j.toNat) (by omega)
  have hK_0_106 : ∀ j : Int, 0 ≤ j → j < 5776 → 0 ≤ w_ei ws (w_ar ws (n_v vs 0) 106) j ∧ w_ei ws (w_ar ws (n_v vs 0) 106) j ≤ 75 := fun j h0 h1 => th_el hD hth cr_0_106 (kd := 0) (n := 5776) (m := 5776) (lo := 0) (hi := 75) (rs := []) (L := []) rfl (by decide) (j := j.toNat) (by omega)
  have hK_0_108 : ∀ j : Int, 0 ≤ j → j < 130 → 0 ≤ w_ei ws (w_ar ws (n_v vs 0) 108) j ∧ w_ei ws (w_ar ws (n_v vs 0) 108) j ≤ 75 := fun j h0 h1 => th_el hD hth cr_0_108 (kd := 0) (n := 130) (m := 130) (lo := 0) (hi := 75) (rs := []) (L := []) rfl (by decide) (j := j.toNat) (by omega)
  have hK_0_109 : ∀ j : Int, 0 ≤ j → j < 130 → 0 ≤ w_ei ws (w_ar ws (n_v vs 0) 109) j ∧ w_ei ws (w_ar ws (n_v vs 0) 109) j ≤ 75 := fun j h0 h1 => th_el hD hth cr_0_109 (kd := 0) (n := 130) (m := 130) (lo := 0) (hi := 75) (rs := []) (L := []) rfl (by decide) (j := j.toNat) (by omega)
  have kz_0_79 : 0 ≤ w_fi ws (n_v vs 0) 79 ∧ w_fi ws (n_v vs 0) 79 ≤ 76 := tv_rng (th_fd hD hth r0 (g := GG_150) rfl (k := 79) (t := (0, 0, 76, [])) rfl rfl)
  have kz_0_80 : 0 ≤ w_fi ws (n_v vs 0) 80 ∧ w_fi ws (n_v vs 0) 80 ≤ 200 := tv_rng (th_fd hD hth r0 (g := GG_150) rfl (k := 80) (t := (0, 0, 200, [])) rfl rfl)
  have kz_0_81 : 0 ≤ w_fi ws (n_v vs 0) 81 ∧ w_fi ws (n_v vs 0) 81 ≤ 200 := tv_rng (th_fd hD hth r0 (g := GG_150) rfl (k := 81) (t := (0, 0, 200, [])) rfl rfl)
  have kz_0_100 : 0 ≤ w_fi ws (n_v vs 0) 100 ∧ w_fi ws (n_v vs 0) 100 ≤ 76 := tv_rng (th_fd hD hth r0 (g := GG_150) rfl (k := 100) (t := (0, 0, 76, [])) rfl rfl)
  have kz_0_101 : 0 ≤ w_fi ws (n_v vs 0) 101 ∧ w_fi ws (n_v vs 0) 101 ≤ 76 := tv_rng (th_fd hD hth r0 (g := GG_150) rfl (k := 101) (t := (0, 0, 76, [])) rfl rfl)
  have kz_0_107 : 0 ≤ w_fi ws (n_v vs 0) 107 ∧ w_fi ws (n_v vs 0) 107 ≤ 130 := tv_rng (th_fd hD hth r0 (g := GG_150) rfl (k := 107) (t := (0, 0, 130, [])) rfl rfl)
  have nf0 : fc_1 PRD (20, [1, 2, 4], [60, 2, 5, 393, 81, 101, 105, 106, 87, 88, 89]) ws (vs) := by
    refine ⟨fun n hn => ?_, ?_⟩
    · have hn : n ∈ [1, 2, 4] := hn
      rw [hl]
      simp only [List.mem_cons, List.not_mem_nil, or_false] at hn
      show n < 5; omega
    · show PAL2 (w_fi ws (n_v vs 1) 81) (w_fi ws (n_v vs 1) 101) (w_ei ws (w_ar ws (n_v vs 1) 105)) (w_ei ws (w_ar ws (n_v vs 1) 106)) (w_ei ws (w_ar ws (n_v vs 1) 87)) (w_ei ws (w_ar ws (n_v vs 1) 88)) (w_ei ws (w_ar ws (n_v vs 1) 89)) (v_iv (n_v vs 2)) (v_iv (n_v vs 4))
      rw [q1]
      exact vc_Mo_across2_13_0 (v_iv (n_v vs 2)) (v_iv (n_v vs 3)) (v_iv (n_v vs 4)) (w_fi ws (n_v vs 0) 101) (w_ei ws (w_ar ws (n_v vs 0) 2)) (w_ei ws (w_ar ws (n_v vs 0) 95)) (w_ei ws (w_ar ws (n_v vs 0) 102)) (w_ei ws (w_ar ws (n_v vs 0) 104)) (w_ei ws (w_ar ws (n_v vs 0) 108)) (w_ei ws (w_ar ws (n_v vs 0) 109)) (w_fi ws (n_v vs 0) 5) (w_fi ws (n_v vs 0) 100) (w_fi ws (n_v vs 0) 107) (w_ei ws (w_ar ws (n_v vs 0) 105)) (w_ei ws (w_ar ws (n_v vs 0) 106)) (w_fi ws (n_v vs 0) 79) (w_ei ws (w_ar ws (n_v vs 0) 83)) (w_ei ws (w_ar ws (n_v vs 0) 84)) (w_ei ws (w_ar ws (n_v vs 0) 85)) (w_ei ws (w_ar ws (n_v vs 0) 86)) (w_fi ws (n_v vs 0) 80) (w_ei ws (w_ar ws (n_v vs 0) 87)) (w_ei ws (w_ar ws (n_v vs 0) 88)) (w_ei ws (w_ar ws (n_v vs 0) 89)) (w_fi ws (n_v vs 0) 81) k2 k3 k4 d0 f0 g1 f2 f3 f4 f5 f6 f7 f8 f9 hK_0_83 hK_0_84 hK_0_85 hK_0_86 hK_0_87 hK_0_88 hK_0_89 hK_0_95 hK_0_102 hK_0_104 hK_0_105 hK_0_106 hK_0_108 hK_0_109 kz_0_79 kz_0_80 kz_0_81 kz_0_100 kz_0_101 kz_0_107
  have nf1 : fc_1 PRD (20, [2, 1], [50, 1, 0, 1101, 0, 6, 4, 2, 1, 0, 0, 1, 2, 1, 101]) ws (vs) := by
    refine ⟨fun n hn => ?_, ?_⟩
    · have hn : n ∈ [2, 1] := hn
      rw [hl]
      simp only [List.mem_cons, List.not_mem_nil, or_false] at hn
      show n < 5; omega
    · show (v_iv (n_v vs 2) + 1) ≤ w_fi ws (n_v vs 1) 101
      rw [q1]
      exact vc_Mo_across2_13_1 (v_iv (n_v vs 2)) (v_iv (n_v vs 3)) (v_iv (n_v vs 4)) (w_fi ws (n_v vs 0) 101) (w_ei ws (w_ar ws (n_v vs 0) 2)) (w_ei ws (w_ar ws (n_v vs 0) 95)) (w_ei ws (w_ar ws (n_v vs 0) 102)) (w_ei ws (w_ar ws (n_v vs 0) 104)) (w_ei ws (w_ar ws (n_v vs 0) 108)) (w_ei ws (w_ar ws (n_v vs 0) 109)) (w_fi ws (n_v vs 0) 5) (w_fi ws (n_v vs 0) 100) (w_fi ws (n_v vs 0) 107) (w_ei ws (w_ar ws (n_v vs 0) 105)) (w_ei ws (w_ar ws (n_v vs 0) 106)) (w_fi ws (n_v vs 0) 79) (w_ei ws (w_ar ws (n_v vs 0) 83)) (w_ei ws (w_ar ws (n_v vs 0) 84)) (w_ei ws (w_ar ws (n_v vs 0) 85)) (w_ei ws (w_ar ws (n_v vs 0) 86)) (w_fi ws (n_v vs 0) 80) (w_ei ws (w_ar ws (n_v vs 0) 87)) (w_ei ws (w_ar ws (n_v vs 0) 88)) (w_ei ws (w_ar ws (n_v vs 0) 89)) (w_fi ws (n_v vs 0) 81) k2 k3 k4 d0 f0 g1 f2 f3 f4 f5 f6 f7 f8 f9 hK_0_83 hK_0_84 hK_0_85 hK_0_86 hK_0_87 hK_0_88 hK_0_89 hK_0_95 hK_0_102 hK_0_104 hK_0_105 hK_0_106 hK_0_108 hK_0_109 kz_0_79 kz_0_80 kz_0_81 kz_0_100 kz_0_101 kz_0_107
  have nf2 : fc_1 PRD (20, [4], [50, 0, 0, 0, 2, 0, 1, 1, 0]) ws (vs) := by
    refine ⟨fun n hn => ?_, ?_⟩
    · have hn : n ∈ [4] := hn
      rw [hl]
      simp only [List.mem_cons, List.not_mem_nil, or_false] at hn
      show n < 5; omega
    · show 1 ≤ v_iv (n_v vs 4)
      exact vc_Mo_across2_13_2 (v_iv (n_v vs 2)) (v_iv (n_v vs 3)) (v_iv (n_v vs 4)) (w_fi ws (n_v vs 0) 101) (w_ei ws (w_ar ws (n_v vs 0) 2)) (w_ei ws (w_ar ws (n_v vs 0) 95)) (w_ei ws (w_ar ws (n_v vs 0) 102)) (w_ei ws (w_ar ws (n_v vs 0) 104)) (w_ei ws (w_ar ws (n_v vs 0) 108)) (w_ei ws (w_ar ws (n_v vs 0) 109)) (w_fi ws (n_v vs 0) 5) (w_fi ws (n_v vs 0) 100) (w_fi ws (n_v vs 0) 107) (w_ei ws (w_ar ws (n_v vs 0) 105)) (w_ei ws (w_ar ws (n_v vs 0) 106)) (w_fi ws (n_v vs 0) 79) (w_ei ws (w_ar ws (n_v vs 0) 83)) (w_ei ws (w_ar ws (n_v vs 0) 84)) (w_ei ws (w_ar ws (n_v vs 0) 85)) (w_ei ws (w_ar ws (n_v vs 0) 86)) (w_fi ws (n_v vs 0) 80) (w_ei ws (w_ar ws (n_v vs 0) 87)) (w_ei ws (w_ar ws (n_v vs 0) 88)) (w_ei ws (w_ar ws (n_v vs 0) 89)) (w_fi ws (n_v vs 0) 81) k2 k3 k4 d0 f0 g1 f2 f3 f4 f5 f6 f7 f8 f9 hK_0_83 hK_0_84 hK_0_85 hK_0_86 hK_0_87 hK_0_88 hK_0_89 hK_0_95 hK_0_102 hK_0_104 hK_0_105 hK_0_106 hK_0_108 hK_0_109 kz_0_79 kz_0_80 kz_0_81 kz_0_100 kz_0_101 kz_0_107
  refine ⟨(fun _ h => (by cases h)), [], trivial, ?_, (fun _ h => (by cases h))⟩
  rw [List.append_nil]
  exact List.forall_mem_cons.mpr ⟨⟨show (20 : Nat) < 100 from by decide, nf0⟩, List.forall_mem_cons.mpr ⟨⟨show (20 : Nat) < 100 from by decide, nf1⟩, List.forall_mem_cons.mpr ⟨⟨show (20 : Nat) < 100 from by decide, nf2⟩, (fun _ h => (by cases h))⟩⟩⟩
set_option maxHeartbeats 4000000 in
theorem vc_Mo_across2_14_0 (x2 : Int) (x3 : Int) (x5 : Int) (x6 : Int) (layerSize_0 : Int → Int) (all_0 : Int → Int) (turned_0 : Int → Int) (itemLayer_0 : Int → Int) (firstJoint_0 : Int → Int) (lineA_0 : Int → Int) (lineB_0 : Int → Int) (r_0 : Int) (items_0 : Int) (layerMany_0 : Int) (lines_0 : Int) (layerItem_0 : Int → Int) (pointMany_0 : Int) (costA_0 : Int → Int) (costB_0 : Int → Int) (costW_0 : Int → Int) (costPlain_0 : Int → Int) (costMany_0 : Int) (apartA_0 : Int → Int) (apartB_0 : Int → Int) (apart_0 : Int → Int) (apartMany_0 : Int) (k2 : 0 ≤ x2 ∧ x2 ≤ 75) (k3 : 1 ≤ x3 ∧ x3 ≤ 76) (k5 : 0 ≤ x5 ∧ x5 ≤ 76) (k6 : 1 ≤ x6 ∧ x6 ≤ 76) (d0 : x2 + 1 ≤ x6 ∧ x6 ≤ x2 + 1) (d1 : x5 + 0 ≤ x3 ∧ x3 ≤ x5 + 4294967296) (f0 : x6 = x2 + 1) (f1 : x5 ≤ x3) (h2 : x5 = layerSize_0 (x2)) (f4 : LSA (r_0) (items_0) (layerMany_0) (lines_0) (all_0) (turned_0) (itemLayer_0) (firstJoint_0) (lineA_0) (lineB_0)) (f5 : LSB (items_0) (layerMany_0) (itemLayer_0) (layerSize_0) (layerItem_0)) (f6 : SGR (r_0) (all_0)) (f7 : pointMany_0 = items_0) (f8 : PCQ (pointMany_0) (costMany_0) (costA_0) (costB_0) (costW_0) (costPlain_0)) (f9 : costMany_0 ≤ 130) (f10 : PAL2 (apartMany_0) (layerMany_0) (layerSize_0) (layerItem_0) (apartA_0) (apartB_0) (apart_0) (x2) (x3)) (f11 : apartMany_0 ≤ 76) (f12 : (x2 + 1) ≤ layerMany_0) (f13 : 1 ≤ x3) (hK_0_83 : ∀ j : Int, 0 ≤ j → j < 200 → 0 ≤ costA_0 j ∧ costA_0 j ≤ 75) (hK_0_84 : ∀ j : Int, 0 ≤ j → j < 200 → 0 ≤ costB_0 j ∧ costB_0 j ≤ 75) (hK_0_85 : ∀ j : Int, 0 ≤ j → j < 200 → 0 ≤ costW_0 j ∧ costW_0 j ≤ 72) (hK_0_86 : ∀ j : Int, 0 ≤ j → j < 200 → 0 ≤ costPlain_0 j ∧ costPlain_0 j ≤ 1) (hK_0_87 : ∀ j : Int, 0 ≤ j → j < 200 → 0 ≤ apartA_0 j ∧ apartA_0 j ≤ 75) (hK_0_88 : ∀ j : Int, 0 ≤ j → j < 200 → 0 ≤ apartB_0 j ∧ apartB_0 j ≤ 75) (hK_0_89 : ∀ j : Int, 0 ≤ j → j < 200 → 0 ≤ apart_0 j ∧ apart_0 j ≤ 202) (hK_0_95 : ∀ j : Int, 0 ≤ j → j < 48 → 0 ≤ turned_0 j ∧ turned_0 j ≤ 1) (hK_0_102 : ∀ j : Int, 0 ≤ j → j < 76 → 0 ≤ itemLayer_0 j ∧ itemLayer_0 j ≤ 75) (hK_0_104 : ∀ j : Int, 0 ≤ j → j < 48 → 0 ≤ firstJoint_0 j ∧ firstJoint_0 j ≤ 76) (hK_0_105 : ∀ j : Int, 0 ≤ j → j < 76 → 0 ≤ layerSize_0 j ∧ layerSize_0 j ≤ 76) (hK_0_106 : ∀ j : Int, 0 ≤ j → j < 5776 → 0 ≤ layerItem_0 j ∧ layerItem_0 j ≤ 75) (hK_0_108 : ∀ j : Int, 0 ≤ j → j < 130 → 0 ≤ lineA_0 j ∧ lineA_0 j ≤ 75) (hK_0_109 : ∀ j : Int, 0 ≤ j → j < 130 → 0 ≤ lineB_0 j ∧ lineB_0 j ≤ 75) (kz_0_79 : 0 ≤ pointMany_0 ∧ pointMany_0 ≤ 76) (kz_0_80 : 0 ≤ costMany_0 ∧ costMany_0 ≤ 200) (kz_0_81 : 0 ≤ apartMany_0 ∧ apartMany_0 ≤ 200) (kz_0_100 : 0 ≤ items_0 ∧ items_0 ≤ 76) (kz_0_101 : 0 ≤ layerMany_0 ∧ layerMany_0 ≤ 76) (kz_0_107 : 0 ≤ lines_0 ∧ lines_0 ≤ 130) : PAL1 (apartMany_0) (layerMany_0) (layerSize_0) (layerItem_0) (apartA_0) (apartB_0) (apart_0) (x6) := by
  first
    | exact paq_zero (by omega)
    | exact paq_less ‹PAL2 _ _ _ _ _ _ _ _ _› (by omega)
def o_Mo_across2_14 : or_T := (178, 7, [(0, (2, 0, 0, [150])), (1, (2, 0, 0, [150])), (2, (0, 0, 75, [])), (3, (0, 1, 76, [])), (4, (2, 0, 0, [223])), (5, (0, 0, 76, [])), (6, (0, 1, 76, []))], [(6, [6, 2], [1]), (7, [3, 5], [3]), (10, [5, 4, 2], []), (9, [4, 1], [105]), (20, [1], [60, 4, 6, 369, 5, 100, 101, 107, 2, 95, 102, 104, 108, 109]), (20, [1], [60, 2, 3, 372, 100, 101, 102, 105, 106]), (20, [1], [60, 1, 1, 122, 5, 2]), (20, [1], [50, 2, 0, 79, 100, 1, 3, 2, 0, 79, 2, 0, 100]), (20, [1], [60, 2, 4, 380, 79, 80, 83, 84, 85, 86]), (20, [1], [50, 1, 0, 80, 0, 3, 2, 0, 80, 0, 130]), (20, [1, 2, 3], [60, 2, 5, 393, 81, 101, 105, 106, 87, 88, 89]), (20, [1], [50, 1, 0, 81, 0, 3, 2, 0, 81, 0, 76]), (20, [2, 1], [50, 1, 0, 1101, 0, 6, 4, 2, 1, 0, 0, 1, 2, 1, 101]), (20, [3], [50, 0, 0, 0, 2, 0, 1, 1, 0]), (24, [0, 1], [])], [], [], [(20, [1, 6], [60, 2, 5, 392, 81, 101, 105, 106, 87, 88, 89])], [], [(6, 2, 1, 1), (3, 5, 0, 4294967296)])
theorem oo_Mo_across2_14 {kA : Nat → ClassId} : or_ok PRD kA GG o_Mo_across2_14 := by
  intro A ta ws vs hD hth hl hk hds hf
  have hl : vs.length = 7 := hl
  have hk : ∀ q ∈ ([(0, (2, 0, 0, [150])), (1, (2, 0, 0, [150])), (2, (0, 0, 75, [])), (3, (0, 1, 76, [])), (4, (2, 0, 0, [223])), (5, (0, 0, 76, [])), (6, (0, 1, 76, []))] : List (Nat × tv_T)), tv_ok ta q.2 (n_v vs q.1) := hk
  obtain ⟨t0, hk⟩ := List.forall_mem_cons.mp hk
  have t0 : tv_ok ta (2, 0, 0, [150]) (n_v vs 0) := t0
  have r0 : ta (v_ad (n_v vs 0)) = some 150 := tv_rg t0
  obtain ⟨t1, hk⟩ := List.forall_mem_cons.mp hk
  have t1 : tv_ok ta (2, 0, 0, [150]) (n_v vs 1) := t1
  have r1 : ta (v_ad (n_v vs 1)) = some 150 := tv_rg t1
  obtain ⟨t2, hk⟩ := List.forall_mem_cons.mp hk
  have t2 : tv_ok ta (0, 0, 75, []) (n_v vs 2) := t2
  have k2 : 0 ≤ v_iv (n_v vs 2) ∧ v_iv (n_v vs 2) ≤ 75 := tv_rng t2
  obtain ⟨t3, hk⟩ := List.forall_mem_cons.mp hk
  have t3 : tv_ok ta (0, 1, 76, []) (n_v vs 3) := t3
  have k3 : 1 ≤ v_iv (n_v vs 3) ∧ v_iv (n_v vs 3) ≤ 76 := tv_rng t3
  obtain ⟨t4, hk⟩ := List.forall_mem_cons.mp hk
  have t4 : tv_ok ta (2, 0, 0, [223]) (n_v vs 4) := t4
  have r4 : ta (v_ad (n_v vs 4)) = some 223 := tv_rg t4
  obtain ⟨t5, hk⟩ := List.forall_mem_cons.mp hk
  have t5 : tv_ok ta (0, 0, 76, []) (n_v vs 5) := t5
  have k5 : 0 ≤ v_iv (n_v vs 5) ∧ v_iv (n_v vs 5) ≤ 76 := tv_rng t5
  obtain ⟨t6, hk⟩ := List.forall_mem_cons.mp hk
  have t6 : tv_ok ta (0, 1, 76, []) (n_v vs 6) := t6
  have k6 : 1 ≤ v_iv (n_v vs 6) ∧ v_iv (n_v vs 6) ≤ 76 := tv_rng t6
  have hds : ∀ q ∈ ([(6, 2, 1, 1), (3, 5, 0, 4294967296)] : List of_T), n_iv vs q.2.1 + q.2.2.1 ≤ n_iv vs q.1 ∧ n_iv vs q.1 ≤ n_iv vs q.2.1 + q.2.2.2 := hds
  obtain ⟨d0, hds⟩ := List.forall_mem_cons.mp hds
  have d0 : v_iv (n_v vs 2) + 1 ≤ v_iv (n_v vs 6) ∧ v_iv (n_v vs 6) ≤ v_iv (n_v vs 2) + 1 := d0
  obtain ⟨d1, hds⟩ := List.forall_mem_cons.mp hds
  have d1 : v_iv (n_v vs 5) + 0 ≤ v_iv (n_v vs 3) ∧ v_iv (n_v vs 3) ≤ v_iv (n_v vs 5) + 4294967296 := d1
  have hf : fc_ok PRD [(6, [6, 2], [1]), (7, [3, 5], [3]), (10, [5, 4, 2], []), (9, [4, 1], [105]), (20, [1], [60, 4, 6, 369, 5, 100, 101, 107, 2, 95, 102, 104, 108, 109]), (20, [1], [60, 2, 3, 372, 100, 101, 102, 105, 106]), (20, [1], [60, 1, 1, 122, 5, 2]), (20, [1], [50, 2, 0, 79, 100, 1, 3, 2, 0, 79, 2, 0, 100]), (20, [1], [60, 2, 4, 380, 79, 80, 83, 84, 85, 86]), (20, [1], [50, 1, 0, 80, 0, 3, 2, 0, 80, 0, 130]), (20, [1, 2, 3], [60, 2, 5, 393, 81, 101, 105, 106, 87, 88, 89]), (20, [1], [50, 1, 0, 81, 0, 3, 2, 0, 81, 0, 76]), (20, [2, 1], [50, 1, 0, 1101, 0, 6, 4, 2, 1, 0, 0, 1, 2, 1, 101]), (20, [3], [50, 0, 0, 0, 2, 0, 1, 1, 0]), (24, [0, 1], [])] ta ws vs := hf
  obtain ⟨f0, hf⟩ := fc_un (show (6 : Nat) < 100 from by decide) hf
  have f0 : v_iv (n_v vs 6) = v_iv (n_v vs 2) + 1 := f0
  obtain ⟨f1, hf⟩ := fc_un (show (7 : Nat) < 100 from by decide) hf
  have f1 : v_iv (n_v vs 5) ≤ v_iv (n_v vs 3) := f1
  obtain ⟨f2, hf⟩ := fc_un (show (10 : Nat) < 100 from by decide) hf
  have f2 : v_iv (n_v vs 5) = w_el ws (v_ad (n_v vs 4)) (v_iv (n_v vs 2)).toNat := f2
  obtain ⟨f3, hf⟩ := fc_un (show (9 : Nat) < 100 from by decide) hf
  have f3 : n_v vs 4 = w_fd ws (v_ad (n_v vs 1)) 105 := f3
  obtain ⟨f4, hf⟩ := fc_un (show (20 : Nat) < 100 from by decide) hf
  have f4 : LSA (w_fi ws (n_v vs 1) 5) (w_fi ws (n_v vs 1) 100) (w_fi ws (n_v vs 1) 101) (w_fi ws (n_v vs 1) 107) (w_ei ws (w_ar ws (n_v vs 1) 2)) (w_ei ws (w_ar ws (n_v vs 1) 95)) (w_ei ws (w_ar ws (n_v vs 1) 102)) (w_ei ws (w_ar ws (n_v vs 1) 104)) (w_ei ws (w_ar ws (n_v vs 1) 108)) (w_ei ws (w_ar ws (n_v vs 1) 109)) := f4
  obtain ⟨f5, hf⟩ := fc_un (show (20 : Nat) < 100 from by decide) hf
  have f5 : LSB (w_fi ws (n_v vs 1) 100) (w_fi ws (n_v vs 1) 101) (w_ei ws (w_ar ws (n_v vs 1) 102)) (w_ei ws (w_ar ws (n_v vs 1) 105)) (w_ei ws (w_ar ws (n_v vs 1) 106)) := f5
  obtain ⟨f6, hf⟩ := fc_un (show (20 : Nat) < 100 from by decide) hf
  have f6 : SGR (w_fi ws (n_v vs 1) 5) (w_ei ws (w_ar ws (n_v vs 1) 2)) := f6
  obtain ⟨f7, hf⟩ := fc_un (show (20 : Nat) < 100 from by decide) hf
  have f7 : w_fi ws (n_v vs 1) 79 = w_fi ws (n_v vs 1) 100 := f7
  obtain ⟨f8, hf⟩ := fc_un (show (20 : Nat) < 100 from by decide) hf
  have f8 : PCQ (w_fi ws (n_v vs 1) 79) (w_fi ws (n_v vs 1) 80) (w_ei ws (w_ar ws (n_v vs 1) 83)) (w_ei ws (w_ar ws (n_v vs 1) 84)) (w_ei ws (w_ar ws (n_v vs 1) 85)) (w_ei ws (w_ar ws (n_v vs 1) 86)) := f8
  obtain ⟨f9, hf⟩ := fc_un (show (20 : Nat) < 100 from by decide) hf
  have f9 : w_fi ws (n_v vs 1) 80 ≤ 130 := f9
  obtain ⟨f10, hf⟩ := fc_un (show (20 : Nat) < 100 from by decide) hf
  have f10 : PAL2 (w_fi ws (n_v vs 1) 81) (w_fi ws (n_v vs 1) 101) (w_ei ws (w_ar ws (n_v vs 1) 105)) (w_ei ws (w_ar ws (n_v vs 1) 106)) (w_ei ws (w_ar ws (n_v vs 1) 87)) (w_ei ws (w_ar ws (n_v vs 1) 88)) (w_ei ws (w_ar ws (n_v vs 1) 89)) (v_iv (n_v vs 2)) (v_iv (n_v vs 3)) := f10
  obtain ⟨f11, hf⟩ := fc_un (show (20 : Nat) < 100 from by decide) hf
  have f11 : w_fi ws (n_v vs 1) 81 ≤ 76 := f11
  obtain ⟨f12, hf⟩ := fc_un (show (20 : Nat) < 100 from by decide) hf
  have f12 : (v_iv (n_v vs 2) + 1) ≤ w_fi ws (n_v vs 1) 101 := f12
  obtain ⟨f13, hf⟩ := fc_un (show (20 : Nat) < 100 from by decide) hf
  have f13 : 1 ≤ v_iv (n_v vs 3) := f13
  obtain ⟨f14, hf⟩ := fc_un (show (24 : Nat) < 100 from by decide) hf
  have f14 : n_v vs 0 = n_v vs 1 := f14
  have q1 : n_v vs 1 = n_v vs 0 := f14.symm
  rw [q1] at f3
  rw [q1] at f4
  rw [q1] at f5
  rw [q1] at f6
  rw [q1] at f7
  rw [q1] at f8
  rw [q1] at f9
  rw [q1] at f10
  rw [q1] at f11
  rw [q1] at f12
  have cr_0_2 : ta (w_ar ws (n_v vs 0) 2) = some 152 := tv_rg (th_fd hD hth r0 (g := GG_150) rfl (k := 2) (t := (2, 0, 0, [152])) rfl rfl)
  have cr_0_83 : ta (w_ar ws (n_v vs 0) 83) = some 205 := tv_rg (th_fd hD hth r0 (g := GG_150) rfl (k := 83) (t := (2, 0, 0, [205])) rfl rfl)
  have cr_0_84 : ta (w_ar ws (n_v vs 0) 84) = some 206 := tv_rg (th_fd hD hth r0 (g := GG_150) rfl (k := 84) (t := (2, 0, 0, [206])) rfl rfl)
  have cr_0_85 : ta (w_ar ws (n_v vs 0) 85) = some 207 := tv_rg (th_fd hD hth r0 (g := GG_150) rfl (k := 85) (t := (2, 0, 0, [207])) rfl rfl)
  have cr_0_86 : ta (w_ar ws (n_v vs 0) 86) = some 208 := tv_rg (th_fd hD hth r0 (g := GG_150) rfl (k := 86) (t := (2, 0, 0, [208])) rfl rfl)
  have cr_0_87 : ta (w_ar ws (n_v vs 0) 87) = some 209 := tv_rg (th_fd hD hth r0 (g := GG_150) rfl (k := 87) (t := (2, 0, 0, [209])) rfl rfl)
  have cr_0_88 : ta (w_ar ws (n_v vs 0) 88) = some 210 := tv_rg (th_fd hD hth r0 (g := GG_150) rfl (k := 88) (t := (2, 0, 0, [210])) rfl rfl)
  have cr_0_89 : ta (w_ar ws (n_v vs 0) 89) = some 211 := tv_rg (th_fd hD hth r0 (g := GG_150) rfl (k := 89) (t := (2, 0, 0, [211])) rfl rfl)
  have cr_0_95 : ta (w_ar ws (n_v vs 0) 95) = some 216 := tv_rg (th_fd hD hth r0 (g := GG_150) rfl (k := 95) (t := (2, 0, 0, [216])) rfl rfl)
  have cr_0_102 : ta (w_ar ws (n_v vs 0) 102) = some 220 := tv_rg (th_fd hD hth r0 (g := GG_150) rfl (k := 102) (t := (2, 0, 0, [220])) rfl rfl)
  have cr_0_104 : ta (w_ar ws (n_v vs 0) 104) = some 222 := tv_rg (th_fd hD hth r0 (g := GG_150) rfl (k := 104) (t := (2, 0, 0, [222])) rfl rfl)
  have cr_0_105 : ta (w_ar ws (n_v vs 0) 105) = some 223 := tv_rg (th_fd hD hth r0 (g := GG_150) rfl (k := 105) (t := (2, 0, 0, [223])) rfl rfl)
  have cr_0_106 : ta (w_ar ws (n_v vs 0) 106) = some 224 := tv_rg (th_fd hD hth r0 (g := GG_150) rfl (k := 106) (t := (2, 0, 0, [224])) rfl rfl)
  have cr_0_108 : ta (w_ar ws (n_v vs 0) 108) = some 225 := tv_rg (th_fd hD hth r0 (g := GG_150) rfl (k := 108) (t := (2, 0, 0, [225])) rfl rfl)
  have cr_0_109 : ta (w_ar ws (n_v vs 0) 109) = some 226 := tv_rg (th_fd hD hth r0 (g := GG_150) rfl (k := 109) (t := (2, 0, 0, [226])) rfl rfl)
  have ad_4 : v_ad (n_v vs 4) = w_ar ws (n_v vs 0) 105 := congrArg v_ad f3
  rw [ad_4] at f2
  have h2 : v_iv (n_v vs 5) = w_ei ws (w_ar ws (n_v vs 0) 105) (v_iv (n_v vs 2)) := f2
  have hK_0_83 : ∀ j : Int, 0 ≤ j → j < 200 → 0 ≤ w_ei ws (w_ar ws (n_v vs 0) 83) j ∧ w_ei ws (w_ar ws (n_v vs 0) 83) j ≤ 75 := fun j h0 h1 => th_el hD hth cr_0_83 (kd := 0) (n := 200) (m := 200) (lo := 0) (hi := 75) (rs := []) (L := []) rfl (by decide) (j := j.toNat) (by omega)
  have hK_0_84 : ∀ j : Int, 0 ≤ j → j < 200 → 0 ≤ w_ei ws (w_ar ws (n_v vs 0) 84) j ∧ w_ei ws (w_ar ws (n_v vs 0) 84) j ≤ 75 := fun j h0 h1 => th_el hD hth cr_0_84 (kd := 0) (n := 200) (m := 200) (lo := 0) (hi := 75) (rs := []) (L := []) rfl (by decide) (j := j.toNat) (by omega)
  have hK_0_85 : ∀ j : Int, 0 ≤ j → j < 200 → 0 ≤ w_ei ws (w_ar ws (n_v vs 0) 85) j ∧ w_ei ws (w_ar ws (n_v vs 0) 85) j ≤ 72 := fun j h0 h1 => th_el hD hth cr_0_85 (kd := 0) (n := 200) (m := 200) (lo := 0) (hi := 72) (rs := []) (L := []) rfl (by decide) (j := j.toNat) (by omega)
  have hK_0_86 : ∀ j : Int, 0 ≤ j → j < 200 → 0 ≤ w_ei ws (w_ar ws (n_v vs 0) 86) j ∧ w_ei ws (w_ar ws (n_v vs 0) 86) j ≤ 1 := fun j h0 h1 => th_el hD hth cr_0_86 (kd := 2) (n := 200) (m := 200) (lo := 0) (hi := 1) (rs := []) (L := []) rfl (by decide) (j := j.toNat) (by omega)
  have hK_0_87 : ∀ j : Int, 0 ≤ j → j < 200 → 0 ≤ w_ei ws (w_ar ws (n_v vs 0) 87) j ∧ w_ei ws (w_ar ws (n_v vs 0) 87) j ≤ 75 := fun j h0 h1 => th_el hD hth cr_0_87 (kd := 0) (n := 200) (m := 200) (lo := 0) (hi := 75) (rs := []) (L := []) rfl (by decide) (j := j.toNat) (by omega)
  have hK_0_88 : ∀ j : Int, 0 ≤ j → j < 200 → 0 ≤ w_ei ws (w_ar ws (n_v vs 0) 88) j ∧ w_ei ws (w_ar ws (n_v vs 0) 88) j ≤ 75 := fun j h0 h1 => th_el hD hth cr_0_88 (kd := 0) (n := 200) (m := 200) (lo := 0) (hi := 75) (rs := []) (L := []) rfl (by decide) (j := j.toNat) (by omega)
  have hK_0_89 : ∀ j : Int, 0 ≤ j → j < 200 → 0 ≤ w_ei ws (w_ar ws (n_v vs 0) 89) j ∧ w_ei ws (w_ar ws (n_v vs 0) 89) j ≤ 202 := fun j h0 h1 => th_el hD hth cr_0_89 (kd := 0) (n := 200) (m := 200) (lo := 0) (hi := 202) (rs := []) (L := []) rfl (by decide) (j := j.toNat) (by omega)
  have hK_0_95 : ∀ j : Int, 0 ≤ j → j < 48 → 0 ≤ w_ei ws (w_ar ws (n_v vs 0) 95) j ∧ w_ei ws (w_ar ws (n_v vs 0) 95) j ≤ 1 := fun j h0 h1 => th_el hD hth cr_0_95 (kd := 2) (n := 48) (m := 48) (lo := 0) (hi := 1) (rs := []) (L := []) rfl (by decide) (j := j.toNat) (by omega)
  have hK_0_102 : ∀ j : Int, 0 ≤ j → j < 76 → 0 ≤ w_ei ws (w_ar ws (n_v vs 0) 102) j ∧ w_ei ws (w_ar ws (n_v vs 0) 102) j ≤ 75 := fun j h0 h1 => th_el hD hth cr_0_102 (kd := 0) (n := 76) (m := 76) (lo := 0) (hi := 75) (rs := []) (L := []) rfl (by decide) (j := j.toNat) (by omega)
  have hK_0_104 : ∀ j : Int, 0 ≤ j → j < 48 → 0 ≤ w_ei ws (w_ar ws (n_v vs 0) 104) j ∧ w_ei ws (w_ar ws (n_v vs 0) 104) j ≤ 76 := fun j h0 h1 => th_el hD hth cr_0_104 (kd := 0) (n := 48) (m := 48) (lo := 0) (hi := 76) (rs := []) (L := []) rfl (by decide) (j := j.toNat) (by omega)
  have hK_0_105 : ∀ j : Int, 0 ≤ j → j < 76 → 0 ≤ w_ei ws (w_ar ws (n_v vs 0) 105) j ∧ w_ei ws (w_ar ws (n_v vs 0) 105) j ≤ 76 := fun j h0 h1 => th_el hD hth cr_0_105 (kd := 0) (n := 76) (m := 76) (lo := 0) (hi := 76) (rs := []) (L := []) rfl (by decide) (j := j.toNat) (by omega)
  have hK_0_106 : ∀ j : Int, 0 ≤ j → j < 5776 → 0 ≤ w_ei ws (w_ar ws (n_v vs 0) 106) j ∧ w_ei ws (w_ar ws (n_v vs 0) 106) j ≤ 75 := fun j h0 h1 => th_el hD hth cr_0_106 (kd := 0) (n := 5776) (m := 5776) (lo := 0) (hi := 75) (rs := []) (L := []) rfl (by decide) (j := j.toNat) (by omega)
  have hK_0_108 : ∀ j : Int, 0 ≤ j → j < 130 → 0 ≤ w_ei ws (w_ar ws (n_v vs 0) 108) j ∧ w_ei ws (w_ar ws (n_v vs 0) 108) j ≤ 75 := fun j h0 h1 => th_el hD hth cr_0_108 (kd := 0) (n := 130) (m := 130) (lo := 0) (hi := 75) (rs := []) (L := []) rfl (by decide) (j := j.toNat) (by omega)
  have hK_0_109 : ∀ j : Int, 0 ≤ j → j < 130 → 0 ≤ w_ei ws (w_ar ws (n_v vs 0) 109) j ∧ w_ei ws (w_ar ws (n_v vs 0) 109) j ≤ 75 := fun j h0 h1 => th_el hD hth cr_0_109 (kd := 0) (n := 130) (m := 130) (lo := 0) (hi := 75) (rs := []) (L := []) rfl (by decide) (j := j.toNat) (by omega)
  have kz_0_79 : 0 ≤ w_fi ws (n_v vs 0) 79 ∧ w_fi ws (n_v vs 0) 79 ≤ 76 := tv_rng (th_fd hD hth r0 (g := GG_150) rfl (k := 79) (t := (0, 0, 76, [])) rfl rfl)
  have kz_0_80 : 0 ≤ w_fi ws (n_v vs 0) 80 ∧ w_fi ws (n_v vs 0) 80 ≤ 200 := tv_rng (th_fd hD hth r0 (g := GG_150) rfl (k := 80) (t := (0, 0, 200, [])) rfl rfl)
  have kz_0_81 : 0 ≤ w_fi ws (n_v vs 0) 81 ∧ w_fi ws (n_v vs 0) 81 ≤ 200 := tv_rng (th_fd hD hth r0 (g := GG_150) rfl (k := 81) (t := (0, 0, 200, [])) rfl rfl)
  have kz_0_100 : 0 ≤ w_fi ws (n_v vs 0) 100 ∧ w_fi ws (n_v vs 0) 100 ≤ 76 := tv_rng (th_fd hD hth r0 (g := GG_150) rfl (k := 100) (t := (0, 0, 76, [])) rfl rfl)
  have kz_0_101 : 0 ≤ w_fi ws (n_v vs 0) 101 ∧ w_fi ws (n_v vs 0) 101 ≤ 76 := tv_rng (th_fd hD hth r0 (g := GG_150) rfl (k := 101) (t := (0, 0, 76, [])) rfl rfl)
  have kz_0_107 : 0 ≤ w_fi ws (n_v vs 0) 107 ∧ w_fi ws (n_v vs 0) 107 ≤ 130 := tv_rng (th_fd hD hth r0 (g := GG_150) rfl (k := 107) (t := (0, 0, 130, [])) rfl rfl)
  have nf0 : fc_1 PRD (20, [1, 6], [60, 2, 5, 392, 81, 101, 105, 106, 87, 88, 89]) ws (vs) := by
    refine ⟨fun n hn => ?_, ?_⟩
    · have hn : n ∈ [1, 6] := hn
      rw [hl]
      simp only [List.mem_cons, List.not_mem_nil, or_false] at hn
      show n < 7; omega
    · show PAL1 (w_fi ws (n_v vs 1) 81) (w_fi ws (n_v vs 1) 101) (w_ei ws (w_ar ws (n_v vs 1) 105)) (w_ei ws (w_ar ws (n_v vs 1) 106)) (w_ei ws (w_ar ws (n_v vs 1) 87)) (w_ei ws (w_ar ws (n_v vs 1) 88)) (w_ei ws (w_ar ws (n_v vs 1) 89)) (v_iv (n_v vs 6))
      rw [q1]
      exact vc_Mo_across2_14_0 (v_iv (n_v vs 2)) (v_iv (n_v vs 3)) (v_iv (n_v vs 5)) (v_iv (n_v vs 6)) (w_ei ws (w_ar ws (n_v vs 0) 105)) (w_ei ws (w_ar ws (n_v vs 0) 2)) (w_ei ws (w_ar ws (n_v vs 0) 95)) (w_ei ws (w_ar ws (n_v vs 0) 102)) (w_ei ws (w_ar ws (n_v vs 0) 104)) (w_ei ws (w_ar ws (n_v vs 0) 108)) (w_ei ws (w_ar ws (n_v vs 0) 109)) (w_fi ws (n_v vs 0) 5) (w_fi ws (n_v vs 0) 100) (w_fi ws (n_v vs 0) 101) (w_fi ws (n_v vs 0) 107) (w_ei ws (w_ar ws (n_v vs 0) 106)) (w_fi ws (n_v vs 0) 79) (w_ei ws (w_ar ws (n_v vs 0) 83)) (w_ei ws (w_ar ws (n_v vs 0) 84)) (w_ei ws (w_ar ws (n_v vs 0) 85)) (w_ei ws (w_ar ws (n_v vs 0) 86)) (w_fi ws (n_v vs 0) 80) (w_ei ws (w_ar ws (n_v vs 0) 87)) (w_ei ws (w_ar ws (n_v vs 0) 88)) (w_ei ws (w_ar ws (n_v vs 0) 89)) (w_fi ws (n_v vs 0) 81) k2 k3 k5 k6 d0 d1 f0 f1 h2 f4 f5 f6 f7 f8 f9 f10 f11 f12 f13 hK_0_83 hK_0_84 hK_0_85 hK_0_86 hK_0_87 hK_0_88 hK_0_89 hK_0_95 hK_0_102 hK_0_104 hK_0_105 hK_0_106 hK_0_108 hK_0_109 kz_0_79 kz_0_80 kz_0_81 kz_0_100 kz_0_101 kz_0_107
  refine ⟨(fun _ h => (by cases h)), [], trivial, ?_, (fun _ h => (by cases h))⟩
  rw [List.append_nil]
  exact List.forall_mem_cons.mpr ⟨⟨show (20 : Nat) < 100 from by decide, nf0⟩, (fun _ h => (by cases h))⟩
set_option maxHeartbeats 4000000 in
theorem vc_Mo_across2_15_0 (x2 : Int) (x3 : Int) (x5 : Int) (x7 : Int) (x8 : Int) (x9 : Int) (x10 : Int) (x11 : Int) (x12 : Int) (x13 : Int) (x14 : Int) (x15 : Int) (x16 : Int) (x17 : Int) (x18 : Int) (x19 : Int) (x20 : Int) (x21 : Int) (layerItem_0 : Int → Int) (layerSize_0 : Int → Int) (all_0 : Int → Int) (turned_0 : Int → Int) (itemLayer_0 : Int → Int) (firstJoint_0 : Int → Int) (lineA_0 : Int → Int) (lineB_0 : Int → Int) (r_0 : Int) (items_0 : Int) (layerMany_0 : Int) (lines_0 : Int) (pointMany_0 : Int) (costA_0 : Int → Int) (costB_0 : Int → Int) (costW_0 : Int → Int) (costPlain_0 : Int → Int) (costMany_0 : Int) (apartA_0 : Int → Int) (apartB_0 : Int → Int) (apart_0 : Int → Int) (apartMany_0 : Int) (gx : Int) (gy : Int) (gu : Int) (k2 : 0 ≤ x2 ∧ x2 ≤ 75) (k3 : 1 ≤ x3 ∧ x3 ≤ 75) (k5 : 2 ≤ x5 ∧ x5 ≤ 76) (k7 : 76 ≤ x7 ∧ x7 ≤ 76) (k8 : 0 ≤ x8 ∧ x8 ≤ 5700) (k9 : 1 ≤ x9 ∧ x9 ≤ 5775) (k10 : 1 ≤ x10 ∧ x10 ≤ 1) (k11 : 0 ≤ x11 ∧ x11 ≤ 5774) (k12 : 0 ≤ x12 ∧ x12 ≤ 75) (k13 : 76 ≤ x13 ∧ x13 ≤ 76) (k14 : 0 ≤ x14 ∧ x14 ≤ 5700) (k15 : 1 ≤ x15 ∧ x15 ≤ 5775) (k16 : 0 ≤ x16 ∧ x16 ≤ 75) (k17 : 0 ≤ x17 ∧ x17 ≤ 0) (k18 : 0 ≤ x18 ∧ x18 ≤ 0) (k19 : 0 ≤ x19 ∧ x19 ≤ 0) (k20 : 2 ≤ x20 ∧ x20 ≤ 2) (k21 : 2 ≤ x21 ∧ x21 ≤ 2) (d0 : x3 + 0 ≤ x15 ∧ x15 ≤ x3 + 5700) (d1 : x5 + (-4294967296) ≤ x15 ∧ x15 ≤ x5 + 5699) (d2 : x14 + 1 ≤ x15 ∧ x15 ≤ x14 + 75) (d3 : x9 + (-1) ≤ x11 ∧ x11 ≤ x9 + (-1)) (d4 : x3 + (-1) ≤ x11 ∧ x11 ≤ x3 + 5699) (d5 : x5 + (-4294967296) ≤ x11 ∧ x11 ≤ x5 + 5698) (d6 : x8 + 0 ≤ x11 ∧ x11 ≤ x8 + 74) (d7 : x3 + 0 ≤ x9 ∧ x9 ≤ x3 + 5700) (d8 : x5 + (-4294967296) ≤ x9 ∧ x9 ≤ x5 + 5699) (d9 : x8 + 1 ≤ x9 ∧ x9 ≤ x8 + 75) (d10 : x5 + (-4294967296) ≤ x3 ∧ x3 ≤ x5 + (-1)) (f0 : x21 = x19 + x20) (f1 : x19 = x17 + x18) (f2 : (0 ≤ x18) ∧ (x18 ≤ 100)) (f3 : (0 ≤ x17) ∧ (x17 ≤ 100)) (h4 : x16 = layerItem_0 (x15)) (f5 : x15 = x14 + x3) (f6 : x14 = 76 * x2) (h8 : x12 = layerItem_0 (x11)) (f9 : x11 = x9 - x10) (f10 : x9 = x8 + x3) (f11 : x8 = 76 * x2) (f12 : x3 < x5) (h13 : x5 = layerSize_0 (x2)) (f15 : LSA (r_0) (items_0) (layerMany_0) (lines_0) (all_0) (turned_0) (itemLayer_0) (firstJoint_0) (lineA_0) (lineB_0)) (f16 : LSB (items_0) (layerMany_0) (itemLayer_0) (layerSize_0) (layerItem_0)) (f17 : SGR (r_0) (all_0)) (f18 : pointMany_0 = items_0) (f19 : PCQ (pointMany_0) (costMany_0) (costA_0) (costB_0) (costW_0) (costPlain_0)) (f20 : costMany_0 ≤ 130) (f21 : PAL2 (apartMany_0) (layerMany_0) (layerSize_0) (layerItem_0) (apartA_0) (apartB_0) (apart_0) (x2) (x3)) (f22 : apartMany_0 ≤ 76) (f23 : (x2 + 1) ≤ layerMany_0) (f24 : 1 ≤ x3) (hK_0_83 : ∀ j : Int, 0 ≤ j → j < 200 → 0 ≤ costA_0 j ∧ costA_0 j ≤ 75) (hK_0_84 : ∀ j : Int, 0 ≤ j → j < 200 → 0 ≤ costB_0 j ∧ costB_0 j ≤ 75) (hK_0_85 : ∀ j : Int, 0 ≤ j → j < 200 → 0 ≤ costW_0 j ∧ costW_0 j ≤ 72) (hK_0_86 : ∀ j : Int, 0 ≤ j → j < 200 → 0 ≤ costPlain_0 j ∧ costPlain_0 j ≤ 1) (hK_0_87 : ∀ j : Int, 0 ≤ j → j < 200 → 0 ≤ apartA_0 j ∧ apartA_0 j ≤ 75) (hK_0_88 : ∀ j : Int, 0 ≤ j → j < 200 → 0 ≤ apartB_0 j ∧ apartB_0 j ≤ 75) (hK_0_89 : ∀ j : Int, 0 ≤ j → j < 200 → 0 ≤ apart_0 j ∧ apart_0 j ≤ 202) (hK_0_95 : ∀ j : Int, 0 ≤ j → j < 48 → 0 ≤ turned_0 j ∧ turned_0 j ≤ 1) (hK_0_102 : ∀ j : Int, 0 ≤ j → j < 76 → 0 ≤ itemLayer_0 j ∧ itemLayer_0 j ≤ 75) (hK_0_104 : ∀ j : Int, 0 ≤ j → j < 48 → 0 ≤ firstJoint_0 j ∧ firstJoint_0 j ≤ 76) (hK_0_105 : ∀ j : Int, 0 ≤ j → j < 76 → 0 ≤ layerSize_0 j ∧ layerSize_0 j ≤ 76) (hK_0_106 : ∀ j : Int, 0 ≤ j → j < 5776 → 0 ≤ layerItem_0 j ∧ layerItem_0 j ≤ 75) (hK_0_108 : ∀ j : Int, 0 ≤ j → j < 130 → 0 ≤ lineA_0 j ∧ lineA_0 j ≤ 75) (hK_0_109 : ∀ j : Int, 0 ≤ j → j < 130 → 0 ≤ lineB_0 j ∧ lineB_0 j ≤ 75) (kz_0_79 : 0 ≤ pointMany_0 ∧ pointMany_0 ≤ 76) (kz_0_80 : 0 ≤ costMany_0 ∧ costMany_0 ≤ 200) (kz_0_81 : 0 ≤ apartMany_0 ∧ apartMany_0 ≤ 200) (kz_0_100 : 0 ≤ items_0 ∧ items_0 ≤ 76) (kz_0_101 : 0 ≤ layerMany_0 ∧ layerMany_0 ≤ 76) (kz_0_107 : 0 ≤ lines_0 ∧ lines_0 ≤ 130) (ex2 : gx = apartMany_0) (ex3 : 0 ≤ gx ∧ gx ≤ 199) (ey2 : gy = x2) (ey3 : 0 ≤ gy ∧ gy ≤ 75) (eu2 : gu = x3) (eu3 : 1 ≤ gu ∧ gu ≤ 75) : 1 * gy + ((-1) * x2 + 0) ≤ 0 := by
  try simp only [Int.add_zero] at *
  first
    | omega
    | (have h := ‹LSA _ _ _ _ _ _ _ _ _ _›.2.1; omega)
    | (have h := lsa_la (p := x2) (x := x15) ‹LSA _ _ _ _ _ _ _ _ _ _› (by omega) (by omega) (by assumption); omega)
    | (have h := lsa_lb (p := x2) (x := x16) ‹LSA _ _ _ _ _ _ _ _ _ _› (by omega) (by omega) (by assumption); omega)
set_option maxHeartbeats 4000000 in
theorem vc_Mo_across2_15_1 (x2 : Int) (x3 : Int) (x5 : Int) (x7 : Int) (x8 : Int) (x9 : Int) (x10 : Int) (x11 : Int) (x12 : Int) (x13 : Int) (x14 : Int) (x15 : Int) (x16 : Int) (x17 : Int) (x18 : Int) (x19 : Int) (x20 : Int) (x21 : Int) (layerItem_0 : Int → Int) (layerSize_0 : Int → Int) (all_0 : Int → Int) (turned_0 : Int → Int) (itemLayer_0 : Int → Int) (firstJoint_0 : Int → Int) (lineA_0 : Int → Int) (lineB_0 : Int → Int) (r_0 : Int) (items_0 : Int) (layerMany_0 : Int) (lines_0 : Int) (pointMany_0 : Int) (costA_0 : Int → Int) (costB_0 : Int → Int) (costW_0 : Int → Int) (costPlain_0 : Int → Int) (costMany_0 : Int) (apartA_0 : Int → Int) (apartB_0 : Int → Int) (apart_0 : Int → Int) (apartMany_0 : Int) (gx : Int) (gy : Int) (gu : Int) (k2 : 0 ≤ x2 ∧ x2 ≤ 75) (k3 : 1 ≤ x3 ∧ x3 ≤ 75) (k5 : 2 ≤ x5 ∧ x5 ≤ 76) (k7 : 76 ≤ x7 ∧ x7 ≤ 76) (k8 : 0 ≤ x8 ∧ x8 ≤ 5700) (k9 : 1 ≤ x9 ∧ x9 ≤ 5775) (k10 : 1 ≤ x10 ∧ x10 ≤ 1) (k11 : 0 ≤ x11 ∧ x11 ≤ 5774) (k12 : 0 ≤ x12 ∧ x12 ≤ 75) (k13 : 76 ≤ x13 ∧ x13 ≤ 76) (k14 : 0 ≤ x14 ∧ x14 ≤ 5700) (k15 : 1 ≤ x15 ∧ x15 ≤ 5775) (k16 : 0 ≤ x16 ∧ x16 ≤ 75) (k17 : 0 ≤ x17 ∧ x17 ≤ 0) (k18 : 0 ≤ x18 ∧ x18 ≤ 0) (k19 : 0 ≤ x19 ∧ x19 ≤ 0) (k20 : 2 ≤ x20 ∧ x20 ≤ 2) (k21 : 2 ≤ x21 ∧ x21 ≤ 2) (d0 : x3 + 0 ≤ x15 ∧ x15 ≤ x3 + 5700) (d1 : x5 + (-4294967296) ≤ x15 ∧ x15 ≤ x5 + 5699) (d2 : x14 + 1 ≤ x15 ∧ x15 ≤ x14 + 75) (d3 : x9 + (-1) ≤ x11 ∧ x11 ≤ x9 + (-1)) (d4 : x3 + (-1) ≤ x11 ∧ x11 ≤ x3 + 5699) (d5 : x5 + (-4294967296) ≤ x11 ∧ x11 ≤ x5 + 5698) (d6 : x8 + 0 ≤ x11 ∧ x11 ≤ x8 + 74) (d7 : x3 + 0 ≤ x9 ∧ x9 ≤ x3 + 5700) (d8 : x5 + (-4294967296) ≤ x9 ∧ x9 ≤ x5 + 5699) (d9 : x8 + 1 ≤ x9 ∧ x9 ≤ x8 + 75) (d10 : x5 + (-4294967296) ≤ x3 ∧ x3 ≤ x5 + (-1)) (f0 : x21 = x19 + x20) (f1 : x19 = x17 + x18) (f2 : (0 ≤ x18) ∧ (x18 ≤ 100)) (f3 : (0 ≤ x17) ∧ (x17 ≤ 100)) (h4 : x16 = layerItem_0 (x15)) (f5 : x15 = x14 + x3) (f6 : x14 = 76 * x2) (h8 : x12 = layerItem_0 (x11)) (f9 : x11 = x9 - x10) (f10 : x9 = x8 + x3) (f11 : x8 = 76 * x2) (f12 : x3 < x5) (h13 : x5 = layerSize_0 (x2)) (f15 : LSA (r_0) (items_0) (layerMany_0) (lines_0) (all_0) (turned_0) (itemLayer_0) (firstJoint_0) (lineA_0) (lineB_0)) (f16 : LSB (items_0) (layerMany_0) (itemLayer_0) (layerSize_0) (layerItem_0)) (f17 : SGR (r_0) (all_0)) (f18 : pointMany_0 = items_0) (f19 : PCQ (pointMany_0) (costMany_0) (costA_0) (costB_0) (costW_0) (costPlain_0)) (f20 : costMany_0 ≤ 130) (f21 : PAL2 (apartMany_0) (layerMany_0) (layerSize_0) (layerItem_0) (apartA_0) (apartB_0) (apart_0) (x2) (x3)) (f22 : apartMany_0 ≤ 76) (f23 : (x2 + 1) ≤ layerMany_0) (f24 : 1 ≤ x3) (hK_0_83 : ∀ j : Int, 0 ≤ j → j < 200 → 0 ≤ costA_0 j ∧ costA_0 j ≤ 75) (hK_0_84 : ∀ j : Int, 0 ≤ j → j < 200 → 0 ≤ costB_0 j ∧ costB_0 j ≤ 75) (hK_0_85 : ∀ j : Int, 0 ≤ j → j < 200 → 0 ≤ costW_0 j ∧ costW_0 j ≤ 72) (hK_0_86 : ∀ j : Int, 0 ≤ j → j < 200 → 0 ≤ costPlain_0 j ∧ costPlain_0 j ≤ 1) (hK_0_87 : ∀ j : Int, 0 ≤ j → j < 200 → 0 ≤ apartA_0 j ∧ apartA_0 j ≤ 75) (hK_0_88 : ∀ j : Int, 0 ≤ j → j < 200 → 0 ≤ apartB_0 j ∧ apartB_0 j ≤ 75) (hK_0_89 : ∀ j : Int, 0 ≤ j → j < 200 → 0 ≤ apart_0 j ∧ apart_0 j ≤ 202) (hK_0_95 : ∀ j : Int, 0 ≤ j → j < 48 → 0 ≤ turned_0 j ∧ turned_0 j ≤ 1) (hK_0_102 : ∀ j : Int, 0 ≤ j → j < 76 → 0 ≤ itemLayer_0 j ∧ itemLayer_0 j ≤ 75) (hK_0_104 : ∀ j : Int, 0 ≤ j → j < 48 → 0 ≤ firstJoint_0 j ∧ firstJoint_0 j ≤ 76) (hK_0_105 : ∀ j : Int, 0 ≤ j → j < 76 → 0 ≤ layerSize_0 j ∧ layerSize_0 j ≤ 76) (hK_0_106 : ∀ j : Int, 0 ≤ j → j < 5776 → 0 ≤ layerItem_0 j ∧ layerItem_0 j ≤ 75) (hK_0_108 : ∀ j : Int, 0 ≤ j → j < 130 → 0 ≤ lineA_0 j ∧ lineA_0 j ≤ 75) (hK_0_109 : ∀ j : Int, 0 ≤ j → j < 130 → 0 ≤ lineB_0 j ∧ lineB_0 j ≤ 75) (kz_0_79 : 0 ≤ pointMany_0 ∧ pointMany_0 ≤ 76) (kz_0_80 : 0 ≤ costMany_0 ∧ costMany_0 ≤ 200) (kz_0_81 : 0 ≤ apartMany_0 ∧ apartMany_0 ≤ 200) (kz_0_100 : 0 ≤ items_0 ∧ items_0 ≤ 76) (kz_0_101 : 0 ≤ layerMany_0 ∧ layerMany_0 ≤ 76) (kz_0_107 : 0 ≤ lines_0 ∧ lines_0 ≤ 130) (ex2 : gx = apartMany_0) (ex3 : 0 ≤ gx ∧ gx ≤ 199) (ey2 : gy = x2) (ey3 : 0 ≤ gy ∧ gy ≤ 75) (eu2 : gu = x3) (eu3 : 1 ≤ gu ∧ gu ≤ 75) : (-1) * gy + (1 * x2 + 0) ≤ 0 := by
  try simp only [Int.add_zero] at *
  first
    | omega
    | (have h := ‹LSA _ _ _ _ _ _ _ _ _ _›.2.1; omega)
    | (have h := lsa_la (p := x2) (x := x15) ‹LSA _ _ _ _ _ _ _ _ _ _› (by omega) (by omega) (by assumption); omega)
    | (have h := lsa_lb (p := x2) (x := x16) ‹LSA _ _ _ _ _ _ _ _ _ _› (by omega) (by omega) (by assumption); omega)
set_option maxHeartbeats 4000000 in
theorem vc_Mo_across2_15_2 (x2 : Int) (x3 : Int) (x5 : Int) (x7 : Int) (x8 : Int) (x9 : Int) (x10 : Int) (x11 : Int) (x12 : Int) (x13 : Int) (x14 : Int) (x15 : Int) (x16 : Int) (x17 : Int) (x18 : Int) (x19 : Int) (x20 : Int) (x21 : Int) (layerItem_0 : Int → Int) (layerSize_0 : Int → Int) (all_0 : Int → Int) (turned_0 : Int → Int) (itemLayer_0 : Int → Int) (firstJoint_0 : Int → Int) (lineA_0 : Int → Int) (lineB_0 : Int → Int) (r_0 : Int) (items_0 : Int) (layerMany_0 : Int) (lines_0 : Int) (pointMany_0 : Int) (costA_0 : Int → Int) (costB_0 : Int → Int) (costW_0 : Int → Int) (costPlain_0 : Int → Int) (costMany_0 : Int) (apartA_0 : Int → Int) (apartB_0 : Int → Int) (apart_0 : Int → Int) (apartMany_0 : Int) (gx : Int) (gy : Int) (gu : Int) (k2 : 0 ≤ x2 ∧ x2 ≤ 75) (k3 : 1 ≤ x3 ∧ x3 ≤ 75) (k5 : 2 ≤ x5 ∧ x5 ≤ 76) (k7 : 76 ≤ x7 ∧ x7 ≤ 76) (k8 : 0 ≤ x8 ∧ x8 ≤ 5700) (k9 : 1 ≤ x9 ∧ x9 ≤ 5775) (k10 : 1 ≤ x10 ∧ x10 ≤ 1) (k11 : 0 ≤ x11 ∧ x11 ≤ 5774) (k12 : 0 ≤ x12 ∧ x12 ≤ 75) (k13 : 76 ≤ x13 ∧ x13 ≤ 76) (k14 : 0 ≤ x14 ∧ x14 ≤ 5700) (k15 : 1 ≤ x15 ∧ x15 ≤ 5775) (k16 : 0 ≤ x16 ∧ x16 ≤ 75) (k17 : 0 ≤ x17 ∧ x17 ≤ 0) (k18 : 0 ≤ x18 ∧ x18 ≤ 0) (k19 : 0 ≤ x19 ∧ x19 ≤ 0) (k20 : 2 ≤ x20 ∧ x20 ≤ 2) (k21 : 2 ≤ x21 ∧ x21 ≤ 2) (d0 : x3 + 0 ≤ x15 ∧ x15 ≤ x3 + 5700) (d1 : x5 + (-4294967296) ≤ x15 ∧ x15 ≤ x5 + 5699) (d2 : x14 + 1 ≤ x15 ∧ x15 ≤ x14 + 75) (d3 : x9 + (-1) ≤ x11 ∧ x11 ≤ x9 + (-1)) (d4 : x3 + (-1) ≤ x11 ∧ x11 ≤ x3 + 5699) (d5 : x5 + (-4294967296) ≤ x11 ∧ x11 ≤ x5 + 5698) (d6 : x8 + 0 ≤ x11 ∧ x11 ≤ x8 + 74) (d7 : x3 + 0 ≤ x9 ∧ x9 ≤ x3 + 5700) (d8 : x5 + (-4294967296) ≤ x9 ∧ x9 ≤ x5 + 5699) (d9 : x8 + 1 ≤ x9 ∧ x9 ≤ x8 + 75) (d10 : x5 + (-4294967296) ≤ x3 ∧ x3 ≤ x5 + (-1)) (f0 : x21 = x19 + x20) (f1 : x19 = x17 + x18) (f2 : (0 ≤ x18) ∧ (x18 ≤ 100)) (f3 : (0 ≤ x17) ∧ (x17 ≤ 100)) (h4 : x16 = layerItem_0 (x15)) (f5 : x15 = x14 + x3) (f6 : x14 = 76 * x2) (h8 : x12 = layerItem_0 (x11)) (f9 : x11 = x9 - x10) (f10 : x9 = x8 + x3) (f11 : x8 = 76 * x2) (f12 : x3 < x5) (h13 : x5 = layerSize_0 (x2)) (f15 : LSA (r_0) (items_0) (layerMany_0) (lines_0) (all_0) (turned_0) (itemLayer_0) (firstJoint_0) (lineA_0) (lineB_0)) (f16 : LSB (items_0) (layerMany_0) (itemLayer_0) (layerSize_0) (layerItem_0)) (f17 : SGR (r_0) (all_0)) (f18 : pointMany_0 = items_0) (f19 : PCQ (pointMany_0) (costMany_0) (costA_0) (costB_0) (costW_0) (costPlain_0)) (f20 : costMany_0 ≤ 130) (f21 : PAL2 (apartMany_0) (layerMany_0) (layerSize_0) (layerItem_0) (apartA_0) (apartB_0) (apart_0) (x2) (x3)) (f22 : apartMany_0 ≤ 76) (f23 : (x2 + 1) ≤ layerMany_0) (f24 : 1 ≤ x3) (hK_0_83 : ∀ j : Int, 0 ≤ j → j < 200 → 0 ≤ costA_0 j ∧ costA_0 j ≤ 75) (hK_0_84 : ∀ j : Int, 0 ≤ j → j < 200 → 0 ≤ costB_0 j ∧ costB_0 j ≤ 75) (hK_0_85 : ∀ j : Int, 0 ≤ j → j < 200 → 0 ≤ costW_0 j ∧ costW_0 j ≤ 72) (hK_0_86 : ∀ j : Int, 0 ≤ j → j < 200 → 0 ≤ costPlain_0 j ∧ costPlain_0 j ≤ 1) (hK_0_87 : ∀ j : Int, 0 ≤ j → j < 200 → 0 ≤ apartA_0 j ∧ apartA_0 j ≤ 75) (hK_0_88 : ∀ j : Int, 0 ≤ j → j < 200 → 0 ≤ apartB_0 j ∧ apartB_0 j ≤ 75) (hK_0_89 : ∀ j : Int, 0 ≤ j → j < 200 → 0 ≤ apart_0 j ∧ apart_0 j ≤ 202) (hK_0_95 : ∀ j : Int, 0 ≤ j → j < 48 → 0 ≤ turned_0 j ∧ turned_0 j ≤ 1) (hK_0_102 : ∀ j : Int, 0 ≤ j → j < 76 → 0 ≤ itemLayer_0 j ∧ itemLayer_0 j ≤ 75) (hK_0_104 : ∀ j : Int, 0 ≤ j → j < 48 → 0 ≤ firstJoint_0 j ∧ firstJoint_0 j ≤ 76) (hK_0_105 : ∀ j : Int, 0 ≤ j → j < 76 → 0 ≤ layerSize_0 j ∧ layerSize_0 j ≤ 76) (hK_0_106 : ∀ j : Int, 0 ≤ j → j < 5776 → 0 ≤ layerItem_0 j ∧ layerItem_0 j ≤ 75) (hK_0_108 : ∀ j : Int, 0 ≤ j → j < 130 → 0 ≤ lineA_0 j ∧ lineA_0 j ≤ 75) (hK_0_109 : ∀ j : Int, 0 ≤ j → j < 130 → 0 ≤ lineB_0 j ∧ lineB_0 j ≤ 75) (kz_0_79 : 0 ≤ pointMany_0 ∧ pointMany_0 ≤ 76) (kz_0_80 : 0 ≤ costMany_0 ∧ costMany_0 ≤ 200) (kz_0_81 : 0 ≤ apartMany_0 ∧ apartMany_0 ≤ 200) (kz_0_100 : 0 ≤ items_0 ∧ items_0 ≤ 76) (kz_0_101 : 0 ≤ layerMany_0 ∧ layerMany_0 ≤ 76) (kz_0_107 : 0 ≤ lines_0 ∧ lines_0 ≤ 130) (ex2 : gx = apartMany_0) (ex3 : 0 ≤ gx ∧ gx ≤ 199) (ey2 : gy = x2) (ey3 : 0 ≤ gy ∧ gy ≤ 75) (eu2 : gu = x3) (eu3 : 1 ≤ gu ∧ gu ≤ 75) : 1 * gu + ((-1) * x3 + 0) ≤ 0 := by
  try simp only [Int.add_zero] at *
  first
    | omega
    | (have h := ‹LSA _ _ _ _ _ _ _ _ _ _›.2.1; omega)
    | (have h := lsa_la (p := x2) (x := x15) ‹LSA _ _ _ _ _ _ _ _ _ _› (by omega) (by omega) (by assumption); omega)
    | (have h := lsa_lb (p := x2) (x := x16) ‹LSA _ _ _ _ _ _ _ _ _ _› (by omega) (by omega) (by assumption); omega)
set_option maxHeartbeats 4000000 in
theorem vc_Mo_across2_15_3 (x2 : Int) (x3 : Int) (x5 : Int) (x7 : Int) (x8 : Int) (x9 : Int) (x10 : Int) (x11 : Int) (x12 : Int) (x13 : Int) (x14 : Int) (x15 : Int) (x16 : Int) (x17 : Int) (x18 : Int) (x19 : Int) (x20 : Int) (x21 : Int) (layerItem_0 : Int → Int) (layerSize_0 : Int → Int) (all_0 : Int → Int) (turned_0 : Int → Int) (itemLayer_0 : Int → Int) (firstJoint_0 : Int → Int) (lineA_0 : Int → Int) (lineB_0 : Int → Int) (r_0 : Int) (items_0 : Int) (layerMany_0 : Int) (lines_0 : Int) (pointMany_0 : Int) (costA_0 : Int → Int) (costB_0 : Int → Int) (costW_0 : Int → Int) (costPlain_0 : Int → Int) (costMany_0 : Int) (apartA_0 : Int → Int) (apartB_0 : Int → Int) (apart_0 : Int → Int) (apartMany_0 : Int) (gx : Int) (gy : Int) (gu : Int) (k2 : 0 ≤ x2 ∧ x2 ≤ 75) (k3 : 1 ≤ x3 ∧ x3 ≤ 75) (k5 : 2 ≤ x5 ∧ x5 ≤ 76) (k7 : 76 ≤ x7 ∧ x7 ≤ 76) (k8 : 0 ≤ x8 ∧ x8 ≤ 5700) (k9 : 1 ≤ x9 ∧ x9 ≤ 5775) (k10 : 1 ≤ x10 ∧ x10 ≤ 1) (k11 : 0 ≤ x11 ∧ x11 ≤ 5774) (k12 : 0 ≤ x12 ∧ x12 ≤ 75) (k13 : 76 ≤ x13 ∧ x13 ≤ 76) (k14 : 0 ≤ x14 ∧ x14 ≤ 5700) (k15 : 1 ≤ x15 ∧ x15 ≤ 5775) (k16 : 0 ≤ x16 ∧ x16 ≤ 75) (k17 : 0 ≤ x17 ∧ x17 ≤ 0) (k18 : 0 ≤ x18 ∧ x18 ≤ 0) (k19 : 0 ≤ x19 ∧ x19 ≤ 0) (k20 : 2 ≤ x20 ∧ x20 ≤ 2) (k21 : 2 ≤ x21 ∧ x21 ≤ 2) (d0 : x3 + 0 ≤ x15 ∧ x15 ≤ x3 + 5700) (d1 : x5 + (-4294967296) ≤ x15 ∧ x15 ≤ x5 + 5699) (d2 : x14 + 1 ≤ x15 ∧ x15 ≤ x14 + 75) (d3 : x9 + (-1) ≤ x11 ∧ x11 ≤ x9 + (-1)) (d4 : x3 + (-1) ≤ x11 ∧ x11 ≤ x3 + 5699) (d5 : x5 + (-4294967296) ≤ x11 ∧ x11 ≤ x5 + 5698) (d6 : x8 + 0 ≤ x11 ∧ x11 ≤ x8 + 74) (d7 : x3 + 0 ≤ x9 ∧ x9 ≤ x3 + 5700) (d8 : x5 + (-4294967296) ≤ x9 ∧ x9 ≤ x5 + 5699) (d9 : x8 + 1 ≤ x9 ∧ x9 ≤ x8 + 75) (d10 : x5 + (-4294967296) ≤ x3 ∧ x3 ≤ x5 + (-1)) (f0 : x21 = x19 + x20) (f1 : x19 = x17 + x18) (f2 : (0 ≤ x18) ∧ (x18 ≤ 100)) (f3 : (0 ≤ x17) ∧ (x17 ≤ 100)) (h4 : x16 = layerItem_0 (x15)) (f5 : x15 = x14 + x3) (f6 : x14 = 76 * x2) (h8 : x12 = layerItem_0 (x11)) (f9 : x11 = x9 - x10) (f10 : x9 = x8 + x3) (f11 : x8 = 76 * x2) (f12 : x3 < x5) (h13 : x5 = layerSize_0 (x2)) (f15 : LSA (r_0) (items_0) (layerMany_0) (lines_0) (all_0) (turned_0) (itemLayer_0) (firstJoint_0) (lineA_0) (lineB_0)) (f16 : LSB (items_0) (layerMany_0) (itemLayer_0) (layerSize_0) (layerItem_0)) (f17 : SGR (r_0) (all_0)) (f18 : pointMany_0 = items_0) (f19 : PCQ (pointMany_0) (costMany_0) (costA_0) (costB_0) (costW_0) (costPlain_0)) (f20 : costMany_0 ≤ 130) (f21 : PAL2 (apartMany_0) (layerMany_0) (layerSize_0) (layerItem_0) (apartA_0) (apartB_0) (apart_0) (x2) (x3)) (f22 : apartMany_0 ≤ 76) (f23 : (x2 + 1) ≤ layerMany_0) (f24 : 1 ≤ x3) (hK_0_83 : ∀ j : Int, 0 ≤ j → j < 200 → 0 ≤ costA_0 j ∧ costA_0 j ≤ 75) (hK_0_84 : ∀ j : Int, 0 ≤ j → j < 200 → 0 ≤ costB_0 j ∧ costB_0 j ≤ 75) (hK_0_85 : ∀ j : Int, 0 ≤ j → j < 200 → 0 ≤ costW_0 j ∧ costW_0 j ≤ 72) (hK_0_86 : ∀ j : Int, 0 ≤ j → j < 200 → 0 ≤ costPlain_0 j ∧ costPlain_0 j ≤ 1) (hK_0_87 : ∀ j : Int, 0 ≤ j → j < 200 → 0 ≤ apartA_0 j ∧ apartA_0 j ≤ 75) (hK_0_88 : ∀ j : Int, 0 ≤ j → j < 200 → 0 ≤ apartB_0 j ∧ apartB_0 j ≤ 75) (hK_0_89 : ∀ j : Int, 0 ≤ j → j < 200 → 0 ≤ apart_0 j ∧ apart_0 j ≤ 202) (hK_0_95 : ∀ j : Int, 0 ≤ j → j < 48 → 0 ≤ turned_0 j ∧ turned_0 j ≤ 1) (hK_0_102 : ∀ j : Int, 0 ≤ j → j < 76 → 0 ≤ itemLayer_0 j ∧ itemLayer_0 j ≤ 75) (hK_0_104 : ∀ j : Int, 0 ≤ j → j < 48 → 0 ≤ firstJoint_0 j ∧ firstJoint_0 j ≤ 76) (hK_0_105 : ∀ j : Int, 0 ≤ j → j < 76 → 0 ≤ layerSize_0 j ∧ layerSize_0 j ≤ 76) (hK_0_106 : ∀ j : Int, 0 ≤ j → j < 5776 → 0 ≤ layerItem_0 j ∧ layerItem_0 j ≤ 75) (hK_0_108 : ∀ j : Int, 0 ≤ j → j < 130 → 0 ≤ lineA_0 j ∧ lineA_0 j ≤ 75) (hK_0_109 : ∀ j : Int, 0 ≤ j → j < 130 → 0 ≤ lineB_0 j ∧ lineB_0 j ≤ 75) (kz_0_79 : 0 ≤ pointMany_0 ∧ pointMany_0 ≤ 76) (kz_0_80 : 0 ≤ costMany_0 ∧ costMany_0 ≤ 200) (kz_0_81 : 0 ≤ apartMany_0 ∧ apartMany_0 ≤ 200) (kz_0_100 : 0 ≤ items_0 ∧ items_0 ≤ 76) (kz_0_101 : 0 ≤ layerMany_0 ∧ layerMany_0 ≤ 76) (kz_0_107 : 0 ≤ lines_0 ∧ lines_0 ≤ 130) (ex2 : gx = apartMany_0) (ex3 : 0 ≤ gx ∧ gx ≤ 199) (ey2 : gy = x2) (ey3 : 0 ≤ gy ∧ gy ≤ 75) (eu2 : gu = x3) (eu3 : 1 ≤ gu ∧ gu ≤ 75) : (-1) * gu + (1 * x3 + 0) ≤ 0 := by
  try simp only [Int.add_zero] at *
  first
    | omega
    | (have h := ‹LSA _ _ _ _ _ _ _ _ _ _›.2.1; omega)
    | (have h := lsa_la (p := x2) (x := x15) ‹LSA _ _ _ _ _ _ _ _ _ _› (by omega) (by omega) (by assumption); omega)
    | (have h := lsa_lb (p := x2) (x := x16) ‹LSA _ _ _ _ _ _ _ _ _ _› (by omega) (by omega) (by assumption); omega)
set_option maxHeartbeats 4000000 in
theorem vc_Mo_across2_15_4 (x2 : Int) (x3 : Int) (x5 : Int) (x7 : Int) (x8 : Int) (x9 : Int) (x10 : Int) (x11 : Int) (x12 : Int) (x13 : Int) (x14 : Int) (x15 : Int) (x16 : Int) (x17 : Int) (x18 : Int) (x19 : Int) (x20 : Int) (x21 : Int) (layerItem_0 : Int → Int) (layerSize_0 : Int → Int) (all_0 : Int → Int) (turned_0 : Int → Int) (itemLayer_0 : Int → Int) (firstJoint_0 : Int → Int) (lineA_0 : Int → Int) (lineB_0 : Int → Int) (r_0 : Int) (items_0 : Int) (layerMany_0 : Int) (lines_0 : Int) (pointMany_0 : Int) (costA_0 : Int → Int) (costB_0 : Int → Int) (costW_0 : Int → Int) (costPlain_0 : Int → Int) (costMany_0 : Int) (apartA_0 : Int → Int) (apartB_0 : Int → Int) (apart_0 : Int → Int) (apartMany_0 : Int) (gx : Int) (gy : Int) (gu : Int) (k2 : 0 ≤ x2 ∧ x2 ≤ 75) (k3 : 1 ≤ x3 ∧ x3 ≤ 75) (k5 : 2 ≤ x5 ∧ x5 ≤ 76) (k7 : 76 ≤ x7 ∧ x7 ≤ 76) (k8 : 0 ≤ x8 ∧ x8 ≤ 5700) (k9 : 1 ≤ x9 ∧ x9 ≤ 5775) (k10 : 1 ≤ x10 ∧ x10 ≤ 1) (k11 : 0 ≤ x11 ∧ x11 ≤ 5774) (k12 : 0 ≤ x12 ∧ x12 ≤ 75) (k13 : 76 ≤ x13 ∧ x13 ≤ 76) (k14 : 0 ≤ x14 ∧ x14 ≤ 5700) (k15 : 1 ≤ x15 ∧ x15 ≤ 5775) (k16 : 0 ≤ x16 ∧ x16 ≤ 75) (k17 : 0 ≤ x17 ∧ x17 ≤ 0) (k18 : 0 ≤ x18 ∧ x18 ≤ 0) (k19 : 0 ≤ x19 ∧ x19 ≤ 0) (k20 : 2 ≤ x20 ∧ x20 ≤ 2) (k21 : 2 ≤ x21 ∧ x21 ≤ 2) (d0 : x3 + 0 ≤ x15 ∧ x15 ≤ x3 + 5700) (d1 : x5 + (-4294967296) ≤ x15 ∧ x15 ≤ x5 + 5699) (d2 : x14 + 1 ≤ x15 ∧ x15 ≤ x14 + 75) (d3 : x9 + (-1) ≤ x11 ∧ x11 ≤ x9 + (-1)) (d4 : x3 + (-1) ≤ x11 ∧ x11 ≤ x3 + 5699) (d5 : x5 + (-4294967296) ≤ x11 ∧ x11 ≤ x5 + 5698) (d6 : x8 + 0 ≤ x11 ∧ x11 ≤ x8 + 74) (d7 : x3 + 0 ≤ x9 ∧ x9 ≤ x3 + 5700) (d8 : x5 + (-4294967296) ≤ x9 ∧ x9 ≤ x5 + 5699) (d9 : x8 + 1 ≤ x9 ∧ x9 ≤ x8 + 75) (d10 : x5 + (-4294967296) ≤ x3 ∧ x3 ≤ x5 + (-1)) (f0 : x21 = x19 + x20) (f1 : x19 = x17 + x18) (f2 : (0 ≤ x18) ∧ (x18 ≤ 100)) (f3 : (0 ≤ x17) ∧ (x17 ≤ 100)) (h4 : x16 = layerItem_0 (x15)) (f5 : x15 = x14 + x3) (f6 : x14 = 76 * x2) (h8 : x12 = layerItem_0 (x11)) (f9 : x11 = x9 - x10) (f10 : x9 = x8 + x3) (f11 : x8 = 76 * x2) (f12 : x3 < x5) (h13 : x5 = layerSize_0 (x2)) (f15 : LSA (r_0) (items_0) (layerMany_0) (lines_0) (all_0) (turned_0) (itemLayer_0) (firstJoint_0) (lineA_0) (lineB_0)) (f16 : LSB (items_0) (layerMany_0) (itemLayer_0) (layerSize_0) (layerItem_0)) (f17 : SGR (r_0) (all_0)) (f18 : pointMany_0 = items_0) (f19 : PCQ (pointMany_0) (costMany_0) (costA_0) (costB_0) (costW_0) (costPlain_0)) (f20 : costMany_0 ≤ 130) (f21 : PAL2 (apartMany_0) (layerMany_0) (layerSize_0) (layerItem_0) (apartA_0) (apartB_0) (apart_0) (x2) (x3)) (f22 : apartMany_0 ≤ 76) (f23 : (x2 + 1) ≤ layerMany_0) (f24 : 1 ≤ x3) (hK_0_83 : ∀ j : Int, 0 ≤ j → j < 200 → 0 ≤ costA_0 j ∧ costA_0 j ≤ 75) (hK_0_84 : ∀ j : Int, 0 ≤ j → j < 200 → 0 ≤ costB_0 j ∧ costB_0 j ≤ 75) (hK_0_85 : ∀ j : Int, 0 ≤ j → j < 200 → 0 ≤ costW_0 j ∧ costW_0 j ≤ 72) (hK_0_86 : ∀ j : Int, 0 ≤ j → j < 200 → 0 ≤ costPlain_0 j ∧ costPlain_0 j ≤ 1) (hK_0_87 : ∀ j : Int, 0 ≤ j → j < 200 → 0 ≤ apartA_0 j ∧ apartA_0 j ≤ 75) (hK_0_88 : ∀ j : Int, 0 ≤ j → j < 200 → 0 ≤ apartB_0 j ∧ apartB_0 j ≤ 75) (hK_0_89 : ∀ j : Int, 0 ≤ j → j < 200 → 0 ≤ apart_0 j ∧ apart_0 j ≤ 202) (hK_0_95 : ∀ j : Int, 0 ≤ j → j < 48 → 0 ≤ turned_0 j ∧ turned_0 j ≤ 1) (hK_0_102 : ∀ j : Int, 0 ≤ j → j < 76 → 0 ≤ itemLayer_0 j ∧ itemLayer_0 j ≤ 75) (hK_0_104 : ∀ j : Int, 0 ≤ j → j < 48 → 0 ≤ firstJoint_0 j ∧ firstJoint_0 j ≤ 76) (hK_0_105 : ∀ j : Int, 0 ≤ j → j < 76 → 0 ≤ layerSize_0 j ∧ layerSize_0 j ≤ 76) (hK_0_106 : ∀ j : Int, 0 ≤ j → j < 5776 → 0 ≤ layerItem_0 j ∧ layerItem_0 j ≤ 75) (hK_0_108 : ∀ j : Int, 0 ≤ j → j < 130 → 0 ≤ lineA_0 j ∧ lineA_0 j ≤ 75) (hK_0_109 : ∀ j : Int, 0 ≤ j → j < 130 → 0 ≤ lineB_0 j ∧ lineB_0 j ≤ 75) (kz_0_79 : 0 ≤ pointMany_0 ∧ pointMany_0 ≤ 76) (kz_0_80 : 0 ≤ costMany_0 ∧ costMany_0 ≤ 200) (kz_0_81 : 0 ≤ apartMany_0 ∧ apartMany_0 ≤ 200) (kz_0_100 : 0 ≤ items_0 ∧ items_0 ≤ 76) (kz_0_101 : 0 ≤ layerMany_0 ∧ layerMany_0 ≤ 76) (kz_0_107 : 0 ≤ lines_0 ∧ lines_0 ≤ 130) (ex2 : gx = apartMany_0) (ex3 : 0 ≤ gx ∧ gx ≤ 199) (ey2 : gy = x2) (ey3 : 0 ≤ gy ∧ gy ≤ 75) (eu2 : gu = x3) (eu3 : 1 ≤ gu ∧ gu ≤ 75) : apartMany_0 = gx := by
  try simp only [Int.add_zero] at *
  first
    | omega
    | (have h := ‹LSA _ _ _ _ _ _ _ _ _ _›.2.1; omega)
    | (have h := lsa_la (p := x2) (x := x15) ‹LSA _ _ _ _ _ _ _ _ _ _› (by omega) (by omega) (by assumption); omega)
    | (have h := lsa_lb (p := x2) (x := x16) ‹LSA _ _ _ _ _ _ _ _ _ _› (by omega) (by omega) (by assumption); omega)
set_option maxHeartbeats 4000000 in
theorem vc_Mo_across2_15_5 (x2 : Int) (x3 : Int) (x5 : Int) (x7 : Int) (x8 : Int) (x9 : Int) (x10 : Int) (x11 : Int) (x12 : Int) (x13 : Int) (x14 : Int) (x15 : Int) (x16 : Int) (x17 : Int) (x18 : Int) (x19 : Int) (x20 : Int) (x21 : Int) (layerItem_0 : Int → Int) (layerSize_0 : Int → Int) (all_0 : Int → Int) (turned_0 : Int → Int) (itemLayer_0 : Int → Int) (firstJoint_0 : Int → Int) (lineA_0 : Int → Int) (lineB_0 : Int → Int) (r_0 : Int) (items_0 : Int) (layerMany_0 : Int) (lines_0 : Int) (pointMany_0 : Int) (costA_0 : Int → Int) (costB_0 : Int → Int) (costW_0 : Int → Int) (costPlain_0 : Int → Int) (costMany_0 : Int) (apartA_0 : Int → Int) (apartB_0 : Int → Int) (apart_0 : Int → Int) (apartMany_0 : Int) (gx : Int) (gy : Int) (gu : Int) (k2 : 0 ≤ x2 ∧ x2 ≤ 75) (k3 : 1 ≤ x3 ∧ x3 ≤ 75) (k5 : 2 ≤ x5 ∧ x5 ≤ 76) (k7 : 76 ≤ x7 ∧ x7 ≤ 76) (k8 : 0 ≤ x8 ∧ x8 ≤ 5700) (k9 : 1 ≤ x9 ∧ x9 ≤ 5775) (k10 : 1 ≤ x10 ∧ x10 ≤ 1) (k11 : 0 ≤ x11 ∧ x11 ≤ 5774) (k12 : 0 ≤ x12 ∧ x12 ≤ 75) (k13 : 76 ≤ x13 ∧ x13 ≤ 76) (k14 : 0 ≤ x14 ∧ x14 ≤ 5700) (k15 : 1 ≤ x15 ∧ x15 ≤ 5775) (k16 : 0 ≤ x16 ∧ x16 ≤ 75) (k17 : 0 ≤ x17 ∧ x17 ≤ 0) (k18 : 0 ≤ x18 ∧ x18 ≤ 0) (k19 : 0 ≤ x19 ∧ x19 ≤ 0) (k20 : 2 ≤ x20 ∧ x20 ≤ 2) (k21 : 2 ≤ x21 ∧ x21 ≤ 2) (d0 : x3 + 0 ≤ x15 ∧ x15 ≤ x3 + 5700) (d1 : x5 + (-4294967296) ≤ x15 ∧ x15 ≤ x5 + 5699) (d2 : x14 + 1 ≤ x15 ∧ x15 ≤ x14 + 75) (d3 : x9 + (-1) ≤ x11 ∧ x11 ≤ x9 + (-1)) (d4 : x3 + (-1) ≤ x11 ∧ x11 ≤ x3 + 5699) (d5 : x5 + (-4294967296) ≤ x11 ∧ x11 ≤ x5 + 5698) (d6 : x8 + 0 ≤ x11 ∧ x11 ≤ x8 + 74) (d7 : x3 + 0 ≤ x9 ∧ x9 ≤ x3 + 5700) (d8 : x5 + (-4294967296) ≤ x9 ∧ x9 ≤ x5 + 5699) (d9 : x8 + 1 ≤ x9 ∧ x9 ≤ x8 + 75) (d10 : x5 + (-4294967296) ≤ x3 ∧ x3 ≤ x5 + (-1)) (f0 : x21 = x19 + x20) (f1 : x19 = x17 + x18) (f2 : (0 ≤ x18) ∧ (x18 ≤ 100)) (f3 : (0 ≤ x17) ∧ (x17 ≤ 100)) (h4 : x16 = layerItem_0 (x15)) (f5 : x15 = x14 + x3) (f6 : x14 = 76 * x2) (h8 : x12 = layerItem_0 (x11)) (f9 : x11 = x9 - x10) (f10 : x9 = x8 + x3) (f11 : x8 = 76 * x2) (f12 : x3 < x5) (h13 : x5 = layerSize_0 (x2)) (f15 : LSA (r_0) (items_0) (layerMany_0) (lines_0) (all_0) (turned_0) (itemLayer_0) (firstJoint_0) (lineA_0) (lineB_0)) (f16 : LSB (items_0) (layerMany_0) (itemLayer_0) (layerSize_0) (layerItem_0)) (f17 : SGR (r_0) (all_0)) (f18 : pointMany_0 = items_0) (f19 : PCQ (pointMany_0) (costMany_0) (costA_0) (costB_0) (costW_0) (costPlain_0)) (f20 : costMany_0 ≤ 130) (f21 : PAL2 (apartMany_0) (layerMany_0) (layerSize_0) (layerItem_0) (apartA_0) (apartB_0) (apart_0) (x2) (x3)) (f22 : apartMany_0 ≤ 76) (f23 : (x2 + 1) ≤ layerMany_0) (f24 : 1 ≤ x3) (hK_0_83 : ∀ j : Int, 0 ≤ j → j < 200 → 0 ≤ costA_0 j ∧ costA_0 j ≤ 75) (hK_0_84 : ∀ j : Int, 0 ≤ j → j < 200 → 0 ≤ costB_0 j ∧ costB_0 j ≤ 75) (hK_0_85 : ∀ j : Int, 0 ≤ j → j < 200 → 0 ≤ costW_0 j ∧ costW_0 j ≤ 72) (hK_0_86 : ∀ j : Int, 0 ≤ j → j < 200 → 0 ≤ costPlain_0 j ∧ costPlain_0 j ≤ 1) (hK_0_87 : ∀ j : Int, 0 ≤ j → j < 200 → 0 ≤ apartA_0 j ∧ apartA_0 j ≤ 75) (hK_0_88 : ∀ j : Int, 0 ≤ j → j < 200 → 0 ≤ apartB_0 j ∧ apartB_0 j ≤ 75) (hK_0_89 : ∀ j : Int, 0 ≤ j → j < 200 → 0 ≤ apart_0 j ∧ apart_0 j ≤ 202) (hK_0_95 : ∀ j : Int, 0 ≤ j → j < 48 → 0 ≤ turned_0 j ∧ turned_0 j ≤ 1) (hK_0_102 : ∀ j : Int, 0 ≤ j → j < 76 → 0 ≤ itemLayer_0 j ∧ itemLayer_0 j ≤ 75) (hK_0_104 : ∀ j : Int, 0 ≤ j → j < 48 → 0 ≤ firstJoint_0 j ∧ firstJoint_0 j ≤ 76) (hK_0_105 : ∀ j : Int, 0 ≤ j → j < 76 → 0 ≤ layerSize_0 j ∧ layerSize_0 j ≤ 76) (hK_0_106 : ∀ j : Int, 0 ≤ j → j < 5776 → 0 ≤ layerItem_0 j ∧ layerItem_0 j ≤ 75) (hK_0_108 : ∀ j : Int, 0 ≤ j → j < 130 → 0 ≤ lineA_0 j ∧ lineA_0 j ≤ 75) (hK_0_109 : ∀ j : Int, 0 ≤ j → j < 130 → 0 ≤ lineB_0 j ∧ lineB_0 j ≤ 75) (kz_0_79 : 0 ≤ pointMany_0 ∧ pointMany_0 ≤ 76) (kz_0_80 : 0 ≤ costMany_0 ∧ costMany_0 ≤ 200) (kz_0_81 : 0 ≤ apartMany_0 ∧ apartMany_0 ≤ 200) (kz_0_100 : 0 ≤ items_0 ∧ items_0 ≤ 76) (kz_0_101 : 0 ≤ layerMany_0 ∧ layerMany_0 ≤ 76) (kz_0_107 : 0 ≤ lines_0 ∧ lines_0 ≤ 130) (ex2 : gx = apartMany_0) (ex3 : 0 ≤ gx ∧ gx ≤ 199) (ey2 : gy = x2) (ey3 : 0 ≤ gy ∧ gy ≤ 75) (eu2 : gu = x3) (eu3 : 1 ≤ gu ∧ gu ≤ 75) : PAL2 (apartMany_0) (layerMany_0) (layerSize_0) (layerItem_0) (apartA_0) (apartB_0) (apart_0) (gy) (gu) := by
  rw [ey2, eu2]; assumption
set_option maxHeartbeats 4000000 in
theorem vc_Mo_across2_15_6 (x2 : Int) (x3 : Int) (x5 : Int) (x7 : Int) (x8 : Int) (x9 : Int) (x10 : Int) (x11 : Int) (x12 : Int) (x13 : Int) (x14 : Int) (x15 : Int) (x16 : Int) (x17 : Int) (x18 : Int) (x19 : Int) (x20 : Int) (x21 : Int) (layerItem_0 : Int → Int) (layerSize_0 : Int → Int) (all_0 : Int → Int) (turned_0 : Int → Int) (itemLayer_0 : Int → Int) (firstJoint_0 : Int → Int) (lineA_0 : Int → Int) (lineB_0 : Int → Int) (r_0 : Int) (items_0 : Int) (layerMany_0 : Int) (lines_0 : Int) (pointMany_0 : Int) (costA_0 : Int → Int) (costB_0 : Int → Int) (costW_0 : Int → Int) (costPlain_0 : Int → Int) (costMany_0 : Int) (apartA_0 : Int → Int) (apartB_0 : Int → Int) (apart_0 : Int → Int) (apartMany_0 : Int) (gx : Int) (gy : Int) (gu : Int) (k2 : 0 ≤ x2 ∧ x2 ≤ 75) (k3 : 1 ≤ x3 ∧ x3 ≤ 75) (k5 : 2 ≤ x5 ∧ x5 ≤ 76) (k7 : 76 ≤ x7 ∧ x7 ≤ 76) (k8 : 0 ≤ x8 ∧ x8 ≤ 5700) (k9 : 1 ≤ x9 ∧ x9 ≤ 5775) (k10 : 1 ≤ x10 ∧ x10 ≤ 1) (k11 : 0 ≤ x11 ∧ x11 ≤ 5774) (k12 : 0 ≤ x12 ∧ x12 ≤ 75) (k13 : 76 ≤ x13 ∧ x13 ≤ 76) (k14 : 0 ≤ x14 ∧ x14 ≤ 5700) (k15 : 1 ≤ x15 ∧ x15 ≤ 5775) (k16 : 0 ≤ x16 ∧ x16 ≤ 75) (k17 : 0 ≤ x17 ∧ x17 ≤ 0) (k18 : 0 ≤ x18 ∧ x18 ≤ 0) (k19 : 0 ≤ x19 ∧ x19 ≤ 0) (k20 : 2 ≤ x20 ∧ x20 ≤ 2) (k21 : 2 ≤ x21 ∧ x21 ≤ 2) (d0 : x3 + 0 ≤ x15 ∧ x15 ≤ x3 + 5700) (d1 : x5 + (-4294967296) ≤ x15 ∧ x15 ≤ x5 + 5699) (d2 : x14 + 1 ≤ x15 ∧ x15 ≤ x14 + 75) (d3 : x9 + (-1) ≤ x11 ∧ x11 ≤ x9 + (-1)) (d4 : x3 + (-1) ≤ x11 ∧ x11 ≤ x3 + 5699) (d5 : x5 + (-4294967296) ≤ x11 ∧ x11 ≤ x5 + 5698) (d6 : x8 + 0 ≤ x11 ∧ x11 ≤ x8 + 74) (d7 : x3 + 0 ≤ x9 ∧ x9 ≤ x3 + 5700) (d8 : x5 + (-4294967296) ≤ x9 ∧ x9 ≤ x5 + 5699) (d9 : x8 + 1 ≤ x9 ∧ x9 ≤ x8 + 75) (d10 : x5 + (-4294967296) ≤ x3 ∧ x3 ≤ x5 + (-1)) (f0 : x21 = x19 + x20) (f1 : x19 = x17 + x18) (f2 : (0 ≤ x18) ∧ (x18 ≤ 100)) (f3 : (0 ≤ x17) ∧ (x17 ≤ 100)) (h4 : x16 = layerItem_0 (x15)) (f5 : x15 = x14 + x3) (f6 : x14 = 76 * x2) (h8 : x12 = layerItem_0 (x11)) (f9 : x11 = x9 - x10) (f10 : x9 = x8 + x3) (f11 : x8 = 76 * x2) (f12 : x3 < x5) (h13 : x5 = layerSize_0 (x2)) (f15 : LSA (r_0) (items_0) (layerMany_0) (lines_0) (all_0) (turned_0) (itemLayer_0) (firstJoint_0) (lineA_0) (lineB_0)) (f16 : LSB (items_0) (layerMany_0) (itemLayer_0) (layerSize_0) (layerItem_0)) (f17 : SGR (r_0) (all_0)) (f18 : pointMany_0 = items_0) (f19 : PCQ (pointMany_0) (costMany_0) (costA_0) (costB_0) (costW_0) (costPlain_0)) (f20 : costMany_0 ≤ 130) (f21 : PAL2 (apartMany_0) (layerMany_0) (layerSize_0) (layerItem_0) (apartA_0) (apartB_0) (apart_0) (x2) (x3)) (f22 : apartMany_0 ≤ 76) (f23 : (x2 + 1) ≤ layerMany_0) (f24 : 1 ≤ x3) (hK_0_83 : ∀ j : Int, 0 ≤ j → j < 200 → 0 ≤ costA_0 j ∧ costA_0 j ≤ 75) (hK_0_84 : ∀ j : Int, 0 ≤ j → j < 200 → 0 ≤ costB_0 j ∧ costB_0 j ≤ 75) (hK_0_85 : ∀ j : Int, 0 ≤ j → j < 200 → 0 ≤ costW_0 j ∧ costW_0 j ≤ 72) (hK_0_86 : ∀ j : Int, 0 ≤ j → j < 200 → 0 ≤ costPlain_0 j ∧ costPlain_0 j ≤ 1) (hK_0_87 : ∀ j : Int, 0 ≤ j → j < 200 → 0 ≤ apartA_0 j ∧ apartA_0 j ≤ 75) (hK_0_88 : ∀ j : Int, 0 ≤ j → j < 200 → 0 ≤ apartB_0 j ∧ apartB_0 j ≤ 75) (hK_0_89 : ∀ j : Int, 0 ≤ j → j < 200 → 0 ≤ apart_0 j ∧ apart_0 j ≤ 202) (hK_0_95 : ∀ j : Int, 0 ≤ j → j < 48 → 0 ≤ turned_0 j ∧ turned_0 j ≤ 1) (hK_0_102 : ∀ j : Int, 0 ≤ j → j < 76 → 0 ≤ itemLayer_0 j ∧ itemLayer_0 j ≤ 75) (hK_0_104 : ∀ j : Int, 0 ≤ j → j < 48 → 0 ≤ firstJoint_0 j ∧ firstJoint_0 j ≤ 76) (hK_0_105 : ∀ j : Int, 0 ≤ j → j < 76 → 0 ≤ layerSize_0 j ∧ layerSize_0 j ≤ 76) (hK_0_106 : ∀ j : Int, 0 ≤ j → j < 5776 → 0 ≤ layerItem_0 j ∧ layerItem_0 j ≤ 75) (hK_0_108 : ∀ j : Int, 0 ≤ j → j < 130 → 0 ≤ lineA_0 j ∧ lineA_0 j ≤ 75) (hK_0_109 : ∀ j : Int, 0 ≤ j → j < 130 → 0 ≤ lineB_0 j ∧ lineB_0 j ≤ 75) (kz_0_79 : 0 ≤ pointMany_0 ∧ pointMany_0 ≤ 76) (kz_0_80 : 0 ≤ costMany_0 ∧ costMany_0 ≤ 200) (kz_0_81 : 0 ≤ apartMany_0 ∧ apartMany_0 ≤ 200) (kz_0_100 : 0 ≤ items_0 ∧ items_0 ≤ 76) (kz_0_101 : 0 ≤ layerMany_0 ∧ layerMany_0 ≤ 76) (kz_0_107 : 0 ≤ lines_0 ∧ lines_0 ≤ 130) (ex2 : gx = apartMany_0) (ex3 : 0 ≤ gx ∧ gx ≤ 199) (ey2 : gy = x2) (ey3 : 0 ≤ gy ∧ gy ≤ 75) (eu2 : gu = x3) (eu3 : 1 ≤ gu ∧ gu ≤ 75) : PAN (layerMany_0) (layerSize_0) (layerItem_0) (gy) (gu) (x12) (x16) := by
  rw [ey2, eu2]
  exact ⟨by omega, by rw [← (by omega : x11 = 76 * x2 + x3 - 1)]; assumption, by rw [← (by omega : x15 = 76 * x2 + x3)]; assumption⟩
set_option maxHeartbeats 4000000 in
theorem vc_Mo_across2_15_7 (x2 : Int) (x3 : Int) (x5 : Int) (x7 : Int) (x8 : Int) (x9 : Int) (x10 : Int) (x11 : Int) (x12 : Int) (x13 : Int) (x14 : Int) (x15 : Int) (x16 : Int) (x17 : Int) (x18 : Int) (x19 : Int) (x20 : Int) (x21 : Int) (layerItem_0 : Int → Int) (layerSize_0 : Int → Int) (all_0 : Int → Int) (turned_0 : Int → Int) (itemLayer_0 : Int → Int) (firstJoint_0 : Int → Int) (lineA_0 : Int → Int) (lineB_0 : Int → Int) (r_0 : Int) (items_0 : Int) (layerMany_0 : Int) (lines_0 : Int) (pointMany_0 : Int) (costA_0 : Int → Int) (costB_0 : Int → Int) (costW_0 : Int → Int) (costPlain_0 : Int → Int) (costMany_0 : Int) (apartA_0 : Int → Int) (apartB_0 : Int → Int) (apart_0 : Int → Int) (apartMany_0 : Int) (gx : Int) (gy : Int) (gu : Int) (k2 : 0 ≤ x2 ∧ x2 ≤ 75) (k3 : 1 ≤ x3 ∧ x3 ≤ 75) (k5 : 2 ≤ x5 ∧ x5 ≤ 76) (k7 : 76 ≤ x7 ∧ x7 ≤ 76) (k8 : 0 ≤ x8 ∧ x8 ≤ 5700) (k9 : 1 ≤ x9 ∧ x9 ≤ 5775) (k10 : 1 ≤ x10 ∧ x10 ≤ 1) (k11 : 0 ≤ x11 ∧ x11 ≤ 5774) (k12 : 0 ≤ x12 ∧ x12 ≤ 75) (k13 : 76 ≤ x13 ∧ x13 ≤ 76) (k14 : 0 ≤ x14 ∧ x14 ≤ 5700) (k15 : 1 ≤ x15 ∧ x15 ≤ 5775) (k16 : 0 ≤ x16 ∧ x16 ≤ 75) (k17 : 0 ≤ x17 ∧ x17 ≤ 0) (k18 : 0 ≤ x18 ∧ x18 ≤ 0) (k19 : 0 ≤ x19 ∧ x19 ≤ 0) (k20 : 2 ≤ x20 ∧ x20 ≤ 2) (k21 : 2 ≤ x21 ∧ x21 ≤ 2) (d0 : x3 + 0 ≤ x15 ∧ x15 ≤ x3 + 5700) (d1 : x5 + (-4294967296) ≤ x15 ∧ x15 ≤ x5 + 5699) (d2 : x14 + 1 ≤ x15 ∧ x15 ≤ x14 + 75) (d3 : x9 + (-1) ≤ x11 ∧ x11 ≤ x9 + (-1)) (d4 : x3 + (-1) ≤ x11 ∧ x11 ≤ x3 + 5699) (d5 : x5 + (-4294967296) ≤ x11 ∧ x11 ≤ x5 + 5698) (d6 : x8 + 0 ≤ x11 ∧ x11 ≤ x8 + 74) (d7 : x3 + 0 ≤ x9 ∧ x9 ≤ x3 + 5700) (d8 : x5 + (-4294967296) ≤ x9 ∧ x9 ≤ x5 + 5699) (d9 : x8 + 1 ≤ x9 ∧ x9 ≤ x8 + 75) (d10 : x5 + (-4294967296) ≤ x3 ∧ x3 ≤ x5 + (-1)) (f0 : x21 = x19 + x20) (f1 : x19 = x17 + x18) (f2 : (0 ≤ x18) ∧ (x18 ≤ 100)) (f3 : (0 ≤ x17) ∧ (x17 ≤ 100)) (h4 : x16 = layerItem_0 (x15)) (f5 : x15 = x14 + x3) (f6 : x14 = 76 * x2) (h8 : x12 = layerItem_0 (x11)) (f9 : x11 = x9 - x10) (f10 : x9 = x8 + x3) (f11 : x8 = 76 * x2) (f12 : x3 < x5) (h13 : x5 = layerSize_0 (x2)) (f15 : LSA (r_0) (items_0) (layerMany_0) (lines_0) (all_0) (turned_0) (itemLayer_0) (firstJoint_0) (lineA_0) (lineB_0)) (f16 : LSB (items_0) (layerMany_0) (itemLayer_0) (layerSize_0) (layerItem_0)) (f17 : SGR (r_0) (all_0)) (f18 : pointMany_0 = items_0) (f19 : PCQ (pointMany_0) (costMany_0) (costA_0) (costB_0) (costW_0) (costPlain_0)) (f20 : costMany_0 ≤ 130) (f21 : PAL2 (apartMany_0) (layerMany_0) (layerSize_0) (layerItem_0) (apartA_0) (apartB_0) (apart_0) (x2) (x3)) (f22 : apartMany_0 ≤ 76) (f23 : (x2 + 1) ≤ layerMany_0) (f24 : 1 ≤ x3) (hK_0_83 : ∀ j : Int, 0 ≤ j → j < 200 → 0 ≤ costA_0 j ∧ costA_0 j ≤ 75) (hK_0_84 : ∀ j : Int, 0 ≤ j → j < 200 → 0 ≤ costB_0 j ∧ costB_0 j ≤ 75) (hK_0_85 : ∀ j : Int, 0 ≤ j → j < 200 → 0 ≤ costW_0 j ∧ costW_0 j ≤ 72) (hK_0_86 : ∀ j : Int, 0 ≤ j → j < 200 → 0 ≤ costPlain_0 j ∧ costPlain_0 j ≤ 1) (hK_0_87 : ∀ j : Int, 0 ≤ j → j < 200 → 0 ≤ apartA_0 j ∧ apartA_0 j ≤ 75) (hK_0_88 : ∀ j : Int, 0 ≤ j → j < 200 → 0 ≤ apartB_0 j ∧ apartB_0 j ≤ 75) (hK_0_89 : ∀ j : Int, 0 ≤ j → j < 200 → 0 ≤ apart_0 j ∧ apart_0 j ≤ 202) (hK_0_95 : ∀ j : Int, 0 ≤ j → j < 48 → 0 ≤ turned_0 j ∧ turned_0 j ≤ 1) (hK_0_102 : ∀ j : Int, 0 ≤ j → j < 76 → 0 ≤ itemLayer_0 j ∧ itemLayer_0 j ≤ 75) (hK_0_104 : ∀ j : Int, 0 ≤ j → j < 48 → 0 ≤ firstJoint_0 j ∧ firstJoint_0 j ≤ 76) (hK_0_105 : ∀ j : Int, 0 ≤ j → j < 76 → 0 ≤ layerSize_0 j ∧ layerSize_0 j ≤ 76) (hK_0_106 : ∀ j : Int, 0 ≤ j → j < 5776 → 0 ≤ layerItem_0 j ∧ layerItem_0 j ≤ 75) (hK_0_108 : ∀ j : Int, 0 ≤ j → j < 130 → 0 ≤ lineA_0 j ∧ lineA_0 j ≤ 75) (hK_0_109 : ∀ j : Int, 0 ≤ j → j < 130 → 0 ≤ lineB_0 j ∧ lineB_0 j ≤ 75) (kz_0_79 : 0 ≤ pointMany_0 ∧ pointMany_0 ≤ 76) (kz_0_80 : 0 ≤ costMany_0 ∧ costMany_0 ≤ 200) (kz_0_81 : 0 ≤ apartMany_0 ∧ apartMany_0 ≤ 200) (kz_0_100 : 0 ≤ items_0 ∧ items_0 ≤ 76) (kz_0_101 : 0 ≤ layerMany_0 ∧ layerMany_0 ≤ 76) (kz_0_107 : 0 ≤ lines_0 ∧ lines_0 ≤ 130) (ex2 : gx = apartMany_0) (ex3 : 0 ≤ gx ∧ gx ≤ 199) (ey2 : gy = x2) (ey3 : 0 ≤ gy ∧ gy ≤ 75) (eu2 : gu = x3) (eu3 : 1 ≤ gu ∧ gu ≤ 75) : (2 ≤ x21) ∧ (x21 ≤ 202) := by
  try simp only [Int.add_zero] at *
  first
    | omega
    | (have h := ‹LSA _ _ _ _ _ _ _ _ _ _›.2.1; omega)
    | (have h := lsa_la (p := x2) (x := x15) ‹LSA _ _ _ _ _ _ _ _ _ _› (by omega) (by omega) (by assumption); omega)
    | (have h := lsa_lb (p := x2) (x := x16) ‹LSA _ _ _ _ _ _ _ _ _ _› (by omega) (by omega) (by assumption); omega)
def o_Mo_across2_15 : or_T := (243, 22, [(0, (2, 0, 0, [150])), (1, (2, 0, 0, [150])), (2, (0, 0, 75, [])), (3, (0, 1, 75, [])), (4, (2, 0, 0, [223])), (5, (0, 2, 76, [])), (6, (2, 0, 0, [224])), (7, (0, 76, 76, [])), (8, (0, 0, 5700, [])), (9, (0, 1, 5775, [])), (10, (0, 1, 1, [])), (11, (0, 0, 5774, [])), (12, (0, 0, 75, [])), (13, (0, 76, 76, [])), (14, (0, 0, 5700, [])), (15, (0, 1, 5775, [])), (16, (0, 0, 75, [])), (17, (0, 0, 0, [])), (18, (0, 0, 0, [])), (19, (0, 0, 0, [])), (20, (0, 2, 2, [])), (21, (0, 2, 2, []))], [(1, [21, 19, 20], []), (1, [19, 17, 18], []), (20, [18], [50, 0, 0, 2, 6, 0, 2, 0, 0, 1, 0, 0, 2, 1, 0, 0, 100]), (20, [17], [50, 0, 0, 2, 6, 0, 2, 0, 0, 1, 0, 0, 2, 1, 0, 0, 100]), (10, [16, 6, 15], []), (1, [15, 14, 3], []), (3, [14, 13, 2], []), (9, [6, 1], [106]), (10, [12, 6, 11], []), (2, [11, 9, 10], []), (1, [9, 8, 3], []), (3, [8, 7, 2], []), (7, [3, 5], [2]), (10, [5, 4, 2], []), (9, [4, 1], [105]), (20, [1], [60, 4, 6, 369, 5, 100, 101, 107, 2, 95, 102, 104, 108, 109]), (20, [1], [60, 2, 3, 372, 100, 101, 102, 105, 106]), (20, [1], [60, 1, 1, 122, 5, 2]), (20, [1], [50, 2, 0, 79, 100, 1, 3, 2, 0, 79, 2, 0, 100]), (20, [1], [60, 2, 4, 380, 79, 80, 83, 84, 85, 86]), (20, [1], [50, 1, 0, 80, 0, 3, 2, 0, 80, 0, 130]), (20, [1, 2, 3], [60, 2, 5, 393, 81, 101, 105, 106, 87, 88, 89]), (20, [1], [50, 1, 0, 81, 0, 3, 2, 0, 81, 0, 76]), (20, [2, 1], [50, 1, 0, 1101, 0, 6, 4, 2, 1, 0, 0, 1, 2, 1, 101]), (20, [3], [50, 0, 0, 0, 2, 0, 1, 1, 0]), (24, [0, 1], [])], [], [(0, 0, 199, []), (0, 0, 75, []), (0, 1, 75, [])], [(23, [23, 2], [0, 1, -1]), (23, [23, 2], [0, -1, 1]), (23, [24, 3], [0, 1, -1]), (23, [24, 3], [0, -1, 1]), (20, [1, 22], [50, 1, 0, 81, 1, 3, 2, 0, 81, 1, 1]), (20, [1, 23, 24], [60, 2, 5, 393, 81, 101, 105, 106, 87, 88, 89]), (20, [1, 23, 24, 12, 16], [60, 1, 2, 390, 101, 105, 106]), (20, [21], [50, 0, 0, 2, 6, 0, 2, 0, 2, 1, 0, 0, 2, 1, 0, 0, 202])], [], [(15, 3, 0, 5700), (15, 5, -4294967296, 5699), (15, 14, 1, 75), (11, 9, -1, -1), (11, 3, -1, 5699), (11, 5, -4294967296, 5698), (11, 8, 0, 74), (9, 3, 0, 5700), (9, 5, -4294967296, 5699), (9, 8, 1, 75), (3, 5, -4294967296, -1)])
theorem oo_Mo_across2_15 {kA : Nat → ClassId} : or_ok PRD kA GG o_Mo_across2_15 := by
  intro A ta ws vs hD hth hl hk hds hf
  have hl : vs.length = 22 := hl
  have hk : ∀ q ∈ ([(0, (2, 0, 0, [150])), (1, (2, 0, 0, [150])), (2, (0, 0, 75, [])), (3, (0, 1, 75, [])), (4, (2, 0, 0, [223])), (5, (0, 2, 76, [])), (6, (2, 0, 0, [224])), (7, (0, 76, 76, [])), (8, (0, 0, 5700, [])), (9, (0, 1, 5775, [])), (10, (0, 1, 1, [])), (11, (0, 0, 5774, [])), (12, (0, 0, 75, [])), (13, (0, 76, 76, [])), (14, (0, 0, 5700, [])), (15, (0, 1, 5775, [])), (16, (0, 0, 75, [])), (17, (0, 0, 0, [])), (18, (0, 0, 0, [])), (19, (0, 0, 0, [])), (20, (0, 2, 2, [])), (21, (0, 2, 2, []))] : List (Nat × tv_T)), tv_ok ta q.2 (n_v vs q.1) := hk
  obtain ⟨t0, hk⟩ := List.forall_mem_cons.mp hk
  have t0 : tv_ok ta (2, 0, 0, [150]) (n_v vs 0) := t0
  have r0 : ta (v_ad (n_v vs 0)) = some 150 := tv_rg t0
  obtain ⟨t1, hk⟩ := List.forall_mem_cons.mp hk
  have t1 : tv_ok ta (2, 0, 0, [150]) (n_v vs 1) := t1
  have r1 : ta (v_ad (n_v vs 1)) = some 150 := tv_rg t1
  obtain ⟨t2, hk⟩ := List.forall_mem_cons.mp hk
  have t2 : tv_ok ta (0, 0, 75, []) (n_v vs 2) := t2
  have k2 : 0 ≤ v_iv (n_v vs 2) ∧ v_iv (n_v vs 2) ≤ 75 := tv_rng t2
  obtain ⟨t3, hk⟩ := List.forall_mem_cons.mp hk
  have t3 : tv_ok ta (0, 1, 75, []) (n_v vs 3) := t3
  have k3 : 1 ≤ v_iv (n_v vs 3) ∧ v_iv (n_v vs 3) ≤ 75 := tv_rng t3
  obtain ⟨t4, hk⟩ := List.forall_mem_cons.mp hk
  have t4 : tv_ok ta (2, 0, 0, [223]) (n_v vs 4) := t4
  have r4 : ta (v_ad (n_v vs 4)) = some 223 := tv_rg t4
  obtain ⟨t5, hk⟩ := List.forall_mem_cons.mp hk
  have t5 : tv_ok ta (0, 2, 76, []) (n_v vs 5) := t5
  have k5 : 2 ≤ v_iv (n_v vs 5) ∧ v_iv (n_v vs 5) ≤ 76 := tv_rng t5
  obtain ⟨t6, hk⟩ := List.forall_mem_cons.mp hk
  have t6 : tv_ok ta (2, 0, 0, [224]) (n_v vs 6) := t6
  have r6 : ta (v_ad (n_v vs 6)) = some 224 := tv_rg t6
  obtain ⟨t7, hk⟩ := List.forall_mem_cons.mp hk
  have t7 : tv_ok ta (0, 76, 76, []) (n_v vs 7) := t7
  have k7 : 76 ≤ v_iv (n_v vs 7) ∧ v_iv (n_v vs 7) ≤ 76 := tv_rng t7
  obtain ⟨t8, hk⟩ := List.forall_mem_cons.mp hk
  have t8 : tv_ok ta (0, 0, 5700, []) (n_v vs 8) := t8
  have k8 : 0 ≤ v_iv (n_v vs 8) ∧ v_iv (n_v vs 8) ≤ 5700 := tv_rng t8
  obtain ⟨t9, hk⟩ := List.forall_mem_cons.mp hk
  have t9 : tv_ok ta (0, 1, 5775, []) (n_v vs 9) := t9
  have k9 : 1 ≤ v_iv (n_v vs 9) ∧ v_iv (n_v vs 9) ≤ 5775 := tv_rng t9
  obtain ⟨t10, hk⟩ := List.forall_mem_cons.mp hk
  have t10 : tv_ok ta (0, 1, 1, []) (n_v vs 10) := t10
  have k10 : 1 ≤ v_iv (n_v vs 10) ∧ v_iv (n_v vs 10) ≤ 1 := tv_rng t10
  obtain ⟨t11, hk⟩ := List.forall_mem_cons.mp hk
  have t11 : tv_ok ta (0, 0, 5774, []) (n_v vs 11) := t11
  have k11 : 0 ≤ v_iv (n_v vs 11) ∧ v_iv (n_v vs 11) ≤ 5774 := tv_rng t11
  obtain ⟨t12, hk⟩ := List.forall_mem_cons.mp hk
  have t12 : tv_ok ta (0, 0, 75, []) (n_v vs 12) := t12
  have k12 : 0 ≤ v_iv (n_v vs 12) ∧ v_iv (n_v vs 12) ≤ 75 := tv_rng t12
  obtain ⟨t13, hk⟩ := List.forall_mem_cons.mp hk
  have t13 : tv_ok ta (0, 76, 76, []) (n_v vs 13) := t13
  have k13 : 76 ≤ v_iv (n_v vs 13) ∧ v_iv (n_v vs 13) ≤ 76 := tv_rng t13
  obtain ⟨t14, hk⟩ := List.forall_mem_cons.mp hk
  have t14 : tv_ok ta (0, 0, 5700, []) (n_v vs 14) := t14
  have k14 : 0 ≤ v_iv (n_v vs 14) ∧ v_iv (n_v vs 14) ≤ 5700 := tv_rng t14
  obtain ⟨t15, hk⟩ := List.forall_mem_cons.mp hk
  have t15 : tv_ok ta (0, 1, 5775, []) (n_v vs 15) := t15
  have k15 : 1 ≤ v_iv (n_v vs 15) ∧ v_iv (n_v vs 15) ≤ 5775 := tv_rng t15
  obtain ⟨t16, hk⟩ := List.forall_mem_cons.mp hk
  have t16 : tv_ok ta (0, 0, 75, []) (n_v vs 16) := t16
  have k16 : 0 ≤ v_iv (n_v vs 16) ∧ v_iv (n_v vs 16) ≤ 75 := tv_rng t16
  obtain ⟨t17, hk⟩ := List.forall_mem_cons.mp hk
  have t17 : tv_ok ta (0, 0, 0, []) (n_v vs 17) := t17
  have k17 : 0 ≤ v_iv (n_v vs 17) ∧ v_iv (n_v vs 17) ≤ 0 := tv_rng t17
  obtain ⟨t18, hk⟩ := List.forall_mem_cons.mp hk
  have t18 : tv_ok ta (0, 0, 0, []) (n_v vs 18) := t18
  have k18 : 0 ≤ v_iv (n_v vs 18) ∧ v_iv (n_v vs 18) ≤ 0 := tv_rng t18
  obtain ⟨t19, hk⟩ := List.forall_mem_cons.mp hk
  have t19 : tv_ok ta (0, 0, 0, []) (n_v vs 19) := t19
  have k19 : 0 ≤ v_iv (n_v vs 19) ∧ v_iv (n_v vs 19) ≤ 0 := tv_rng t19
  obtain ⟨t20, hk⟩ := List.forall_mem_cons.mp hk
  have t20 : tv_ok ta (0, 2, 2, []) (n_v vs 20) := t20
  have k20 : 2 ≤ v_iv (n_v vs 20) ∧ v_iv (n_v vs 20) ≤ 2 := tv_rng t20
  obtain ⟨t21, hk⟩ := List.forall_mem_cons.mp hk
  have t21 : tv_ok ta (0, 2, 2, []) (n_v vs 21) := t21
  have k21 : 2 ≤ v_iv (n_v vs 21) ∧ v_iv (n_v vs 21) ≤ 2 := tv_rng t21
  have hds : ∀ q ∈ ([(15, 3, 0, 5700), (15, 5, -4294967296, 5699), (15, 14, 1, 75), (11, 9, -1, -1), (11, 3, -1, 5699), (11, 5, -4294967296, 5698), (11, 8, 0, 74), (9, 3, 0, 5700), (9, 5, -4294967296, 5699), (9, 8, 1, 75), (3, 5, -4294967296, -1)] : List of_T), n_iv vs q.2.1 + q.2.2.1 ≤ n_iv vs q.1 ∧ n_iv vs q.1 ≤ n_iv vs q.2.1 + q.2.2.2 := hds
  obtain ⟨d0, hds⟩ := List.forall_mem_cons.mp hds
  have d0 : v_iv (n_v vs 3) + 0 ≤ v_iv (n_v vs 15) ∧ v_iv (n_v vs 15) ≤ v_iv (n_v vs 3) + 5700 := d0
  obtain ⟨d1, hds⟩ := List.forall_mem_cons.mp hds
  have d1 : v_iv (n_v vs 5) + (-4294967296) ≤ v_iv (n_v vs 15) ∧ v_iv (n_v vs 15) ≤ v_iv (n_v vs 5) + 5699 := d1
  obtain ⟨d2, hds⟩ := List.forall_mem_cons.mp hds
  have d2 : v_iv (n_v vs 14) + 1 ≤ v_iv (n_v vs 15) ∧ v_iv (n_v vs 15) ≤ v_iv (n_v vs 14) + 75 := d2
  obtain ⟨d3, hds⟩ := List.forall_mem_cons.mp hds
  have d3 : v_iv (n_v vs 9) + (-1) ≤ v_iv (n_v vs 11) ∧ v_iv (n_v vs 11) ≤ v_iv (n_v vs 9) + (-1) := d3
  obtain ⟨d4, hds⟩ := List.forall_mem_cons.mp hds
  have d4 : v_iv (n_v vs 3) + (-1) ≤ v_iv (n_v vs 11) ∧ v_iv (n_v vs 11) ≤ v_iv (n_v vs 3) + 5699 := d4
  obtain ⟨d5, hds⟩ := List.forall_mem_cons.mp hds
  have d5 : v_iv (n_v vs 5) + (-4294967296) ≤ v_iv (n_v vs 11) ∧ v_iv (n_v vs 11) ≤ v_iv (n_v vs 5) + 5698 := d5
  obtain ⟨d6, hds⟩ := List.forall_mem_cons.mp hds
  have d6 : v_iv (n_v vs 8) + 0 ≤ v_iv (n_v vs 11) ∧ v_iv (n_v vs 11) ≤ v_iv (n_v vs 8) + 74 := d6
  obtain ⟨d7, hds⟩ := List.forall_mem_cons.mp hds
  have d7 : v_iv (n_v vs 3) + 0 ≤ v_iv (n_v vs 9) ∧ v_iv (n_v vs 9) ≤ v_iv (n_v vs 3) + 5700 := d7
  obtain ⟨d8, hds⟩ := List.forall_mem_cons.mp hds
  have d8 : v_iv (n_v vs 5) + (-4294967296) ≤ v_iv (n_v vs 9) ∧ v_iv (n_v vs 9) ≤ v_iv (n_v vs 5) + 5699 := d8
  obtain ⟨d9, hds⟩ := List.forall_mem_cons.mp hds
  have d9 : v_iv (n_v vs 8) + 1 ≤ v_iv (n_v vs 9) ∧ v_iv (n_v vs 9) ≤ v_iv (n_v vs 8) + 75 := d9
  obtain ⟨d10, hds⟩ := List.forall_mem_cons.mp hds
  have d10 : v_iv (n_v vs 5) + (-4294967296) ≤ v_iv (n_v vs 3) ∧ v_iv (n_v vs 3) ≤ v_iv (n_v vs 5) + (-1) := d10
  have hf : fc_ok PRD [(1, [21, 19, 20], []), (1, [19, 17, 18], []), (20, [18], [50, 0, 0, 2, 6, 0, 2, 0, 0, 1, 0, 0, 2, 1, 0, 0, 100]), (20, [17], [50, 0, 0, 2, 6, 0, 2, 0, 0, 1, 0, 0, 2, 1, 0, 0, 100]), (10, [16, 6, 15], []), (1, [15, 14, 3], []), (3, [14, 13, 2], []), (9, [6, 1], [106]), (10, [12, 6, 11], []), (2, [11, 9, 10], []), (1, [9, 8, 3], []), (3, [8, 7, 2], []), (7, [3, 5], [2]), (10, [5, 4, 2], []), (9, [4, 1], [105]), (20, [1], [60, 4, 6, 369, 5, 100, 101, 107, 2, 95, 102, 104, 108, 109]), (20, [1], [60, 2, 3, 372, 100, 101, 102, 105, 106]), (20, [1], [60, 1, 1, 122, 5, 2]), (20, [1], [50, 2, 0, 79, 100, 1, 3, 2, 0, 79, 2, 0, 100]), (20, [1], [60, 2, 4, 380, 79, 80, 83, 84, 85, 86]), (20, [1], [50, 1, 0, 80, 0, 3, 2, 0, 80, 0, 130]), (20, [1, 2, 3], [60, 2, 5, 393, 81, 101, 105, 106, 87, 88, 89]), (20, [1], [50, 1, 0, 81, 0, 3, 2, 0, 81, 0, 76]), (20, [2, 1], [50, 1, 0, 1101, 0, 6, 4, 2, 1, 0, 0, 1, 2, 1, 101]), (20, [3], [50, 0, 0, 0, 2, 0, 1, 1, 0]), (24, [0, 1], [])] ta ws vs := hf
  obtain ⟨f0, hf⟩ := fc_un (show (1 : Nat) < 100 from by decide) hf
  have f0 : v_iv (n_v vs 21) = v_iv (n_v vs 19) + v_iv (n_v vs 20) := f0
  obtain ⟨f1, hf⟩ := fc_un (show (1 : Nat) < 100 from by decide) hf
  have f1 : v_iv (n_v vs 19) = v_iv (n_v vs 17) + v_iv (n_v vs 18) := f1
  obtain ⟨f2, hf⟩ := fc_un (show (20 : Nat) < 100 from by decide) hf
  have f2 : (0 ≤ v_iv (n_v vs 18)) ∧ (v_iv (n_v vs 18) ≤ 100) := f2
  obtain ⟨f3, hf⟩ := fc_un (show (20 : Nat) < 100 from by decide) hf
  have f3 : (0 ≤ v_iv (n_v vs 17)) ∧ (v_iv (n_v vs 17) ≤ 100) := f3
  obtain ⟨f4, hf⟩ := fc_un (show (10 : Nat) < 100 from by decide) hf
  have f4 : v_iv (n_v vs 16) = w_el ws (v_ad (n_v vs 6)) (v_iv (n_v vs 15)).toNat := f4
  obtain ⟨f5, hf⟩ := fc_un (show (1 : Nat) < 100 from by decide) hf
  have f5 : v_iv (n_v vs 15) = v_iv (n_v vs 14) + v_iv (n_v vs 3) := f5
  obtain ⟨f6, hf⟩ := fc_un (show (3 : Nat) < 100 from by decide) hf
  have f6 : v_iv (n_v vs 14) = v_iv (n_v vs 13) * v_iv (n_v vs 2) := f6
  rw [show v_iv (n_v vs 13) = 76 from by omega] at f6
  obtain ⟨f7, hf⟩ := fc_un (show (9 : Nat) < 100 from by decide) hf
  have f7 : n_v vs 6 = w_fd ws (v_ad (n_v vs 1)) 106 := f7
  obtain ⟨f8, hf⟩ := fc_un (show (10 : Nat) < 100 from by decide) hf
  have f8 : v_iv (n_v vs 12) = w_el ws (v_ad (n_v vs 6)) (v_iv (n_v vs 11)).toNat := f8
  obtain ⟨f9, hf⟩ := fc_un (show (2 : Nat) < 100 from by decide) hf
  have f9 : v_iv (n_v vs 11) = v_iv (n_v vs 9) - v_iv (n_v vs 10) := f9
  obtain ⟨f10, hf⟩ := fc_un (show (1 : Nat) < 100 from by decide) hf
  have f10 : v_iv (n_v vs 9) = v_iv (n_v vs 8) + v_iv (n_v vs 3) := f10
  obtain ⟨f11, hf⟩ := fc_un (show (3 : Nat) < 100 from by decide) hf
  have f11 : v_iv (n_v vs 8) = v_iv (n_v vs 7) * v_iv (n_v vs 2) := f11
  rw [show v_iv (n_v vs 7) = 76 from by omega] at f11
  obtain ⟨f12, hf⟩ := fc_un (show (7 : Nat) < 100 from by decide) hf
  have f12 : v_iv (n_v vs 3) < v_iv (n_v vs 5) := f12
  obtain ⟨f13, hf⟩ := fc_un (show (10 : Nat) < 100 from by decide) hf
  have f13 : v_iv (n_v vs 5) = w_el ws (v_ad (n_v vs 4)) (v_iv (n_v vs 2)).toNat := f13
  obtain ⟨f14, hf⟩ := fc_un (show (9 : Nat) < 100 from by decide) hf
  have f14 : n_v vs 4 = w_fd ws (v_ad (n_v vs 1)) 105 := f14
  obtain ⟨f15, hf⟩ := fc_un (show (20 : Nat) < 100 from by decide) hf
  have f15 : LSA (w_fi ws (n_v vs 1) 5) (w_fi ws (n_v vs 1) 100) (w_fi ws (n_v vs 1) 101) (w_fi ws (n_v vs 1) 107) (w_ei ws (w_ar ws (n_v vs 1) 2)) (w_ei ws (w_ar ws (n_v vs 1) 95)) (w_ei ws (w_ar ws (n_v vs 1) 102)) (w_ei ws (w_ar ws (n_v vs 1) 104)) (w_ei ws (w_ar ws (n_v vs 1) 108)) (w_ei ws (w_ar ws (n_v vs 1) 109)) := f15
  obtain ⟨f16, hf⟩ := fc_un (show (20 : Nat) < 100 from by decide) hf
  have f16 : LSB (w_fi ws (n_v vs 1) 100) (w_fi ws (n_v vs 1) 101) (w_ei ws (w_ar ws (n_v vs 1) 102)) (w_ei ws (w_ar ws (n_v vs 1) 105)) (w_ei ws (w_ar ws (n_v vs 1) 106)) := f16
  obtain ⟨f17, hf⟩ := fc_un (show (20 : Nat) < 100 from by decide) hf
  have f17 : SGR (w_fi ws (n_v vs 1) 5) (w_ei ws (w_ar ws (n_v vs 1) 2)) := f17
  obtain ⟨f18, hf⟩ := fc_un (show (20 : Nat) < 100 from by decide) hf
  have f18 : w_fi ws (n_v vs 1) 79 = w_fi ws (n_v vs 1) 100 := f18
  obtain ⟨f19, hf⟩ := fc_un (show (20 : Nat) < 100 from by decide) hf
  have f19 : PCQ (w_fi ws (n_v vs 1) 79) (w_fi ws (n_v vs 1) 80) (w_ei ws (w_ar ws (n_v vs 1) 83)) (w_ei ws (w_ar ws (n_v vs 1) 84)) (w_ei ws (w_ar ws (n_v vs 1) 85)) (w_ei ws (w_ar ws (n_v vs 1) 86)) := f19
  obtain ⟨f20, hf⟩ := fc_un (show (20 : Nat) < 100 from by decide) hf
  have f20 : w_fi ws (n_v vs 1) 80 ≤ 130 := f20
  obtain ⟨f21, hf⟩ := fc_un (show (20 : Nat) < 100 from by decide) hf
  have f21 : PAL2 (w_fi ws (n_v vs 1) 81) (w_fi ws (n_v vs 1) 101) (w_ei ws (w_ar ws (n_v vs 1) 105)) (w_ei ws (w_ar ws (n_v vs 1) 106)) (w_ei ws (w_ar ws (n_v vs 1) 87)) (w_ei ws (w_ar ws (n_v vs 1) 88)) (w_ei ws (w_ar ws (n_v vs 1) 89)) (v_iv (n_v vs 2)) (v_iv (n_v vs 3)) := f21
  obtain ⟨f22, hf⟩ := fc_un (show (20 : Nat) < 100 from by decide) hf
  have f22 : w_fi ws (n_v vs 1) 81 ≤ 76 := f22
  obtain ⟨f23, hf⟩ := fc_un (show (20 : Nat) < 100 from by decide) hf
  have f23 : (v_iv (n_v vs 2) + 1) ≤ w_fi ws (n_v vs 1) 101 := f23
  obtain ⟨f24, hf⟩ := fc_un (show (20 : Nat) < 100 from by decide) hf
  have f24 : 1 ≤ v_iv (n_v vs 3) := f24
  obtain ⟨f25, hf⟩ := fc_un (show (24 : Nat) < 100 from by decide) hf
  have f25 : n_v vs 0 = n_v vs 1 := f25
  have q1 : n_v vs 1 = n_v vs 0 := f25.symm
  rw [q1] at f7
  rw [q1] at f14
  rw [q1] at f15
  rw [q1] at f16
  rw [q1] at f17
  rw [q1] at f18
  rw [q1] at f19
  rw [q1] at f20
  rw [q1] at f21
  rw [q1] at f22
  rw [q1] at f23
  have cr_0_2 : ta (w_ar ws (n_v vs 0) 2) = some 152 := tv_rg (th_fd hD hth r0 (g := GG_150) rfl (k := 2) (t := (2, 0, 0, [152])) rfl rfl)
  have cr_0_83 : ta (w_ar ws (n_v vs 0) 83) = some 205 := tv_rg (th_fd hD hth r0 (g := GG_150) rfl (k := 83) (t := (2, 0, 0, [205])) rfl rfl)
  have cr_0_84 : ta (w_ar ws (n_v vs 0) 84) = some 206 := tv_rg (th_fd hD hth r0 (g := GG_150) rfl (k := 84) (t := (2, 0, 0, [206])) rfl rfl)
  have cr_0_85 : ta (w_ar ws (n_v vs 0) 85) = some 207 := tv_rg (th_fd hD hth r0 (g := GG_150) rfl (k := 85) (t := (2, 0, 0, [207])) rfl rfl)
  have cr_0_86 : ta (w_ar ws (n_v vs 0) 86) = some 208 := tv_rg (th_fd hD hth r0 (g := GG_150) rfl (k := 86) (t := (2, 0, 0, [208])) rfl rfl)
  have cr_0_87 : ta (w_ar ws (n_v vs 0) 87) = some 209 := tv_rg (th_fd hD hth r0 (g := GG_150) rfl (k := 87) (t := (2, 0, 0, [209])) rfl rfl)
  have cr_0_88 : ta (w_ar ws (n_v vs 0) 88) = some 210 := tv_rg (th_fd hD hth r0 (g := GG_150) rfl (k := 88) (t := (2, 0, 0, [210])) rfl rfl)
  have cr_0_89 : ta (w_ar ws (n_v vs 0) 89) = some 211 := tv_rg (th_fd hD hth r0 (g := GG_150) rfl (k := 89) (t := (2, 0, 0, [211])) rfl rfl)
  have cr_0_95 : ta (w_ar ws (n_v vs 0) 95) = some 216 := tv_rg (th_fd hD hth r0 (g := GG_150) rfl (k := 95) (t := (2, 0, 0, [216])) rfl rfl)
  have cr_0_102 : ta (w_ar ws (n_v vs 0) 102) = some 220 := tv_rg (th_fd hD hth r0 (g := GG_150) rfl (k := 102) (t := (2, 0, 0, [220])) rfl rfl)
  have cr_0_104 : ta (w_ar ws (n_v vs 0) 104) = some 222 := tv_rg (th_fd hD hth r0 (g := GG_150) rfl (k := 104) (t := (2, 0, 0, [222])) rfl rfl)
  have cr_0_105 : ta (w_ar ws (n_v vs 0) 105) = some 223 := tv_rg (th_fd hD hth r0 (g := GG_150) rfl (k := 105) (t := (2, 0, 0, [223])) rfl rfl)
  have cr_0_106 : ta (w_ar ws (n_v vs 0) 106) = some 224 := tv_rg (th_fd hD hth r0 (g := GG_150) rfl (k := 106) (t := (2, 0, 0, [224])) rfl rfl)
  have cr_0_108 : ta (w_ar ws (n_v vs 0) 108) = some 225 := tv_rg (th_fd hD hth r0 (g := GG_150) rfl (k := 108) (t := (2, 0, 0, [225])) rfl rfl)
  have cr_0_109 : ta (w_ar ws (n_v vs 0) 109) = some 226 := tv_rg (th_fd hD hth r0 (g := GG_150) rfl (k := 109) (t := (2, 0, 0, [226])) rfl rfl)
  have ad_6 : v_ad (n_v vs 6) = w_ar ws (n_v vs 0) 106 := congrArg v_ad f7
  have ad_4 : v_ad (n_v vs 4) = w_ar ws (n_v vs 0) 105 := congrArg v_ad f14
  rw [ad_6] at f4
  have h4 : v_iv (n_v vs 16) = w_ei ws (w_ar ws (n_v vs 0) 106) (v_iv (n_v vs 15)) := f4
  rw [ad_6] at f8
  have h8 : v_iv (n_v vs 12) = w_ei ws (w_ar ws (n_v vs 0) 106) (v_iv (n_v vs 11)) := f8
  rw [ad_4] at f13
  have h13 : v_iv (n_v vs 5) = w_ei ws (w_ar ws (n_v vs 0) 105) (v_iv (n_v vs 2)) := f13
  have hK_0_83 : ∀ j : Int, 0 ≤ j → j < 200 → 0 ≤ w_ei ws (w_ar ws (n_v vs 0) 83) j ∧ w_ei ws (w_ar ws (n_v vs 0) 83) j ≤ 75 := fun j h0 h1 => th_el hD hth cr_0_83 (kd := 0) (n := 200) (m := 200) (lo := 0) (hi := 75) (rs := []) (L := []) rfl (by decide) (j := j.toNat) (by omega)
  have hK_0_84 : ∀ j : Int, 0 ≤ j → j < 200 → 0 ≤ w_ei ws (w_ar ws (n_v vs 0) 84) j ∧ w_ei ws (w_ar ws (n_v vs 0) 84) j ≤ 75 := fun j h0 h1 => th_el hD hth cr_0_84 (kd := 0) (n := 200) (m := 200) (lo := 0) (hi := 75) (rs := []) (L := []) rfl (by decide) (j := j.toNat) (by omega)
  have hK_0_85 : ∀ j : Int, 0 ≤ j → j < 200 → 0 ≤ w_ei ws (w_ar ws (n_v vs 0) 85) j ∧ w_ei ws (w_ar ws (n_v vs 0) 85) j ≤ 72 := fun j h0 h1 => th_el hD hth cr_0_85 (kd := 0) (n := 200) (m := 200) (lo := 0) (hi := 72) (rs := []) (L := []) rfl (by decide) (j := j.toNat) (by omega)
  have hK_0_86 : ∀ j : Int, 0 ≤ j → j < 200 → 0 ≤ w_ei ws (w_ar ws (n_v vs 0) 86) j ∧ w_ei ws (w_ar ws (n_v vs 0) 86) j ≤ 1 := fun j h0 h1 => th_el hD hth cr_0_86 (kd := 2) (n := 200) (m := 200) (lo := 0) (hi := 1) (rs := []) (L := []) rfl (by decide) (j := j.toNat) (by omega)
  have hK_0_87 : ∀ j : Int, 0 ≤ j → j < 200 → 0 ≤ w_ei ws (w_ar ws (n_v vs 0) 87) j ∧ w_ei ws (w_ar ws (n_v vs 0) 87) j ≤ 75 := fun j h0 h1 => th_el hD hth cr_0_87 (kd := 0) (n := 200) (m := 200) (lo := 0) (hi := 75) (rs := []) (L := []) rfl (by decide) (j := j.toNat) (by omega)
  have hK_0_88 : ∀ j : Int, 0 ≤ j → j < 200 → 0 ≤ w_ei ws (w_ar ws (n_v vs 0) 88) j ∧ w_ei ws (w_ar ws (n_v vs 0) 88) j ≤ 75 := fun j h0 h1 => th_el hD hth cr_0_88 (kd := 0) (n := 200) (m := 200) (lo := 0) (hi := 75) (rs := []) (L := []) rfl (by decide) (j := j.toNat) (by omega)
  have hK_0_89 : ∀ j : Int, 0 ≤ j → j < 200 → 0 ≤ w_ei ws (w_ar ws (n_v vs 0) 89) j ∧ w_ei ws (w_ar ws (n_v vs 0) 89) j ≤ 202 := fun j h0 h1 => th_el hD hth cr_0_89 (kd := 0) (n := 200) (m := 200) (lo := 0) (hi := 202) (rs := []) (L := []) rfl (by decide) (j := j.toNat) (by omega)
  have hK_0_95 : ∀ j : Int, 0 ≤ j → j < 48 → 0 ≤ w_ei ws (w_ar ws (n_v vs 0) 95) j ∧ w_ei ws (w_ar ws (n_v vs 0) 95) j ≤ 1 := fun j h0 h1 => th_el hD hth cr_0_95 (kd := 2) (n := 48) (m := 48) (lo := 0) (hi := 1) (rs := []) (L := []) rfl (by decide) (j := j.toNat) (by omega)
  have hK_0_102 : ∀ j : Int, 0 ≤ j → j < 76 → 0 ≤ w_ei ws (w_ar ws (n_v vs 0) 102) j ∧ w_ei ws (w_ar ws (n_v vs 0) 102) j ≤ 75 := fun j h0 h1 => th_el hD hth cr_0_102 (kd := 0) (n := 76) (m := 76) (lo := 0) (hi := 75) (rs := []) (L := []) rfl (by decide) (j := j.toNat) (by omega)
  have hK_0_104 : ∀ j : Int, 0 ≤ j → j < 48 → 0 ≤ w_ei ws (w_ar ws (n_v vs 0) 104) j ∧ w_ei ws (w_ar ws (n_v vs 0) 104) j ≤ 76 := fun j h0 h1 => th_el hD hth cr_0_104 (kd := 0) (n := 48) (m := 48) (lo := 0) (hi := 76) (rs := []) (L := []) rfl (by decide) (j := j.toNat) (by omega)
  have hK_0_105 : ∀ j : Int, 0 ≤ j → j < 76 → 0 ≤ w_ei ws (w_ar ws (n_v vs 0) 105) j ∧ w_ei ws (w_ar ws (n_v vs 0) 105) j ≤ 76 := fun j h0 h1 => th_el hD hth cr_0_105 (kd := 0) (n := 76) (m := 76) (lo := 0) (hi := 76) (rs := []) (L := []) rfl (by decide) (j := j.toNat) (by omega)
  have hK_0_106 : ∀ j : Int, 0 ≤ j → j < 5776 → 0 ≤ w_ei ws (w_ar ws (n_v vs 0) 106) j ∧ w_ei ws (w_ar ws (n_v vs 0) 106) j ≤ 75 := fun j h0 h1 => th_el hD hth cr_0_106 (kd := 0) (n := 5776) (m := 5776) (lo := 0) (hi := 75) (rs := []) (L := []) rfl (by decide) (j := j.toNat) (by omega)
  have hK_0_108 : ∀ j : Int, 0 ≤ j → j < 130 → 0 ≤ w_ei ws (w_ar ws (n_v vs 0) 108) j ∧ w_ei ws (w_ar ws (n_v vs 0) 108) j ≤ 75 := fun j h0 h1 => th_el hD hth cr_0_108 (kd := 0) (n := 130) (m := 130) (lo := 0) (hi := 75) (rs := []) (L := []) rfl (by decide) (j := j.toNat) (by omega)
  have hK_0_109 : ∀ j : Int, 0 ≤ j → j < 130 → 0 ≤ w_ei ws (w_ar ws (n_v vs 0) 109) j ∧ w_ei ws (w_ar ws (n_v vs 0) 109) j ≤ 75 := fun j h0 h1 => th_el hD hth cr_0_109 (kd := 0) (n := 130) (m := 130) (lo := 0) (hi := 75) (rs := []) (L := []) rfl (by decide) (j := j.toNat) (by omega)
  have kz_0_79 : 0 ≤ w_fi ws (n_v vs 0) 79 ∧ w_fi ws (n_v vs 0) 79 ≤ 76 := tv_rng (th_fd hD hth r0 (g := GG_150) rfl (k := 79) (t := (0, 0, 76, [])) rfl rfl)
  have kz_0_80 : 0 ≤ w_fi ws (n_v vs 0) 80 ∧ w_fi ws (n_v vs 0) 80 ≤ 200 := tv_rng (th_fd hD hth r0 (g := GG_150) rfl (k := 80) (t := (0, 0, 200, [])) rfl rfl)
  have kz_0_81 : 0 ≤ w_fi ws (n_v vs 0) 81 ∧ w_fi ws (n_v vs 0) 81 ≤ 200 := tv_rng (th_fd hD hth r0 (g := GG_150) rfl (k := 81) (t := (0, 0, 200, [])) rfl rfl)
  have kz_0_100 : 0 ≤ w_fi ws (n_v vs 0) 100 ∧ w_fi ws (n_v vs 0) 100 ≤ 76 := tv_rng (th_fd hD hth r0 (g := GG_150) rfl (k := 100) (t := (0, 0, 76, [])) rfl rfl)
  have kz_0_101 : 0 ≤ w_fi ws (n_v vs 0) 101 ∧ w_fi ws (n_v vs 0) 101 ≤ 76 := tv_rng (th_fd hD hth r0 (g := GG_150) rfl (k := 101) (t := (0, 0, 76, [])) rfl rfl)
  have kz_0_107 : 0 ≤ w_fi ws (n_v vs 0) 107 ∧ w_fi ws (n_v vs 0) 107 ≤ 130 := tv_rng (th_fd hD hth r0 (g := GG_150) rfl (k := 107) (t := (0, 0, 130, [])) rfl rfl)
  have kv0 : 0 ≤ w_fi ws (n_v vs 0) 81 ∧ w_fi ws (n_v vs 0) 81 ≤ 200 := tv_rng (th_fd hD hth r0 (g := GG_150) rfl (k := 81) (t := (0, 0, 200, [])) rfl rfl)
  obtain ⟨x, ex, hx⟩ := iv_ex (ta := ta) (lo := 0) (hi := 199) (z := w_fi ws (n_v vs 0) 81) (by omega) (by omega) (by omega) (by omega)
  have ex2 : v_iv (Value.int x) = w_fi ws (n_v vs 0) 81 := ex
  have ex3 : 0 ≤ v_iv (Value.int x) ∧ v_iv (Value.int x) ≤ 199 := tv_rng hx
  obtain ⟨y, ey, hy⟩ := iv_ex (ta := ta) (lo := 0) (hi := 75) (z := v_iv (n_v vs 2)) (by omega) (by omega) (by omega) (by omega)
  have ey2 : v_iv (Value.int y) = v_iv (n_v vs 2) := ey
  have ey3 : 0 ≤ v_iv (Value.int y) ∧ v_iv (Value.int y) ≤ 75 := tv_rng hy
  obtain ⟨u, eu, hu⟩ := iv_ex (ta := ta) (lo := 1) (hi := 75) (z := v_iv (n_v vs 3)) (by omega) (by omega) (by omega) (by omega)
  have eu2 : v_iv (Value.int u) = v_iv (n_v vs 3) := eu
  have eu3 : 1 ≤ v_iv (Value.int u) ∧ v_iv (Value.int u) ≤ 75 := tv_rng hu
  have e_1 : n_v (vs ++ [Value.int x, Value.int y, Value.int u]) 1 = n_v vs 1 := n_v_old (by rw [hl]; decide)
  have e_2 : n_v (vs ++ [Value.int x, Value.int y, Value.int u]) 2 = n_v vs 2 := n_v_old (by rw [hl]; decide)
  have e_3 : n_v (vs ++ [Value.int x, Value.int y, Value.int u]) 3 = n_v vs 3 := n_v_old (by rw [hl]; decide)
  have e_12 : n_v (vs ++ [Value.int x, Value.int y, Value.int u]) 12 = n_v vs 12 := n_v_old (by rw [hl]; decide)
  have e_16 : n_v (vs ++ [Value.int x, Value.int y, Value.int u]) 16 = n_v vs 16 := n_v_old (by rw [hl]; decide)
  have e_21 : n_v (vs ++ [Value.int x, Value.int y, Value.int u]) 21 = n_v vs 21 := n_v_old (by rw [hl]; decide)
  have e_22 : n_v (vs ++ [Value.int x, Value.int y, Value.int u]) 22 = Value.int x := n_v_newk (k := 0) hl rfl
  have e_23 : n_v (vs ++ [Value.int x, Value.int y, Value.int u]) 23 = Value.int y := n_v_newk (k := 1) hl rfl
  have e_24 : n_v (vs ++ [Value.int x, Value.int y, Value.int u]) 24 = Value.int u := n_v_newk (k := 2) hl rfl
  have nf0 : fc_1 PRD (23, [23, 2], [0, 1, -1]) ws (vs ++ [Value.int x, Value.int y, Value.int u]) := by
    refine ⟨fun n hn => ?_, ?_⟩
    · have hn : n ∈ [23, 2] := hn
      rw [List.length_append, hl]
      simp only [List.mem_cons, List.not_mem_nil, or_false] at hn
      show n < 22 + 3; omega
    · show 1 * v_iv (n_v (vs ++ [Value.int x, Value.int y, Value.int u]) 23) + ((-1) * v_iv (n_v (vs ++ [Value.int x, Value.int y, Value.int u]) 2) + 0) ≤ 0
      rw [e_2]
      rw [e_23]
      exact vc_Mo_across2_15_0 (v_iv (n_v vs 2)) (v_iv (n_v vs 3)) (v_iv (n_v vs 5)) (v_iv (n_v vs 7)) (v_iv (n_v vs 8)) (v_iv (n_v vs 9)) (v_iv (n_v vs 10)) (v_iv (n_v vs 11)) (v_iv (n_v vs 12)) (v_iv (n_v vs 13)) (v_iv (n_v vs 14)) (v_iv (n_v vs 15)) (v_iv (n_v vs 16)) (v_iv (n_v vs 17)) (v_iv (n_v vs 18)) (v_iv (n_v vs 19)) (v_iv (n_v vs 20)) (v_iv (n_v vs 21)) (w_ei ws (w_ar ws (n_v vs 0) 106)) (w_ei ws (w_ar ws (n_v vs 0) 105)) (w_ei ws (w_ar ws (n_v vs 0) 2)) (w_ei ws (w_ar ws (n_v vs 0) 95)) (w_ei ws (w_ar ws (n_v vs 0) 102)) (w_ei ws (w_ar ws (n_v vs 0) 104)) (w_ei ws (w_ar ws (n_v vs 0) 108)) (w_ei ws (w_ar ws (n_v vs 0) 109)) (w_fi ws (n_v vs 0) 5) (w_fi ws (n_v vs 0) 100) (w_fi ws (n_v vs 0) 101) (w_fi ws (n_v vs 0) 107) (w_fi ws (n_v vs 0) 79) (w_ei ws (w_ar ws (n_v vs 0) 83)) (w_ei ws (w_ar ws (n_v vs 0) 84)) (w_ei ws (w_ar ws (n_v vs 0) 85)) (w_ei ws (w_ar ws (n_v vs 0) 86)) (w_fi ws (n_v vs 0) 80) (w_ei ws (w_ar ws (n_v vs 0) 87)) (w_ei ws (w_ar ws (n_v vs 0) 88)) (w_ei ws (w_ar ws (n_v vs 0) 89)) (w_fi ws (n_v vs 0) 81) (v_iv (Value.int x)) (v_iv (Value.int y)) (v_iv (Value.int u)) k2 k3 k5 k7 k8 k9 k10 k11 k12 k13 k14 k15 k16 k17 k18 k19 k20 k21 d0 d1 d2 d3 d4 d5 d6 d7 d8 d9 d10 f0 f1 f2 f3 h4 f5 f6 h8 f9 f10 f11 f12 h13 f15 f16 f17 f18 f19 f20 f21 f22 f23 f24 hK_0_83 hK_0_84 hK_0_85 hK_0_86 hK_0_87 hK_0_88 hK_0_89 hK_0_95 hK_0_102 hK_0_104 hK_0_105 hK_0_106 hK_0_108 hK_0_109 kz_0_79 kz_0_80 kz_0_81 kz_0_100 kz_0_101 kz_0_107 ex2 ex3 ey2 ey3 eu2 eu3
  have nf1 : fc_1 PRD (23, [23, 2], [0, -1, 1]) ws (vs ++ [Value.int x, Value.int y, Value.int u]) := by
    refine ⟨fun n hn => ?_, ?_⟩
    · have hn : n ∈ [23, 2] := hn
      rw [List.length_append, hl]
      simp only [List.mem_cons, List.not_mem_nil, or_false] at hn
      show n < 22 + 3; omega
    · show (-1) * v_iv (n_v (vs ++ [Value.int x, Value.int y, Value.int u]) 23) + (1 * v_iv (n_v (vs ++ [Value.int x, Value.int y, Value.int u]) 2) + 0) ≤ 0
      rw [e_2]
      rw [e_23]
      exact vc_Mo_across2_15_1 (v_iv (n_v vs 2)) (v_iv (n_v vs 3)) (v_iv (n_v vs 5)) (v_iv (n_v vs 7)) (v_iv (n_v vs 8)) (v_iv (n_v vs 9)) (v_iv (n_v vs 10)) (v_iv (n_v vs 11)) (v_iv (n_v vs 12)) (v_iv (n_v vs 13)) (v_iv (n_v vs 14)) (v_iv (n_v vs 15)) (v_iv (n_v vs 16)) (v_iv (n_v vs 17)) (v_iv (n_v vs 18)) (v_iv (n_v vs 19)) (v_iv (n_v vs 20)) (v_iv (n_v vs 21)) (w_ei ws (w_ar ws (n_v vs 0) 106)) (w_ei ws (w_ar ws (n_v vs 0) 105)) (w_ei ws (w_ar ws (n_v vs 0) 2)) (w_ei ws (w_ar ws (n_v vs 0) 95)) (w_ei ws (w_ar ws (n_v vs 0) 102)) (w_ei ws (w_ar ws (n_v vs 0) 104)) (w_ei ws (w_ar ws (n_v vs 0) 108)) (w_ei ws (w_ar ws (n_v vs 0) 109)) (w_fi ws (n_v vs 0) 5) (w_fi ws (n_v vs 0) 100) (w_fi ws (n_v vs 0) 101) (w_fi ws (n_v vs 0) 107) (w_fi ws (n_v vs 0) 79) (w_ei ws (w_ar ws (n_v vs 0) 83)) (w_ei ws (w_ar ws (n_v vs 0) 84)) (w_ei ws (w_ar ws (n_v vs 0) 85)) (w_ei ws (w_ar ws (n_v vs 0) 86)) (w_fi ws (n_v vs 0) 80) (w_ei ws (w_ar ws (n_v vs 0) 87)) (w_ei ws (w_ar ws (n_v vs 0) 88)) (w_ei ws (w_ar ws (n_v vs 0) 89)) (w_fi ws (n_v vs 0) 81) (v_iv (Value.int x)) (v_iv (Value.int y)) (v_iv (Value.int u)) k2 k3 k5 k7 k8 k9 k10 k11 k12 k13 k14 k15 k16 k17 k18 k19 k20 k21 d0 d1 d2 d3 d4 d5 d6 d7 d8 d9 d10 f0 f1 f2 f3 h4 f5 f6 h8 f9 f10 f11 f12 h13 f15 f16 f17 f18 f19 f20 f21 f22 f23 f24 hK_0_83 hK_0_84 hK_0_85 hK_0_86 hK_0_87 hK_0_88 hK_0_89 hK_0_95 hK_0_102 hK_0_104 hK_0_105 hK_0_106 hK_0_108 hK_0_109 kz_0_79 kz_0_80 kz_0_81 kz_0_100 kz_0_101 kz_0_107 ex2 ex3 ey2 ey3 eu2 eu3
  have nf2 : fc_1 PRD (23, [24, 3], [0, 1, -1]) ws (vs ++ [Value.int x, Value.int y, Value.int u]) := by
    refine ⟨fun n hn => ?_, ?_⟩
    · have hn : n ∈ [24, 3] := hn
      rw [List.length_append, hl]
      simp only [List.mem_cons, List.not_mem_nil, or_false] at hn
      show n < 22 + 3; omega
    · show 1 * v_iv (n_v (vs ++ [Value.int x, Value.int y, Value.int u]) 24) + ((-1) * v_iv (n_v (vs ++ [Value.int x, Value.int y, Value.int u]) 3) + 0) ≤ 0
      rw [e_3]
      rw [e_24]
      exact vc_Mo_across2_15_2 (v_iv (n_v vs 2)) (v_iv (n_v vs 3)) (v_iv (n_v vs 5)) (v_iv (n_v vs 7)) (v_iv (n_v vs 8)) (v_iv (n_v vs 9)) (v_iv (n_v vs 10)) (v_iv (n_v vs 11)) (v_iv (n_v vs 12)) (v_iv (n_v vs 13)) (v_iv (n_v vs 14)) (v_iv (n_v vs 15)) (v_iv (n_v vs 16)) (v_iv (n_v vs 17)) (v_iv (n_v vs 18)) (v_iv (n_v vs 19)) (v_iv (n_v vs 20)) (v_iv (n_v vs 21)) (w_ei ws (w_ar ws (n_v vs 0) 106)) (w_ei ws (w_ar ws (n_v vs 0) 105)) (w_ei ws (w_ar ws (n_v vs 0) 2)) (w_ei ws (w_ar ws (n_v vs 0) 95)) (w_ei ws (w_ar ws (n_v vs 0) 102)) (w_ei ws (w_ar ws (n_v vs 0) 104)) (w_ei ws (w_ar ws (n_v vs 0) 108)) (w_ei ws (w_ar ws (n_v vs 0) 109)) (w_fi ws (n_v vs 0) 5) (w_fi ws (n_v vs 0) 100) (w_fi ws (n_v vs 0) 101) (w_fi ws (n_v vs 0) 107) (w_fi ws (n_v vs 0) 79) (w_ei ws (w_ar ws (n_v vs 0) 83)) (w_ei ws (w_ar ws (n_v vs 0) 84)) (w_ei ws (w_ar ws (n_v vs 0) 85)) (w_ei ws (w_ar ws (n_v vs 0) 86)) (w_fi ws (n_v vs 0) 80) (w_ei ws (w_ar ws (n_v vs 0) 87)) (w_ei ws (w_ar ws (n_v vs 0) 88)) (w_ei ws (w_ar ws (n_v vs 0) 89)) (w_fi ws (n_v vs 0) 81) (v_iv (Value.int x)) (v_iv (Value.int y)) (v_iv (Value.int u)) k2 k3 k5 k7 k8 k9 k10 k11 k12 k13 k14 k15 k16 k17 k18 k19 k20 k21 d0 d1 d2 d3 d4 d5 d6 d7 d8 d9 d10 f0 f1 f2 f3 h4 f5 f6 h8 f9 f10 f11 f12 h13 f15 f16 f17 f18 f19 f20 f21 f22 f23 f24 hK_0_83 hK_0_84 hK_0_85 hK_0_86 hK_0_87 hK_0_88 hK_0_89 hK_0_95 hK_0_102 hK_0_104 hK_0_105 hK_0_106 hK_0_108 hK_0_109 kz_0_79 kz_0_80 kz_0_81 kz_0_100 kz_0_101 kz_0_107 ex2 ex3 ey2 ey3 eu2 eu3
  have nf3 : fc_1 PRD (23, [24, 3], [0, -1, 1]) ws (vs ++ [Value.int x, Value.int y, Value.int u]) := by
    refine ⟨fun n hn => ?_, ?_⟩
    · have hn : n ∈ [24, 3] := hn
      rw [List.length_append, hl]
      simp only [List.mem_cons, List.not_mem_nil, or_false] at hn
      show n < 22 + 3; omega
    · show (-1) * v_iv (n_v (vs ++ [Value.int x, Value.int y, Value.int u]) 24) + (1 * v_iv (n_v (vs ++ [Value.int x, Value.int y, Value.int u]) 3) + 0) ≤ 0
      rw [e_3]
      rw [e_24]
      exact vc_Mo_across2_15_3 (v_iv (n_v vs 2)) (v_iv (n_v vs 3)) (v_iv (n_v vs 5)) (v_iv (n_v vs 7)) (v_iv (n_v vs 8)) (v_iv (n_v vs 9)) (v_iv (n_v vs 10)) (v_iv (n_v vs 11)) (v_iv (n_v vs 12)) (v_iv (n_v vs 13)) (v_iv (n_v vs 14)) (v_iv (n_v vs 15)) (v_iv (n_v vs 16)) (v_iv (n_v vs 17)) (v_iv (n_v vs 18)) (v_iv (n_v vs 19)) (v_iv (n_v vs 20)) (v_iv (n_v vs 21)) (w_ei ws (w_ar ws (n_v vs 0) 106)) (w_ei ws (w_ar ws (n_v vs 0) 105)) (w_ei ws (w_ar ws (n_v vs 0) 2)) (w_ei ws (w_ar ws (n_v vs 0) 95)) (w_ei ws (w_ar ws (n_v vs 0) 102)) (w_ei ws (w_ar ws (n_v vs 0) 104)) (w_ei ws (w_ar ws (n_v vs 0) 108)) (w_ei ws (w_ar ws (n_v vs 0) 109)) (w_fi ws (n_v vs 0) 5) (w_fi ws (n_v vs 0) 100) (w_fi ws (n_v vs 0) 101) (w_fi ws (n_v vs 0) 107) (w_fi ws (n_v vs 0) 79) (w_ei ws (w_ar ws (n_v vs 0) 83)) (w_ei ws (w_ar ws (n_v vs 0) 84)) (w_ei ws (w_ar ws (n_v vs 0) 85)) (w_ei ws (w_ar ws (n_v vs 0) 86)) (w_fi ws (n_v vs 0) 80) (w_ei ws (w_ar ws (n_v vs 0) 87)) (w_ei ws (w_ar ws (n_v vs 0) 88)) (w_ei ws (w_ar ws (n_v vs 0) 89)) (w_fi ws (n_v vs 0) 81) (v_iv (Value.int x)) (v_iv (Value.int y)) (v_iv (Value.int u)) k2 k3 k5 k7 k8 k9 k10 k11 k12 k13 k14 k15 k16 k17 k18 k19 k20 k21 d0 d1 d2 d3 d4 d5 d6 d7 d8 d9 d10 f0 f1 f2 f3 h4 f5 f6 h8 f9 f10 f11 f12 h13 f15 f16 f17 f18 f19 f20 f21 f22 f23 f24 hK_0_83 hK_0_84 hK_0_85 hK_0_86 hK_0_87 hK_0_88 hK_0_89 hK_0_95 hK_0_102 hK_0_104 hK_0_105 hK_0_106 hK_0_108 hK_0_109 kz_0_79 kz_0_80 kz_0_81 kz_0_100 kz_0_101 kz_0_107 ex2 ex3 ey2 ey3 eu2 eu3
  have nf4 : fc_1 PRD (20, [1, 22], [50, 1, 0, 81, 1, 3, 2, 0, 81, 1, 1]) ws (vs ++ [Value.int x, Value.int y, Value.int u]) := by
    refine ⟨fun n hn => ?_, ?_⟩
    · have hn : n ∈ [1, 22] := hn
      rw [List.length_append, hl]
      simp only [List.mem_cons, List.not_mem_nil, or_false] at hn
      show n < 22 + 3; omega
    · show w_fi ws (n_v (vs ++ [Value.int x, Value.int y, Value.int u]) 1) 81 = v_iv (n_v (vs ++ [Value.int x, Value.int y, Value.int u]) 22)
      rw [e_1]
      rw [e_22]
      rw [q1]
      exact vc_Mo_across2_15_4 (v_iv (n_v vs 2)) (v_iv (n_v vs 3)) (v_iv (n_v vs 5)) (v_iv (n_v vs 7)) (v_iv (n_v vs 8)) (v_iv (n_v vs 9)) (v_iv (n_v vs 10)) (v_iv (n_v vs 11)) (v_iv (n_v vs 12)) (v_iv (n_v vs 13)) (v_iv (n_v vs 14)) (v_iv (n_v vs 15)) (v_iv (n_v vs 16)) (v_iv (n_v vs 17)) (v_iv (n_v vs 18)) (v_iv (n_v vs 19)) (v_iv (n_v vs 20)) (v_iv (n_v vs 21)) (w_ei ws (w_ar ws (n_v vs 0) 106)) (w_ei ws (w_ar ws (n_v vs 0) 105)) (w_ei ws (w_ar ws (n_v vs 0) 2)) (w_ei ws (w_ar ws (n_v vs 0) 95)) (w_ei ws (w_ar ws (n_v vs 0) 102)) (w_ei ws (w_ar ws (n_v vs 0) 104)) (w_ei ws (w_ar ws (n_v vs 0) 108)) (w_ei ws (w_ar ws (n_v vs 0) 109)) (w_fi ws (n_v vs 0) 5) (w_fi ws (n_v vs 0) 100) (w_fi ws (n_v vs 0) 101) (w_fi ws (n_v vs 0) 107) (w_fi ws (n_v vs 0) 79) (w_ei ws (w_ar ws (n_v vs 0) 83)) (w_ei ws (w_ar ws (n_v vs 0) 84)) (w_ei ws (w_ar ws (n_v vs 0) 85)) (w_ei ws (w_ar ws (n_v vs 0) 86)) (w_fi ws (n_v vs 0) 80) (w_ei ws (w_ar ws (n_v vs 0) 87)) (w_ei ws (w_ar ws (n_v vs 0) 88)) (w_ei ws (w_ar ws (n_v vs 0) 89)) (w_fi ws (n_v vs 0) 81) (v_iv (Value.int x)) (v_iv (Value.int y)) (v_iv (Value.int u)) k2 k3 k5 k7 k8 k9 k10 k11 k12 k13 k14 k15 k16 k17 k18 k19 k20 k21 d0 d1 d2 d3 d4 d5 d6 d7 d8 d9 d10 f0 f1 f2 f3 h4 f5 f6 h8 f9 f10 f11 f12 h13 f15 f16 f17 f18 f19 f20 f21 f22 f23 f24 hK_0_83 hK_0_84 hK_0_85 hK_0_86 hK_0_87 hK_0_88 hK_0_89 hK_0_95 hK_0_102 hK_0_104 hK_0_105 hK_0_106 hK_0_108 hK_0_109 kz_0_79 kz_0_80 kz_0_81 kz_0_100 kz_0_101 kz_0_107 ex2 ex3 ey2 ey3 eu2 eu3
  have nf5 : fc_1 PRD (20, [1, 23, 24], [60, 2, 5, 393, 81, 101, 105, 106, 87, 88, 89]) ws (vs ++ [Value.int x, Value.int y, Value.int u]) := by
    refine ⟨fun n hn => ?_, ?_⟩
    · have hn : n ∈ [1, 23, 24] := hn
      rw [List.length_append, hl]
      simp only [List.mem_cons, List.not_mem_nil, or_false] at hn
      show n < 22 + 3; omega
    · show PAL2 (w_fi ws (n_v (vs ++ [Value.int x, Value.int y, Value.int u]) 1) 81) (w_fi ws (n_v (vs ++ [Value.int x, Value.int y, Value.int u]) 1) 101) (w_ei ws (w_ar ws (n_v (vs ++ [Value.int x, Value.int y, Value.int u]) 1) 105)) (w_ei ws (w_ar ws (n_v (vs ++ [Value.int x, Value.int y, Value.int u]) 1) 106)) (w_ei ws (w_ar ws (n_v (vs ++ [Value.int x, Value.int y, Value.int u]) 1) 87)) (w_ei ws (w_ar ws (n_v (vs ++ [Value.int x, Value.int y, Value.int u]) 1) 88)) (w_ei ws (w_ar ws (n_v (vs ++ [Value.int x, Value.int y, Value.int u]) 1) 89)) (v_iv (n_v (vs ++ [Value.int x, Value.int y, Value.int u]) 23)) (v_iv (n_v (vs ++ [Value.int x, Value.int y, Value.int u]) 24))
      rw [e_1]
      rw [e_23]
      rw [e_24]
      rw [q1]
      exact vc_Mo_across2_15_5 (v_iv (n_v vs 2)) (v_iv (n_v vs 3)) (v_iv (n_v vs 5)) (v_iv (n_v vs 7)) (v_iv (n_v vs 8)) (v_iv (n_v vs 9)) (v_iv (n_v vs 10)) (v_iv (n_v vs 11)) (v_iv (n_v vs 12)) (v_iv (n_v vs 13)) (v_iv (n_v vs 14)) (v_iv (n_v vs 15)) (v_iv (n_v vs 16)) (v_iv (n_v vs 17)) (v_iv (n_v vs 18)) (v_iv (n_v vs 19)) (v_iv (n_v vs 20)) (v_iv (n_v vs 21)) (w_ei ws (w_ar ws (n_v vs 0) 106)) (w_ei ws (w_ar ws (n_v vs 0) 105)) (w_ei ws (w_ar ws (n_v vs 0) 2)) (w_ei ws (w_ar ws (n_v vs 0) 95)) (w_ei ws (w_ar ws (n_v vs 0) 102)) (w_ei ws (w_ar ws (n_v vs 0) 104)) (w_ei ws (w_ar ws (n_v vs 0) 108)) (w_ei ws (w_ar ws (n_v vs 0) 109)) (w_fi ws (n_v vs 0) 5) (w_fi ws (n_v vs 0) 100) (w_fi ws (n_v vs 0) 101) (w_fi ws (n_v vs 0) 107) (w_fi ws (n_v vs 0) 79) (w_ei ws (w_ar ws (n_v vs 0) 83)) (w_ei ws (w_ar ws (n_v vs 0) 84)) (w_ei ws (w_ar ws (n_v vs 0) 85)) (w_ei ws (w_ar ws (n_v vs 0) 86)) (w_fi ws (n_v vs 0) 80) (w_ei ws (w_ar ws (n_v vs 0) 87)) (w_ei ws (w_ar ws (n_v vs 0) 88)) (w_ei ws (w_ar ws (n_v vs 0) 89)) (w_fi ws (n_v vs 0) 81) (v_iv (Value.int x)) (v_iv (Value.int y)) (v_iv (Value.int u)) k2 k3 k5 k7 k8 k9 k10 k11 k12 k13 k14 k15 k16 k17 k18 k19 k20 k21 d0 d1 d2 d3 d4 d5 d6 d7 d8 d9 d10 f0 f1 f2 f3 h4 f5 f6 h8 f9 f10 f11 f12 h13 f15 f16 f17 f18 f19 f20 f21 f22 f23 f24 hK_0_83 hK_0_84 hK_0_85 hK_0_86 hK_0_87 hK_0_88 hK_0_89 hK_0_95 hK_0_102 hK_0_104 hK_0_105 hK_0_106 hK_0_108 hK_0_109 kz_0_79 kz_0_80 kz_0_81 kz_0_100 kz_0_101 kz_0_107 ex2 ex3 ey2 ey3 eu2 eu3
  have nf6 : fc_1 PRD (20, [1, 23, 24, 12, 16], [60, 1, 2, 390, 101, 105, 106]) ws (vs ++ [Value.int x, Value.int y, Value.int u]) := by
    refine ⟨fun n hn => ?_, ?_⟩
    · have hn : n ∈ [1, 23, 24, 12, 16] := hn
      rw [List.length_append, hl]
      simp only [List.mem_cons, List.not_mem_nil, or_false] at hn
      show n < 22 + 3; omega
    · show PAN (w_fi ws (n_v (vs ++ [Value.int x, Value.int y, Value.int u]) 1) 101) (w_ei ws (w_ar ws (n_v (vs ++ [Value.int x, Value.int y, Value.int u]) 1) 105)) (w_ei ws (w_ar ws (n_v (vs ++ [Value.int x, Value.int y, Value.int u]) 1) 106)) (v_iv (n_v (vs ++ [Value.int x, Value.int y, Value.int u]) 23)) (v_iv (n_v (vs ++ [Value.int x, Value.int y, Value.int u]) 24)) (v_iv (n_v (vs ++ [Value.int x, Value.int y, Value.int u]) 12)) (v_iv (n_v (vs ++ [Value.int x, Value.int y, Value.int u]) 16))
      rw [e_1]
      rw [e_12]
      rw [e_16]
      rw [e_23]
      rw [e_24]
      rw [q1]
      exact vc_Mo_across2_15_6 (v_iv (n_v vs 2)) (v_iv (n_v vs 3)) (v_iv (n_v vs 5)) (v_iv (n_v vs 7)) (v_iv (n_v vs 8)) (v_iv (n_v vs 9)) (v_iv (n_v vs 10)) (v_iv (n_v vs 11)) (v_iv (n_v vs 12)) (v_iv (n_v vs 13)) (v_iv (n_v vs 14)) (v_iv (n_v vs 15)) (v_iv (n_v vs 16)) (v_iv (n_v vs 17)) (v_iv (n_v vs 18)) (v_iv (n_v vs 19)) (v_iv (n_v vs 20)) (v_iv (n_v vs 21)) (w_ei ws (w_ar ws (n_v vs 0) 106)) (w_ei ws (w_ar ws (n_v vs 0) 105)) (w_ei ws (w_ar ws (n_v vs 0) 2)) (w_ei ws (w_ar ws (n_v vs 0) 95)) (w_ei ws (w_ar ws (n_v vs 0) 102)) (w_ei ws (w_ar ws (n_v vs 0) 104)) (w_ei ws (w_ar ws (n_v vs 0) 108)) (w_ei ws (w_ar ws (n_v vs 0) 109)) (w_fi ws (n_v vs 0) 5) (w_fi ws (n_v vs 0) 100) (w_fi ws (n_v vs 0) 101) (w_fi ws (n_v vs 0) 107) (w_fi ws (n_v vs 0) 79) (w_ei ws (w_ar ws (n_v vs 0) 83)) (w_ei ws (w_ar ws (n_v vs 0) 84)) (w_ei ws (w_ar ws (n_v vs 0) 85)) (w_ei ws (w_ar ws (n_v vs 0) 86)) (w_fi ws (n_v vs 0) 80) (w_ei ws (w_ar ws (n_v vs 0) 87)) (w_ei ws (w_ar ws (n_v vs 0) 88)) (w_ei ws (w_ar ws (n_v vs 0) 89)) (w_fi ws (n_v vs 0) 81) (v_iv (Value.int x)) (v_iv (Value.int y)) (v_iv (Value.int u)) k2 k3 k5 k7 k8 k9 k10 k11 k12 k13 k14 k15 k16 k17 k18 k19 k20 k21 d0 d1 d2 d3 d4 d5 d6 d7 d8 d9 d10 f0 f1 f2 f3 h4 f5 f6 h8 f9 f10 f11 f12 h13 f15 f16 f17 f18 f19 f20 f21 f22 f23 f24 hK_0_83 hK_0_84 hK_0_85 hK_0_86 hK_0_87 hK_0_88 hK_0_89 hK_0_95 hK_0_102 hK_0_104 hK_0_105 hK_0_106 hK_0_108 hK_0_109 kz_0_79 kz_0_80 kz_0_81 kz_0_100 kz_0_101 kz_0_107 ex2 ex3 ey2 ey3 eu2 eu3
  have nf7 : fc_1 PRD (20, [21], [50, 0, 0, 2, 6, 0, 2, 0, 2, 1, 0, 0, 2, 1, 0, 0, 202]) ws (vs ++ [Value.int x, Value.int y, Value.int u]) := by
    refine ⟨fun n hn => ?_, ?_⟩
    · have hn : n ∈ [21] := hn
      rw [List.length_append, hl]
      simp only [List.mem_cons, List.not_mem_nil, or_false] at hn
      show n < 22 + 3; omega
    · show (2 ≤ v_iv (n_v (vs ++ [Value.int x, Value.int y, Value.int u]) 21)) ∧ (v_iv (n_v (vs ++ [Value.int x, Value.int y, Value.int u]) 21) ≤ 202)
      rw [e_21]
      exact vc_Mo_across2_15_7 (v_iv (n_v vs 2)) (v_iv (n_v vs 3)) (v_iv (n_v vs 5)) (v_iv (n_v vs 7)) (v_iv (n_v vs 8)) (v_iv (n_v vs 9)) (v_iv (n_v vs 10)) (v_iv (n_v vs 11)) (v_iv (n_v vs 12)) (v_iv (n_v vs 13)) (v_iv (n_v vs 14)) (v_iv (n_v vs 15)) (v_iv (n_v vs 16)) (v_iv (n_v vs 17)) (v_iv (n_v vs 18)) (v_iv (n_v vs 19)) (v_iv (n_v vs 20)) (v_iv (n_v vs 21)) (w_ei ws (w_ar ws (n_v vs 0) 106)) (w_ei ws (w_ar ws (n_v vs 0) 105)) (w_ei ws (w_ar ws (n_v vs 0) 2)) (w_ei ws (w_ar ws (n_v vs 0) 95)) (w_ei ws (w_ar ws (n_v vs 0) 102)) (w_ei ws (w_ar ws (n_v vs 0) 104)) (w_ei ws (w_ar ws (n_v vs 0) 108)) (w_ei ws (w_ar ws (n_v vs 0) 109)) (w_fi ws (n_v vs 0) 5) (w_fi ws (n_v vs 0) 100) (w_fi ws (n_v vs 0) 101) (w_fi ws (n_v vs 0) 107) (w_fi ws (n_v vs 0) 79) (w_ei ws (w_ar ws (n_v vs 0) 83)) (w_ei ws (w_ar ws (n_v vs 0) 84)) (w_ei ws (w_ar ws (n_v vs 0) 85)) (w_ei ws (w_ar ws (n_v vs 0) 86)) (w_fi ws (n_v vs 0) 80) (w_ei ws (w_ar ws (n_v vs 0) 87)) (w_ei ws (w_ar ws (n_v vs 0) 88)) (w_ei ws (w_ar ws (n_v vs 0) 89)) (w_fi ws (n_v vs 0) 81) (v_iv (Value.int x)) (v_iv (Value.int y)) (v_iv (Value.int u)) k2 k3 k5 k7 k8 k9 k10 k11 k12 k13 k14 k15 k16 k17 k18 k19 k20 k21 d0 d1 d2 d3 d4 d5 d6 d7 d8 d9 d10 f0 f1 f2 f3 h4 f5 f6 h8 f9 f10 f11 f12 h13 f15 f16 f17 f18 f19 f20 f21 f22 f23 f24 hK_0_83 hK_0_84 hK_0_85 hK_0_86 hK_0_87 hK_0_88 hK_0_89 hK_0_95 hK_0_102 hK_0_104 hK_0_105 hK_0_106 hK_0_108 hK_0_109 kz_0_79 kz_0_80 kz_0_81 kz_0_100 kz_0_101 kz_0_107 ex2 ex3 ey2 ey3 eu2 eu3
  exact ⟨(fun _ h => (by cases h)), [Value.int x, Value.int y, Value.int u], ag_three hx hy hu, List.forall_mem_cons.mpr ⟨⟨show (23 : Nat) < 100 from by decide, nf0⟩, List.forall_mem_cons.mpr ⟨⟨show (23 : Nat) < 100 from by decide, nf1⟩, List.forall_mem_cons.mpr ⟨⟨show (23 : Nat) < 100 from by decide, nf2⟩, List.forall_mem_cons.mpr ⟨⟨show (23 : Nat) < 100 from by decide, nf3⟩, List.forall_mem_cons.mpr ⟨⟨show (20 : Nat) < 100 from by decide, nf4⟩, List.forall_mem_cons.mpr ⟨⟨show (20 : Nat) < 100 from by decide, nf5⟩, List.forall_mem_cons.mpr ⟨⟨show (20 : Nat) < 100 from by decide, nf6⟩, List.forall_mem_cons.mpr ⟨⟨show (20 : Nat) < 100 from by decide, nf7⟩, (fun _ h => (by cases h))⟩⟩⟩⟩⟩⟩⟩⟩, (fun _ h => (by cases h))⟩
set_option maxHeartbeats 4000000 in
theorem vc_Mo_across2_16_0 (x2 : Int) (x3 : Int) (x5 : Int) (x12 : Int) (x16 : Int) (x17 : Int) (x18 : Int) (x19 : Int) (x20 : Int) (x21 : Int) (x22 : Int) (x23 : Int) (x24 : Int) (x25 : Int) (layerSize_0 : Int → Int) (layerItem_0 : Int → Int) (layerMany_0 : Int) (all_0 : Int → Int) (turned_0 : Int → Int) (itemLayer_0 : Int → Int) (firstJoint_0 : Int → Int) (lineA_0 : Int → Int) (lineB_0 : Int → Int) (r_0 : Int) (items_0 : Int) (lines_0 : Int) (pointMany_0 : Int) (costA_0 : Int → Int) (costB_0 : Int → Int) (costW_0 : Int → Int) (costPlain_0 : Int → Int) (costMany_0 : Int) (apartMany_0 : Int) (apartA_0 : Int → Int) (apartB_0 : Int → Int) (apart_0 : Int → Int) (k2 : 0 ≤ x2 ∧ x2 ≤ 75) (k3 : 1 ≤ x3 ∧ x3 ≤ 75) (k5 : 2 ≤ x5 ∧ x5 ≤ 76) (k12 : 0 ≤ x12 ∧ x12 ≤ 75) (k16 : 0 ≤ x16 ∧ x16 ≤ 75) (k17 : 0 ≤ x17 ∧ x17 ≤ 0) (k18 : 0 ≤ x18 ∧ x18 ≤ 0) (k19 : 0 ≤ x19 ∧ x19 ≤ 0) (k20 : 2 ≤ x20 ∧ x20 ≤ 2) (k21 : 2 ≤ x21 ∧ x21 ≤ 2) (k22 : 0 ≤ x22 ∧ x22 ≤ 199) (k23 : 0 ≤ x23 ∧ x23 ≤ 75) (k24 : 1 ≤ x24 ∧ x24 ≤ 75) (k25 : 2 ≤ x25 ∧ x25 ≤ 76) (d0 : x3 + 1 ≤ x25 ∧ x25 ≤ x3 + 1) (d1 : x5 + (-4294967296) ≤ x25 ∧ x25 ≤ x5 + 0) (d2 : x5 + (-4294967296) ≤ x3 ∧ x3 ≤ x5 + (-1)) (f0 : x25 = x3 + 1) (f1 : 1 * x23 + ((-1) * x2 + 0) ≤ 0) (f2 : (-1) * x23 + (1 * x2 + 0) ≤ 0) (f3 : 1 * x24 + ((-1) * x3 + 0) ≤ 0) (f4 : (-1) * x24 + (1 * x3 + 0) ≤ 0) (f5 : PAN (layerMany_0) (layerSize_0) (layerItem_0) (x23) (x24) (x12) (x16)) (f6 : (2 ≤ x21) ∧ (x21 ≤ 202)) (f7 : (0 ≤ x18) ∧ (x18 ≤ 100)) (f8 : (0 ≤ x17) ∧ (x17 ≤ 100)) (f9 : LSA (r_0) (items_0) (layerMany_0) (lines_0) (all_0) (turned_0) (itemLayer_0) (firstJoint_0) (lineA_0) (lineB_0)) (f10 : LSB (items_0) (layerMany_0) (itemLayer_0) (layerSize_0) (layerItem_0)) (f11 : SGR (r_0) (all_0)) (f12 : pointMany_0 = items_0) (f13 : PCQ (pointMany_0) (costMany_0) (costA_0) (costB_0) (costW_0) (costPlain_0)) (f14 : costMany_0 ≤ 130) (f15 : (x2 + 1) ≤ layerMany_0) (f16 : 1 ≤ x3) (f18 : apartMany_0 = (x22 + 1)) (f19 : PAP (apartMany_0) (layerMany_0) (layerSize_0) (layerItem_0) (apartA_0) (apartB_0) (apart_0) (x23) (x24)) (f21 : 1 * x23 + ((-1) * x2 + 0) ≤ 0) (f22 : (-1) * x23 + (1 * x2 + 0) ≤ 0) (f23 : 1 * x24 + ((-1) * x3 + 0) ≤ 0) (f24 : (-1) * x24 + (1 * x3 + 0) ≤ 0) (f25 : x21 = x19 + x20) (f26 : x19 = x17 + x18) (f27 : x3 < x5) (hK_0_83 : ∀ j : Int, 0 ≤ j → j < 200 → 0 ≤ costA_0 j ∧ costA_0 j ≤ 75) (hK_0_84 : ∀ j : Int, 0 ≤ j → j < 200 → 0 ≤ costB_0 j ∧ costB_0 j ≤ 75) (hK_0_85 : ∀ j : Int, 0 ≤ j → j < 200 → 0 ≤ costW_0 j ∧ costW_0 j ≤ 72) (hK_0_86 : ∀ j : Int, 0 ≤ j → j < 200 → 0 ≤ costPlain_0 j ∧ costPlain_0 j ≤ 1) (hK_0_87 : ∀ j : Int, 0 ≤ j → j < 200 → 0 ≤ apartA_0 j ∧ apartA_0 j ≤ 75) (hK_0_88 : ∀ j : Int, 0 ≤ j → j < 200 → 0 ≤ apartB_0 j ∧ apartB_0 j ≤ 75) (hK_0_89 : ∀ j : Int, 0 ≤ j → j < 200 → 0 ≤ apart_0 j ∧ apart_0 j ≤ 202) (hK_0_95 : ∀ j : Int, 0 ≤ j → j < 48 → 0 ≤ turned_0 j ∧ turned_0 j ≤ 1) (hK_0_102 : ∀ j : Int, 0 ≤ j → j < 76 → 0 ≤ itemLayer_0 j ∧ itemLayer_0 j ≤ 75) (hK_0_104 : ∀ j : Int, 0 ≤ j → j < 48 → 0 ≤ firstJoint_0 j ∧ firstJoint_0 j ≤ 76) (hK_0_105 : ∀ j : Int, 0 ≤ j → j < 76 → 0 ≤ layerSize_0 j ∧ layerSize_0 j ≤ 76) (hK_0_106 : ∀ j : Int, 0 ≤ j → j < 5776 → 0 ≤ layerItem_0 j ∧ layerItem_0 j ≤ 75) (hK_0_108 : ∀ j : Int, 0 ≤ j → j < 130 → 0 ≤ lineA_0 j ∧ lineA_0 j ≤ 75) (hK_0_109 : ∀ j : Int, 0 ≤ j → j < 130 → 0 ≤ lineB_0 j ∧ lineB_0 j ≤ 75) (kz_0_79 : 0 ≤ pointMany_0 ∧ pointMany_0 ≤ 76) (kz_0_80 : 0 ≤ costMany_0 ∧ costMany_0 ≤ 200) (kz_0_81 : 0 ≤ apartMany_0 ∧ apartMany_0 ≤ 200) (kz_0_100 : 0 ≤ items_0 ∧ items_0 ≤ 76) (kz_0_101 : 0 ≤ layerMany_0 ∧ layerMany_0 ≤ 76) (kz_0_107 : 0 ≤ lines_0 ∧ lines_0 ≤ 130) : PAL2 (apartMany_0) (layerMany_0) (layerSize_0) (layerItem_0) (apartA_0) (apartB_0) (apart_0) (x2) (x25) := by
  first
    | exact paq_less ‹PAL1 _ _ _ _ _ _ _ _› (by omega)
    | (have h := ‹PAP _ _ _ _ _ _ _ _ _›
       exact paq_less h (by omega))
set_option maxHeartbeats 4000000 in
theorem vc_Mo_across2_16_1 (x2 : Int) (x3 : Int) (x5 : Int) (x12 : Int) (x16 : Int) (x17 : Int) (x18 : Int) (x19 : Int) (x20 : Int) (x21 : Int) (x22 : Int) (x23 : Int) (x24 : Int) (x25 : Int) (layerSize_0 : Int → Int) (layerItem_0 : Int → Int) (layerMany_0 : Int) (all_0 : Int → Int) (turned_0 : Int → Int) (itemLayer_0 : Int → Int) (firstJoint_0 : Int → Int) (lineA_0 : Int → Int) (lineB_0 : Int → Int) (r_0 : Int) (items_0 : Int) (lines_0 : Int) (pointMany_0 : Int) (costA_0 : Int → Int) (costB_0 : Int → Int) (costW_0 : Int → Int) (costPlain_0 : Int → Int) (costMany_0 : Int) (apartMany_0 : Int) (apartA_0 : Int → Int) (apartB_0 : Int → Int) (apart_0 : Int → Int) (k2 : 0 ≤ x2 ∧ x2 ≤ 75) (k3 : 1 ≤ x3 ∧ x3 ≤ 75) (k5 : 2 ≤ x5 ∧ x5 ≤ 76) (k12 : 0 ≤ x12 ∧ x12 ≤ 75) (k16 : 0 ≤ x16 ∧ x16 ≤ 75) (k17 : 0 ≤ x17 ∧ x17 ≤ 0) (k18 : 0 ≤ x18 ∧ x18 ≤ 0) (k19 : 0 ≤ x19 ∧ x19 ≤ 0) (k20 : 2 ≤ x20 ∧ x20 ≤ 2) (k21 : 2 ≤ x21 ∧ x21 ≤ 2) (k22 : 0 ≤ x22 ∧ x22 ≤ 199) (k23 : 0 ≤ x23 ∧ x23 ≤ 75) (k24 : 1 ≤ x24 ∧ x24 ≤ 75) (k25 : 2 ≤ x25 ∧ x25 ≤ 76) (d0 : x3 + 1 ≤ x25 ∧ x25 ≤ x3 + 1) (d1 : x5 + (-4294967296) ≤ x25 ∧ x25 ≤ x5 + 0) (d2 : x5 + (-4294967296) ≤ x3 ∧ x3 ≤ x5 + (-1)) (f0 : x25 = x3 + 1) (f1 : 1 * x23 + ((-1) * x2 + 0) ≤ 0) (f2 : (-1) * x23 + (1 * x2 + 0) ≤ 0) (f3 : 1 * x24 + ((-1) * x3 + 0) ≤ 0) (f4 : (-1) * x24 + (1 * x3 + 0) ≤ 0) (f5 : PAN (layerMany_0) (layerSize_0) (layerItem_0) (x23) (x24) (x12) (x16)) (f6 : (2 ≤ x21) ∧ (x21 ≤ 202)) (f7 : (0 ≤ x18) ∧ (x18 ≤ 100)) (f8 : (0 ≤ x17) ∧ (x17 ≤ 100)) (f9 : LSA (r_0) (items_0) (layerMany_0) (lines_0) (all_0) (turned_0) (itemLayer_0) (firstJoint_0) (lineA_0) (lineB_0)) (f10 : LSB (items_0) (layerMany_0) (itemLayer_0) (layerSize_0) (layerItem_0)) (f11 : SGR (r_0) (all_0)) (f12 : pointMany_0 = items_0) (f13 : PCQ (pointMany_0) (costMany_0) (costA_0) (costB_0) (costW_0) (costPlain_0)) (f14 : costMany_0 ≤ 130) (f15 : (x2 + 1) ≤ layerMany_0) (f16 : 1 ≤ x3) (f18 : apartMany_0 = (x22 + 1)) (f19 : PAP (apartMany_0) (layerMany_0) (layerSize_0) (layerItem_0) (apartA_0) (apartB_0) (apart_0) (x23) (x24)) (f21 : 1 * x23 + ((-1) * x2 + 0) ≤ 0) (f22 : (-1) * x23 + (1 * x2 + 0) ≤ 0) (f23 : 1 * x24 + ((-1) * x3 + 0) ≤ 0) (f24 : (-1) * x24 + (1 * x3 + 0) ≤ 0) (f25 : x21 = x19 + x20) (f26 : x19 = x17 + x18) (f27 : x3 < x5) (hK_0_83 : ∀ j : Int, 0 ≤ j → j < 200 → 0 ≤ costA_0 j ∧ costA_0 j ≤ 75) (hK_0_84 : ∀ j : Int, 0 ≤ j → j < 200 → 0 ≤ costB_0 j ∧ costB_0 j ≤ 75) (hK_0_85 : ∀ j : Int, 0 ≤ j → j < 200 → 0 ≤ costW_0 j ∧ costW_0 j ≤ 72) (hK_0_86 : ∀ j : Int, 0 ≤ j → j < 200 → 0 ≤ costPlain_0 j ∧ costPlain_0 j ≤ 1) (hK_0_87 : ∀ j : Int, 0 ≤ j → j < 200 → 0 ≤ apartA_0 j ∧ apartA_0 j ≤ 75) (hK_0_88 : ∀ j : Int, 0 ≤ j → j < 200 → 0 ≤ apartB_0 j ∧ apartB_0 j ≤ 75) (hK_0_89 : ∀ j : Int, 0 ≤ j → j < 200 → 0 ≤ apart_0 j ∧ apart_0 j ≤ 202) (hK_0_95 : ∀ j : Int, 0 ≤ j → j < 48 → 0 ≤ turned_0 j ∧ turned_0 j ≤ 1) (hK_0_102 : ∀ j : Int, 0 ≤ j → j < 76 → 0 ≤ itemLayer_0 j ∧ itemLayer_0 j ≤ 75) (hK_0_104 : ∀ j : Int, 0 ≤ j → j < 48 → 0 ≤ firstJoint_0 j ∧ firstJoint_0 j ≤ 76) (hK_0_105 : ∀ j : Int, 0 ≤ j → j < 76 → 0 ≤ layerSize_0 j ∧ layerSize_0 j ≤ 76) (hK_0_106 : ∀ j : Int, 0 ≤ j → j < 5776 → 0 ≤ layerItem_0 j ∧ layerItem_0 j ≤ 75) (hK_0_108 : ∀ j : Int, 0 ≤ j → j < 130 → 0 ≤ lineA_0 j ∧ lineA_0 j ≤ 75) (hK_0_109 : ∀ j : Int, 0 ≤ j → j < 130 → 0 ≤ lineB_0 j ∧ lineB_0 j ≤ 75) (kz_0_79 : 0 ≤ pointMany_0 ∧ pointMany_0 ≤ 76) (kz_0_80 : 0 ≤ costMany_0 ∧ costMany_0 ≤ 200) (kz_0_81 : 0 ≤ apartMany_0 ∧ apartMany_0 ≤ 200) (kz_0_100 : 0 ≤ items_0 ∧ items_0 ≤ 76) (kz_0_101 : 0 ≤ layerMany_0 ∧ layerMany_0 ≤ 76) (kz_0_107 : 0 ≤ lines_0 ∧ lines_0 ≤ 130) : apartMany_0 ≤ 76 := by
  try simp only [Int.add_zero] at *
  first
    | omega
    | (have h := paq_am ‹LSB _ _ _ _ _› ‹PAP _ _ _ _ _ _ _ _ _› (by have h := ‹LSA _ _ _ _ _ _ _ _ _ _›.2.1; have n := ‹LSA _ _ _ _ _ _ _ _ _ _›.1.1.1.1; omega); have h2 := ‹LSB _ _ _ _ _›.1; omega)
set_option maxHeartbeats 4000000 in
theorem vc_Mo_across2_16_2 (x2 : Int) (x3 : Int) (x5 : Int) (x12 : Int) (x16 : Int) (x17 : Int) (x18 : Int) (x19 : Int) (x20 : Int) (x21 : Int) (x22 : Int) (x23 : Int) (x24 : Int) (x25 : Int) (layerSize_0 : Int → Int) (layerItem_0 : Int → Int) (layerMany_0 : Int) (all_0 : Int → Int) (turned_0 : Int → Int) (itemLayer_0 : Int → Int) (firstJoint_0 : Int → Int) (lineA_0 : Int → Int) (lineB_0 : Int → Int) (r_0 : Int) (items_0 : Int) (lines_0 : Int) (pointMany_0 : Int) (costA_0 : Int → Int) (costB_0 : Int → Int) (costW_0 : Int → Int) (costPlain_0 : Int → Int) (costMany_0 : Int) (apartMany_0 : Int) (apartA_0 : Int → Int) (apartB_0 : Int → Int) (apart_0 : Int → Int) (k2 : 0 ≤ x2 ∧ x2 ≤ 75) (k3 : 1 ≤ x3 ∧ x3 ≤ 75) (k5 : 2 ≤ x5 ∧ x5 ≤ 76) (k12 : 0 ≤ x12 ∧ x12 ≤ 75) (k16 : 0 ≤ x16 ∧ x16 ≤ 75) (k17 : 0 ≤ x17 ∧ x17 ≤ 0) (k18 : 0 ≤ x18 ∧ x18 ≤ 0) (k19 : 0 ≤ x19 ∧ x19 ≤ 0) (k20 : 2 ≤ x20 ∧ x20 ≤ 2) (k21 : 2 ≤ x21 ∧ x21 ≤ 2) (k22 : 0 ≤ x22 ∧ x22 ≤ 199) (k23 : 0 ≤ x23 ∧ x23 ≤ 75) (k24 : 1 ≤ x24 ∧ x24 ≤ 75) (k25 : 2 ≤ x25 ∧ x25 ≤ 76) (d0 : x3 + 1 ≤ x25 ∧ x25 ≤ x3 + 1) (d1 : x5 + (-4294967296) ≤ x25 ∧ x25 ≤ x5 + 0) (d2 : x5 + (-4294967296) ≤ x3 ∧ x3 ≤ x5 + (-1)) (f0 : x25 = x3 + 1) (f1 : 1 * x23 + ((-1) * x2 + 0) ≤ 0) (f2 : (-1) * x23 + (1 * x2 + 0) ≤ 0) (f3 : 1 * x24 + ((-1) * x3 + 0) ≤ 0) (f4 : (-1) * x24 + (1 * x3 + 0) ≤ 0) (f5 : PAN (layerMany_0) (layerSize_0) (layerItem_0) (x23) (x24) (x12) (x16)) (f6 : (2 ≤ x21) ∧ (x21 ≤ 202)) (f7 : (0 ≤ x18) ∧ (x18 ≤ 100)) (f8 : (0 ≤ x17) ∧ (x17 ≤ 100)) (f9 : LSA (r_0) (items_0) (layerMany_0) (lines_0) (all_0) (turned_0) (itemLayer_0) (firstJoint_0) (lineA_0) (lineB_0)) (f10 : LSB (items_0) (layerMany_0) (itemLayer_0) (layerSize_0) (layerItem_0)) (f11 : SGR (r_0) (all_0)) (f12 : pointMany_0 = items_0) (f13 : PCQ (pointMany_0) (costMany_0) (costA_0) (costB_0) (costW_0) (costPlain_0)) (f14 : costMany_0 ≤ 130) (f15 : (x2 + 1) ≤ layerMany_0) (f16 : 1 ≤ x3) (f18 : apartMany_0 = (x22 + 1)) (f19 : PAP (apartMany_0) (layerMany_0) (layerSize_0) (layerItem_0) (apartA_0) (apartB_0) (apart_0) (x23) (x24)) (f21 : 1 * x23 + ((-1) * x2 + 0) ≤ 0) (f22 : (-1) * x23 + (1 * x2 + 0) ≤ 0) (f23 : 1 * x24 + ((-1) * x3 + 0) ≤ 0) (f24 : (-1) * x24 + (1 * x3 + 0) ≤ 0) (f25 : x21 = x19 + x20) (f26 : x19 = x17 + x18) (f27 : x3 < x5) (hK_0_83 : ∀ j : Int, 0 ≤ j → j < 200 → 0 ≤ costA_0 j ∧ costA_0 j ≤ 75) (hK_0_84 : ∀ j : Int, 0 ≤ j → j < 200 → 0 ≤ costB_0 j ∧ costB_0 j ≤ 75) (hK_0_85 : ∀ j : Int, 0 ≤ j → j < 200 → 0 ≤ costW_0 j ∧ costW_0 j ≤ 72) (hK_0_86 : ∀ j : Int, 0 ≤ j → j < 200 → 0 ≤ costPlain_0 j ∧ costPlain_0 j ≤ 1) (hK_0_87 : ∀ j : Int, 0 ≤ j → j < 200 → 0 ≤ apartA_0 j ∧ apartA_0 j ≤ 75) (hK_0_88 : ∀ j : Int, 0 ≤ j → j < 200 → 0 ≤ apartB_0 j ∧ apartB_0 j ≤ 75) (hK_0_89 : ∀ j : Int, 0 ≤ j → j < 200 → 0 ≤ apart_0 j ∧ apart_0 j ≤ 202) (hK_0_95 : ∀ j : Int, 0 ≤ j → j < 48 → 0 ≤ turned_0 j ∧ turned_0 j ≤ 1) (hK_0_102 : ∀ j : Int, 0 ≤ j → j < 76 → 0 ≤ itemLayer_0 j ∧ itemLayer_0 j ≤ 75) (hK_0_104 : ∀ j : Int, 0 ≤ j → j < 48 → 0 ≤ firstJoint_0 j ∧ firstJoint_0 j ≤ 76) (hK_0_105 : ∀ j : Int, 0 ≤ j → j < 76 → 0 ≤ layerSize_0 j ∧ layerSize_0 j ≤ 76) (hK_0_106 : ∀ j : Int, 0 ≤ j → j < 5776 → 0 ≤ layerItem_0 j ∧ layerItem_0 j ≤ 75) (hK_0_108 : ∀ j : Int, 0 ≤ j → j < 130 → 0 ≤ lineA_0 j ∧ lineA_0 j ≤ 75) (hK_0_109 : ∀ j : Int, 0 ≤ j → j < 130 → 0 ≤ lineB_0 j ∧ lineB_0 j ≤ 75) (kz_0_79 : 0 ≤ pointMany_0 ∧ pointMany_0 ≤ 76) (kz_0_80 : 0 ≤ costMany_0 ∧ costMany_0 ≤ 200) (kz_0_81 : 0 ≤ apartMany_0 ∧ apartMany_0 ≤ 200) (kz_0_100 : 0 ≤ items_0 ∧ items_0 ≤ 76) (kz_0_101 : 0 ≤ layerMany_0 ∧ layerMany_0 ≤ 76) (kz_0_107 : 0 ≤ lines_0 ∧ lines_0 ≤ 130) : 1 ≤ x25 := by
  try simp only [Int.add_zero] at *
  first
    | omega
    | (have h := paq_am ‹LSB _ _ _ _ _› ‹PAP _ _ _ _ _ _ _ _ _› (by have h := ‹LSA _ _ _ _ _ _ _ _ _ _›.2.1; have n := ‹LSA _ _ _ _ _ _ _ _ _ _›.1.1.1.1; omega); have h2 := ‹LSB _ _ _ _ _›.1; omega)
def o_Mo_across2_16 : or_T := (188, 26, [(0, (2, 0, 0, [150])), (1, (2, 0, 0, [150])), (2, (0, 0, 75, [])), (3, (0, 1, 75, [])), (5, (0, 2, 76, [])), (12, (0, 0, 75, [])), (16, (0, 0, 75, [])), (17, (0, 0, 0, [])), (18, (0, 0, 0, [])), (19, (0, 0, 0, [])), (20, (0, 2, 2, [])), (21, (0, 2, 2, [])), (22, (0, 0, 199, [])), (23, (0, 0, 75, [])), (24, (0, 1, 75, [])), (25, (0, 2, 76, []))], [(6, [25, 3], [1]), (23, [23, 2], [0, 1, -1]), (23, [23, 2], [0, -1, 1]), (23, [24, 3], [0, 1, -1]), (23, [24, 3], [0, -1, 1]), (20, [1, 23, 24, 12, 16], [60, 1, 2, 390, 101, 105, 106]), (20, [21], [50, 0, 0, 2, 6, 0, 2, 0, 2, 1, 0, 0, 2, 1, 0, 0, 202]), (20, [18], [50, 0, 0, 2, 6, 0, 2, 0, 0, 1, 0, 0, 2, 1, 0, 0, 100]), (20, [17], [50, 0, 0, 2, 6, 0, 2, 0, 0, 1, 0, 0, 2, 1, 0, 0, 100]), (20, [1], [60, 4, 6, 369, 5, 100, 101, 107, 2, 95, 102, 104, 108, 109]), (20, [1], [60, 2, 3, 372, 100, 101, 102, 105, 106]), (20, [1], [60, 1, 1, 122, 5, 2]), (20, [1], [50, 2, 0, 79, 100, 1, 3, 2, 0, 79, 2, 0, 100]), (20, [1], [60, 2, 4, 380, 79, 80, 83, 84, 85, 86]), (20, [1], [50, 1, 0, 80, 0, 3, 2, 0, 80, 0, 130]), (20, [2, 1], [50, 1, 0, 1101, 0, 6, 4, 2, 1, 0, 0, 1, 2, 1, 101]), (20, [3], [50, 0, 0, 0, 2, 0, 1, 1, 0]), (24, [0, 1], []), (20, [1, 22], [50, 1, 0, 81, 1, 3, 2, 0, 81, 4, 2, 1, 1, 0, 1]), (20, [1, 23, 24], [60, 2, 5, 391, 81, 101, 105, 106, 87, 88, 89]), (102, [24], [5759265950624221147542392138950726767439575529717529521720131584, 13081]), (23, [23, 2], [0, 1, -1]), (23, [23, 2], [0, -1, 1]), (23, [24, 3], [0, 1, -1]), (23, [24, 3], [0, -1, 1]), (1, [21, 19, 20], []), (1, [19, 17, 18], []), (7, [3, 5], [2])], [], [], [(20, [1, 2, 25], [60, 2, 5, 393, 81, 101, 105, 106, 87, 88, 89]), (20, [1], [50, 1, 0, 81, 0, 3, 2, 0, 81, 0, 76]), (20, [25], [50, 0, 0, 0, 2, 0, 1, 1, 0])], [], [(25, 3, 1, 1), (25, 5, -4294967296, 0), (3, 5, -4294967296, -1)])
theorem oo_Mo_across2_16 {kA : Nat → ClassId} : or_ok PRD kA GG o_Mo_across2_16 := by
  intro A ta ws vs hD hth hl hk hds hf
  have hl : vs.length = 26 := hl
  have hk : ∀ q ∈ ([(0, (2, 0, 0, [150])), (1, (2, 0, 0, [150])), (2, (0, 0, 75, [])), (3, (0, 1, 75, [])), (5, (0, 2, 76, [])), (12, (0, 0, 75, [])), (16, (0, 0, 75, [])), (17, (0, 0, 0, [])), (18, (0, 0, 0, [])), (19, (0, 0, 0, [])), (20, (0, 2, 2, [])), (21, (0, 2, 2, [])), (22, (0, 0, 199, [])), (23, (0, 0, 75, [])), (24, (0, 1, 75, [])), (25, (0, 2, 76, []))] : List (Nat × tv_T)), tv_ok ta q.2 (n_v vs q.1) := hk
  obtain ⟨t0, hk⟩ := List.forall_mem_cons.mp hk
  have t0 : tv_ok ta (2, 0, 0, [150]) (n_v vs 0) := t0
  have r0 : ta (v_ad (n_v vs 0)) = some 150 := tv_rg t0
  obtain ⟨t1, hk⟩ := List.forall_mem_cons.mp hk
  have t1 : tv_ok ta (2, 0, 0, [150]) (n_v vs 1) := t1
  have r1 : ta (v_ad (n_v vs 1)) = some 150 := tv_rg t1
  obtain ⟨t2, hk⟩ := List.forall_mem_cons.mp hk
  have t2 : tv_ok ta (0, 0, 75, []) (n_v vs 2) := t2
  have k2 : 0 ≤ v_iv (n_v vs 2) ∧ v_iv (n_v vs 2) ≤ 75 := tv_rng t2
  obtain ⟨t3, hk⟩ := List.forall_mem_cons.mp hk
  have t3 : tv_ok ta (0, 1, 75, []) (n_v vs 3) := t3
  have k3 : 1 ≤ v_iv (n_v vs 3) ∧ v_iv (n_v vs 3) ≤ 75 := tv_rng t3
  obtain ⟨t5, hk⟩ := List.forall_mem_cons.mp hk
  have t5 : tv_ok ta (0, 2, 76, []) (n_v vs 5) := t5
  have k5 : 2 ≤ v_iv (n_v vs 5) ∧ v_iv (n_v vs 5) ≤ 76 := tv_rng t5
  obtain ⟨t12, hk⟩ := List.forall_mem_cons.mp hk
  have t12 : tv_ok ta (0, 0, 75, []) (n_v vs 12) := t12
  have k12 : 0 ≤ v_iv (n_v vs 12) ∧ v_iv (n_v vs 12) ≤ 75 := tv_rng t12
  obtain ⟨t16, hk⟩ := List.forall_mem_cons.mp hk
  have t16 : tv_ok ta (0, 0, 75, []) (n_v vs 16) := t16
  have k16 : 0 ≤ v_iv (n_v vs 16) ∧ v_iv (n_v vs 16) ≤ 75 := tv_rng t16
  obtain ⟨t17, hk⟩ := List.forall_mem_cons.mp hk
  have t17 : tv_ok ta (0, 0, 0, []) (n_v vs 17) := t17
  have k17 : 0 ≤ v_iv (n_v vs 17) ∧ v_iv (n_v vs 17) ≤ 0 := tv_rng t17
  obtain ⟨t18, hk⟩ := List.forall_mem_cons.mp hk
  have t18 : tv_ok ta (0, 0, 0, []) (n_v vs 18) := t18
  have k18 : 0 ≤ v_iv (n_v vs 18) ∧ v_iv (n_v vs 18) ≤ 0 := tv_rng t18
  obtain ⟨t19, hk⟩ := List.forall_mem_cons.mp hk
  have t19 : tv_ok ta (0, 0, 0, []) (n_v vs 19) := t19
  have k19 : 0 ≤ v_iv (n_v vs 19) ∧ v_iv (n_v vs 19) ≤ 0 := tv_rng t19
  obtain ⟨t20, hk⟩ := List.forall_mem_cons.mp hk
  have t20 : tv_ok ta (0, 2, 2, []) (n_v vs 20) := t20
  have k20 : 2 ≤ v_iv (n_v vs 20) ∧ v_iv (n_v vs 20) ≤ 2 := tv_rng t20
  obtain ⟨t21, hk⟩ := List.forall_mem_cons.mp hk
  have t21 : tv_ok ta (0, 2, 2, []) (n_v vs 21) := t21
  have k21 : 2 ≤ v_iv (n_v vs 21) ∧ v_iv (n_v vs 21) ≤ 2 := tv_rng t21
  obtain ⟨t22, hk⟩ := List.forall_mem_cons.mp hk
  have t22 : tv_ok ta (0, 0, 199, []) (n_v vs 22) := t22
  have k22 : 0 ≤ v_iv (n_v vs 22) ∧ v_iv (n_v vs 22) ≤ 199 := tv_rng t22
  obtain ⟨t23, hk⟩ := List.forall_mem_cons.mp hk
  have t23 : tv_ok ta (0, 0, 75, []) (n_v vs 23) := t23
  have k23 : 0 ≤ v_iv (n_v vs 23) ∧ v_iv (n_v vs 23) ≤ 75 := tv_rng t23
  obtain ⟨t24, hk⟩ := List.forall_mem_cons.mp hk
  have t24 : tv_ok ta (0, 1, 75, []) (n_v vs 24) := t24
  have k24 : 1 ≤ v_iv (n_v vs 24) ∧ v_iv (n_v vs 24) ≤ 75 := tv_rng t24
  obtain ⟨t25, hk⟩ := List.forall_mem_cons.mp hk
  have t25 : tv_ok ta (0, 2, 76, []) (n_v vs 25) := t25
  have k25 : 2 ≤ v_iv (n_v vs 25) ∧ v_iv (n_v vs 25) ≤ 76 := tv_rng t25
  have hds : ∀ q ∈ ([(25, 3, 1, 1), (25, 5, -4294967296, 0), (3, 5, -4294967296, -1)] : List of_T), n_iv vs q.2.1 + q.2.2.1 ≤ n_iv vs q.1 ∧ n_iv vs q.1 ≤ n_iv vs q.2.1 + q.2.2.2 := hds
  obtain ⟨d0, hds⟩ := List.forall_mem_cons.mp hds
  have d0 : v_iv (n_v vs 3) + 1 ≤ v_iv (n_v vs 25) ∧ v_iv (n_v vs 25) ≤ v_iv (n_v vs 3) + 1 := d0
  obtain ⟨d1, hds⟩ := List.forall_mem_cons.mp hds
  have d1 : v_iv (n_v vs 5) + (-4294967296) ≤ v_iv (n_v vs 25) ∧ v_iv (n_v vs 25) ≤ v_iv (n_v vs 5) + 0 := d1
  obtain ⟨d2, hds⟩ := List.forall_mem_cons.mp hds
  have d2 : v_iv (n_v vs 5) + (-4294967296) ≤ v_iv (n_v vs 3) ∧ v_iv (n_v vs 3) ≤ v_iv (n_v vs 5) + (-1) := d2
  have hf : fc_ok PRD [(6, [25, 3], [1]), (23, [23, 2], [0, 1, -1]), (23, [23, 2], [0, -1, 1]), (23, [24, 3], [0, 1, -1]), (23, [24, 3], [0, -1, 1]), (20, [1, 23, 24, 12, 16], [60, 1, 2, 390, 101, 105, 106]), (20, [21], [50, 0, 0, 2, 6, 0, 2, 0, 2, 1, 0, 0, 2, 1, 0, 0, 202]), (20, [18], [50, 0, 0, 2, 6, 0, 2, 0, 0, 1, 0, 0, 2, 1, 0, 0, 100]), (20, [17], [50, 0, 0, 2, 6, 0, 2, 0, 0, 1, 0, 0, 2, 1, 0, 0, 100]), (20, [1], [60, 4, 6, 369, 5, 100, 101, 107, 2, 95, 102, 104, 108, 109]), (20, [1], [60, 2, 3, 372, 100, 101, 102, 105, 106]), (20, [1], [60, 1, 1, 122, 5, 2]), (20, [1], [50, 2, 0, 79, 100, 1, 3, 2, 0, 79, 2, 0, 100]), (20, [1], [60, 2, 4, 380, 79, 80, 83, 84, 85, 86]), (20, [1], [50, 1, 0, 80, 0, 3, 2, 0, 80, 0, 130]), (20, [2, 1], [50, 1, 0, 1101, 0, 6, 4, 2, 1, 0, 0, 1, 2, 1, 101]), (20, [3], [50, 0, 0, 0, 2, 0, 1, 1, 0]), (24, [0, 1], []), (20, [1, 22], [50, 1, 0, 81, 1, 3, 2, 0, 81, 4, 2, 1, 1, 0, 1]), (20, [1, 23, 24], [60, 2, 5, 391, 81, 101, 105, 106, 87, 88, 89]), (102, [24], [5759265950624221147542392138950726767439575529717529521720131584, 13081]), (23, [23, 2], [0, 1, -1]), (23, [23, 2], [0, -1, 1]), (23, [24, 3], [0, 1, -1]), (23, [24, 3], [0, -1, 1]), (1, [21, 19, 20], []), (1, [19, 17, 18], []), (7, [3, 5], [2])] ta ws vs := hf
  obtain ⟨f0, hf⟩ := fc_un (show (6 : Nat) < 100 from by decide) hf
  have f0 : v_iv (n_v vs 25) = v_iv (n_v vs 3) + 1 := f0
  obtain ⟨f1, hf⟩ := fc_un (show (23 : Nat) < 100 from by decide) hf
  have f1 : 1 * v_iv (n_v vs 23) + ((-1) * v_iv (n_v vs 2) + 0) ≤ 0 := f1
  obtain ⟨f2, hf⟩ := fc_un (show (23 : Nat) < 100 from by decide) hf
  have f2 : (-1) * v_iv (n_v vs 23) + (1 * v_iv (n_v vs 2) + 0) ≤ 0 := f2
  obtain ⟨f3, hf⟩ := fc_un (show (23 : Nat) < 100 from by decide) hf
  have f3 : 1 * v_iv (n_v vs 24) + ((-1) * v_iv (n_v vs 3) + 0) ≤ 0 := f3
  obtain ⟨f4, hf⟩ := fc_un (show (23 : Nat) < 100 from by decide) hf
  have f4 : (-1) * v_iv (n_v vs 24) + (1 * v_iv (n_v vs 3) + 0) ≤ 0 := f4
  obtain ⟨f5, hf⟩ := fc_un (show (20 : Nat) < 100 from by decide) hf
  have f5 : PAN (w_fi ws (n_v vs 1) 101) (w_ei ws (w_ar ws (n_v vs 1) 105)) (w_ei ws (w_ar ws (n_v vs 1) 106)) (v_iv (n_v vs 23)) (v_iv (n_v vs 24)) (v_iv (n_v vs 12)) (v_iv (n_v vs 16)) := f5
  obtain ⟨f6, hf⟩ := fc_un (show (20 : Nat) < 100 from by decide) hf
  have f6 : (2 ≤ v_iv (n_v vs 21)) ∧ (v_iv (n_v vs 21) ≤ 202) := f6
  obtain ⟨f7, hf⟩ := fc_un (show (20 : Nat) < 100 from by decide) hf
  have f7 : (0 ≤ v_iv (n_v vs 18)) ∧ (v_iv (n_v vs 18) ≤ 100) := f7
  obtain ⟨f8, hf⟩ := fc_un (show (20 : Nat) < 100 from by decide) hf
  have f8 : (0 ≤ v_iv (n_v vs 17)) ∧ (v_iv (n_v vs 17) ≤ 100) := f8
  obtain ⟨f9, hf⟩ := fc_un (show (20 : Nat) < 100 from by decide) hf
  have f9 : LSA (w_fi ws (n_v vs 1) 5) (w_fi ws (n_v vs 1) 100) (w_fi ws (n_v vs 1) 101) (w_fi ws (n_v vs 1) 107) (w_ei ws (w_ar ws (n_v vs 1) 2)) (w_ei ws (w_ar ws (n_v vs 1) 95)) (w_ei ws (w_ar ws (n_v vs 1) 102)) (w_ei ws (w_ar ws (n_v vs 1) 104)) (w_ei ws (w_ar ws (n_v vs 1) 108)) (w_ei ws (w_ar ws (n_v vs 1) 109)) := f9
  obtain ⟨f10, hf⟩ := fc_un (show (20 : Nat) < 100 from by decide) hf
  have f10 : LSB (w_fi ws (n_v vs 1) 100) (w_fi ws (n_v vs 1) 101) (w_ei ws (w_ar ws (n_v vs 1) 102)) (w_ei ws (w_ar ws (n_v vs 1) 105)) (w_ei ws (w_ar ws (n_v vs 1) 106)) := f10
  obtain ⟨f11, hf⟩ := fc_un (show (20 : Nat) < 100 from by decide) hf
  have f11 : SGR (w_fi ws (n_v vs 1) 5) (w_ei ws (w_ar ws (n_v vs 1) 2)) := f11
  obtain ⟨f12, hf⟩ := fc_un (show (20 : Nat) < 100 from by decide) hf
  have f12 : w_fi ws (n_v vs 1) 79 = w_fi ws (n_v vs 1) 100 := f12
  obtain ⟨f13, hf⟩ := fc_un (show (20 : Nat) < 100 from by decide) hf
  have f13 : PCQ (w_fi ws (n_v vs 1) 79) (w_fi ws (n_v vs 1) 80) (w_ei ws (w_ar ws (n_v vs 1) 83)) (w_ei ws (w_ar ws (n_v vs 1) 84)) (w_ei ws (w_ar ws (n_v vs 1) 85)) (w_ei ws (w_ar ws (n_v vs 1) 86)) := f13
  obtain ⟨f14, hf⟩ := fc_un (show (20 : Nat) < 100 from by decide) hf
  have f14 : w_fi ws (n_v vs 1) 80 ≤ 130 := f14
  obtain ⟨f15, hf⟩ := fc_un (show (20 : Nat) < 100 from by decide) hf
  have f15 : (v_iv (n_v vs 2) + 1) ≤ w_fi ws (n_v vs 1) 101 := f15
  obtain ⟨f16, hf⟩ := fc_un (show (20 : Nat) < 100 from by decide) hf
  have f16 : 1 ≤ v_iv (n_v vs 3) := f16
  obtain ⟨f17, hf⟩ := fc_un (show (24 : Nat) < 100 from by decide) hf
  have f17 : n_v vs 0 = n_v vs 1 := f17
  obtain ⟨f18, hf⟩ := fc_un (show (20 : Nat) < 100 from by decide) hf
  have f18 : w_fi ws (n_v vs 1) 81 = (v_iv (n_v vs 22) + 1) := f18
  obtain ⟨f19, hf⟩ := fc_un (show (20 : Nat) < 100 from by decide) hf
  have f19 : PAP (w_fi ws (n_v vs 1) 81) (w_fi ws (n_v vs 1) 101) (w_ei ws (w_ar ws (n_v vs 1) 105)) (w_ei ws (w_ar ws (n_v vs 1) 106)) (w_ei ws (w_ar ws (n_v vs 1) 87)) (w_ei ws (w_ar ws (n_v vs 1) 88)) (w_ei ws (w_ar ws (n_v vs 1) 89)) (v_iv (n_v vs 23)) (v_iv (n_v vs 24)) := f19
  obtain ⟨ta1, w1, le1, ⟨_, s1⟩, hf⟩ := fc_us (show ¬ (102 : Nat) < 100 from by decide) hf
  obtain ⟨f21, hf⟩ := fc_un (show (23 : Nat) < 100 from by decide) hf
  have f21 : 1 * v_iv (n_v vs 23) + ((-1) * v_iv (n_v vs 2) + 0) ≤ 0 := f21
  obtain ⟨f22, hf⟩ := fc_un (show (23 : Nat) < 100 from by decide) hf
  have f22 : (-1) * v_iv (n_v vs 23) + (1 * v_iv (n_v vs 2) + 0) ≤ 0 := f22
  obtain ⟨f23, hf⟩ := fc_un (show (23 : Nat) < 100 from by decide) hf
  have f23 : 1 * v_iv (n_v vs 24) + ((-1) * v_iv (n_v vs 3) + 0) ≤ 0 := f23
  obtain ⟨f24, hf⟩ := fc_un (show (23 : Nat) < 100 from by decide) hf
  have f24 : (-1) * v_iv (n_v vs 24) + (1 * v_iv (n_v vs 3) + 0) ≤ 0 := f24
  obtain ⟨f25, hf⟩ := fc_un (show (1 : Nat) < 100 from by decide) hf
  have f25 : v_iv (n_v vs 21) = v_iv (n_v vs 19) + v_iv (n_v vs 20) := f25
  obtain ⟨f26, hf⟩ := fc_un (show (1 : Nat) < 100 from by decide) hf
  have f26 : v_iv (n_v vs 19) = v_iv (n_v vs 17) + v_iv (n_v vs 18) := f26
  obtain ⟨f27, hf⟩ := fc_un (show (7 : Nat) < 100 from by decide) hf
  have f27 : v_iv (n_v vs 3) < v_iv (n_v vs 5) := f27
  have q1 : n_v vs 1 = n_v vs 0 := f17.symm
  rw [q1] at f5
  rw [q1] at f9
  rw [q1] at f10
  rw [q1] at f11
  rw [q1] at f12
  rw [q1] at f13
  rw [q1] at f14
  rw [q1] at f15
  rw [q1] at f18
  rw [q1] at f19
  have cr_0_2 : ta (w_ar ws (n_v vs 0) 2) = some 152 := tv_rg (th_fd hD hth r0 (g := GG_150) rfl (k := 2) (t := (2, 0, 0, [152])) rfl rfl)
  have cr_0_83 : ta (w_ar ws (n_v vs 0) 83) = some 205 := tv_rg (th_fd hD hth r0 (g := GG_150) rfl (k := 83) (t := (2, 0, 0, [205])) rfl rfl)
  have cr_0_84 : ta (w_ar ws (n_v vs 0) 84) = some 206 := tv_rg (th_fd hD hth r0 (g := GG_150) rfl (k := 84) (t := (2, 0, 0, [206])) rfl rfl)
  have cr_0_85 : ta (w_ar ws (n_v vs 0) 85) = some 207 := tv_rg (th_fd hD hth r0 (g := GG_150) rfl (k := 85) (t := (2, 0, 0, [207])) rfl rfl)
  have cr_0_86 : ta (w_ar ws (n_v vs 0) 86) = some 208 := tv_rg (th_fd hD hth r0 (g := GG_150) rfl (k := 86) (t := (2, 0, 0, [208])) rfl rfl)
  have cr_0_87 : ta (w_ar ws (n_v vs 0) 87) = some 209 := tv_rg (th_fd hD hth r0 (g := GG_150) rfl (k := 87) (t := (2, 0, 0, [209])) rfl rfl)
  have cr_0_88 : ta (w_ar ws (n_v vs 0) 88) = some 210 := tv_rg (th_fd hD hth r0 (g := GG_150) rfl (k := 88) (t := (2, 0, 0, [210])) rfl rfl)
  have cr_0_89 : ta (w_ar ws (n_v vs 0) 89) = some 211 := tv_rg (th_fd hD hth r0 (g := GG_150) rfl (k := 89) (t := (2, 0, 0, [211])) rfl rfl)
  have cr_0_95 : ta (w_ar ws (n_v vs 0) 95) = some 216 := tv_rg (th_fd hD hth r0 (g := GG_150) rfl (k := 95) (t := (2, 0, 0, [216])) rfl rfl)
  have cr_0_102 : ta (w_ar ws (n_v vs 0) 102) = some 220 := tv_rg (th_fd hD hth r0 (g := GG_150) rfl (k := 102) (t := (2, 0, 0, [220])) rfl rfl)
  have cr_0_104 : ta (w_ar ws (n_v vs 0) 104) = some 222 := tv_rg (th_fd hD hth r0 (g := GG_150) rfl (k := 104) (t := (2, 0, 0, [222])) rfl rfl)
  have cr_0_105 : ta (w_ar ws (n_v vs 0) 105) = some 223 := tv_rg (th_fd hD hth r0 (g := GG_150) rfl (k := 105) (t := (2, 0, 0, [223])) rfl rfl)
  have cr_0_106 : ta (w_ar ws (n_v vs 0) 106) = some 224 := tv_rg (th_fd hD hth r0 (g := GG_150) rfl (k := 106) (t := (2, 0, 0, [224])) rfl rfl)
  have cr_0_108 : ta (w_ar ws (n_v vs 0) 108) = some 225 := tv_rg (th_fd hD hth r0 (g := GG_150) rfl (k := 108) (t := (2, 0, 0, [225])) rfl rfl)
  have cr_0_109 : ta (w_ar ws (n_v vs 0) 109) = some 226 := tv_rg (th_fd hD hth r0 (g := GG_150) rfl (k := 109) (t := (2, 0, 0, [226])) rfl rfl)
  have hK_0_83 : ∀ j : Int, 0 ≤ j → j < 200 → 0 ≤ w_ei ws (w_ar ws (n_v vs 0) 83) j ∧ w_ei ws (w_ar ws (n_v vs 0) 83) j ≤ 75 := fun j h0 h1 => th_el hD hth cr_0_83 (kd := 0) (n := 200) (m := 200) (lo := 0) (hi := 75) (rs := []) (L := []) rfl (by decide) (j := j.toNat) (by omega)
  have hK_0_84 : ∀ j : Int, 0 ≤ j → j < 200 → 0 ≤ w_ei ws (w_ar ws (n_v vs 0) 84) j ∧ w_ei ws (w_ar ws (n_v vs 0) 84) j ≤ 75 := fun j h0 h1 => th_el hD hth cr_0_84 (kd := 0) (n := 200) (m := 200) (lo := 0) (hi := 75) (rs := []) (L := []) rfl (by decide) (j := j.toNat) (by omega)
  have hK_0_85 : ∀ j : Int, 0 ≤ j → j < 200 → 0 ≤ w_ei ws (w_ar ws (n_v vs 0) 85) j ∧ w_ei ws (w_ar ws (n_v vs 0) 85) j ≤ 72 := fun j h0 h1 => th_el hD hth cr_0_85 (kd := 0) (n := 200) (m := 200) (lo := 0) (hi := 72) (rs := []) (L := []) rfl (by decide) (j := j.toNat) (by omega)
  have hK_0_86 : ∀ j : Int, 0 ≤ j → j < 200 → 0 ≤ w_ei ws (w_ar ws (n_v vs 0) 86) j ∧ w_ei ws (w_ar ws (n_v vs 0) 86) j ≤ 1 := fun j h0 h1 => th_el hD hth cr_0_86 (kd := 2) (n := 200) (m := 200) (lo := 0) (hi := 1) (rs := []) (L := []) rfl (by decide) (j := j.toNat) (by omega)
  have hK_0_87 : ∀ j : Int, 0 ≤ j → j < 200 → 0 ≤ w_ei ws (w_ar ws (n_v vs 0) 87) j ∧ w_ei ws (w_ar ws (n_v vs 0) 87) j ≤ 75 := fun j h0 h1 => th_el hD hth cr_0_87 (kd := 0) (n := 200) (m := 200) (lo := 0) (hi := 75) (rs := []) (L := []) rfl (by decide) (j := j.toNat) (by omega)
  have hK_0_88 : ∀ j : Int, 0 ≤ j → j < 200 → 0 ≤ w_ei ws (w_ar ws (n_v vs 0) 88) j ∧ w_ei ws (w_ar ws (n_v vs 0) 88) j ≤ 75 := fun j h0 h1 => th_el hD hth cr_0_88 (kd := 0) (n := 200) (m := 200) (lo := 0) (hi := 75) (rs := []) (L := []) rfl (by decide) (j := j.toNat) (by omega)
  have hK_0_89 : ∀ j : Int, 0 ≤ j → j < 200 → 0 ≤ w_ei ws (w_ar ws (n_v vs 0) 89) j ∧ w_ei ws (w_ar ws (n_v vs 0) 89) j ≤ 202 := fun j h0 h1 => th_el hD hth cr_0_89 (kd := 0) (n := 200) (m := 200) (lo := 0) (hi := 202) (rs := []) (L := []) rfl (by decide) (j := j.toNat) (by omega)
  have hK_0_95 : ∀ j : Int, 0 ≤ j → j < 48 → 0 ≤ w_ei ws (w_ar ws (n_v vs 0) 95) j ∧ w_ei ws (w_ar ws (n_v vs 0) 95) j ≤ 1 := fun j h0 h1 => th_el hD hth cr_0_95 (kd := 2) (n := 48) (m := 48) (lo := 0) (hi := 1) (rs := []) (L := []) rfl (by decide) (j := j.toNat) (by omega)
  have hK_0_102 : ∀ j : Int, 0 ≤ j → j < 76 → 0 ≤ w_ei ws (w_ar ws (n_v vs 0) 102) j ∧ w_ei ws (w_ar ws (n_v vs 0) 102) j ≤ 75 := fun j h0 h1 => th_el hD hth cr_0_102 (kd := 0) (n := 76) (m := 76) (lo := 0) (hi := 75) (rs := []) (L := []) rfl (by decide) (j := j.toNat) (by omega)
  have hK_0_104 : ∀ j : Int, 0 ≤ j → j < 48 → 0 ≤ w_ei ws (w_ar ws (n_v vs 0) 104) j ∧ w_ei ws (w_ar ws (n_v vs 0) 104) j ≤ 76 := fun j h0 h1 => th_el hD hth cr_0_104 (kd := 0) (n := 48) (m := 48) (lo := 0) (hi := 76) (rs := []) (L := []) rfl (by decide) (j := j.toNat) (by omega)
  have hK_0_105 : ∀ j : Int, 0 ≤ j → j < 76 → 0 ≤ w_ei ws (w_ar ws (n_v vs 0) 105) j ∧ w_ei ws (w_ar ws (n_v vs 0) 105) j ≤ 76 := fun j h0 h1 => th_el hD hth cr_0_105 (kd := 0) (n := 76) (m := 76) (lo := 0) (hi := 76) (rs := []) (L := []) rfl (by decide) (j := j.toNat) (by omega)
  have hK_0_106 : ∀ j : Int, 0 ≤ j → j < 5776 → 0 ≤ w_ei ws (w_ar ws (n_v vs 0) 106) j ∧ w_ei ws (w_ar ws (n_v vs 0) 106) j ≤ 75 := fun j h0 h1 => th_el hD hth cr_0_106 (kd := 0) (n := 5776) (m := 5776) (lo := 0) (hi := 75) (rs := []) (L := []) rfl (by decide) (j := j.toNat) (by omega)
  have hK_0_108 : ∀ j : Int, 0 ≤ j → j < 130 → 0 ≤ w_ei ws (w_ar ws (n_v vs 0) 108) j ∧ w_ei ws (w_ar ws (n_v vs 0) 108) j ≤ 75 := fun j h0 h1 => th_el hD hth cr_0_108 (kd := 0) (n := 130) (m := 130) (lo := 0) (hi := 75) (rs := []) (L := []) rfl (by decide) (j := j.toNat) (by omega)
  have hK_0_109 : ∀ j : Int, 0 ≤ j → j < 130 → 0 ≤ w_ei ws (w_ar ws (n_v vs 0) 109) j ∧ w_ei ws (w_ar ws (n_v vs 0) 109) j ≤ 75 := fun j h0 h1 => th_el hD hth cr_0_109 (kd := 0) (n := 130) (m := 130) (lo := 0) (hi := 75) (rs := []) (L := []) rfl (by decide) (j := j.toNat) (by omega)
  have kz_0_79 : 0 ≤ w_fi ws (n_v vs 0) 79 ∧ w_fi ws (n_v vs 0) 79 ≤ 76 := tv_rng (th_fd hD hth r0 (g := GG_150) rfl (k := 79) (t := (0, 0, 76, [])) rfl rfl)
  have kz_0_80 : 0 ≤ w_fi ws (n_v vs 0) 80 ∧ w_fi ws (n_v vs 0) 80 ≤ 200 := tv_rng (th_fd hD hth r0 (g := GG_150) rfl (k := 80) (t := (0, 0, 200, [])) rfl rfl)
  have kz_0_81 : 0 ≤ w_fi ws (n_v vs 0) 81 ∧ w_fi ws (n_v vs 0) 81 ≤ 200 := tv_rng (th_fd hD hth r0 (g := GG_150) rfl (k := 81) (t := (0, 0, 200, [])) rfl rfl)
  have kz_0_100 : 0 ≤ w_fi ws (n_v vs 0) 100 ∧ w_fi ws (n_v vs 0) 100 ≤ 76 := tv_rng (th_fd hD hth r0 (g := GG_150) rfl (k := 100) (t := (0, 0, 76, [])) rfl rfl)
  have kz_0_101 : 0 ≤ w_fi ws (n_v vs 0) 101 ∧ w_fi ws (n_v vs 0) 101 ≤ 76 := tv_rng (th_fd hD hth r0 (g := GG_150) rfl (k := 101) (t := (0, 0, 76, [])) rfl rfl)
  have kz_0_107 : 0 ≤ w_fi ws (n_v vs 0) 107 ∧ w_fi ws (n_v vs 0) 107 ≤ 130 := tv_rng (th_fd hD hth r0 (g := GG_150) rfl (k := 107) (t := (0, 0, 130, [])) rfl rfl)
  have nf0 : fc_1 PRD (20, [1, 2, 25], [60, 2, 5, 393, 81, 101, 105, 106, 87, 88, 89]) ws (vs) := by
    refine ⟨fun n hn => ?_, ?_⟩
    · have hn : n ∈ [1, 2, 25] := hn
      rw [hl]
      simp only [List.mem_cons, List.not_mem_nil, or_false] at hn
      show n < 26; omega
    · show PAL2 (w_fi ws (n_v vs 1) 81) (w_fi ws (n_v vs 1) 101) (w_ei ws (w_ar ws (n_v vs 1) 105)) (w_ei ws (w_ar ws (n_v vs 1) 106)) (w_ei ws (w_ar ws (n_v vs 1) 87)) (w_ei ws (w_ar ws (n_v vs 1) 88)) (w_ei ws (w_ar ws (n_v vs 1) 89)) (v_iv (n_v vs 2)) (v_iv (n_v vs 25))
      rw [q1]
      exact vc_Mo_across2_16_0 (v_iv (n_v vs 2)) (v_iv (n_v vs 3)) (v_iv (n_v vs 5)) (v_iv (n_v vs 12)) (v_iv (n_v vs 16)) (v_iv (n_v vs 17)) (v_iv (n_v vs 18)) (v_iv (n_v vs 19)) (v_iv (n_v vs 20)) (v_iv (n_v vs 21)) (v_iv (n_v vs 22)) (v_iv (n_v vs 23)) (v_iv (n_v vs 24)) (v_iv (n_v vs 25)) (w_ei ws (w_ar ws (n_v vs 0) 105)) (w_ei ws (w_ar ws (n_v vs 0) 106)) (w_fi ws (n_v vs 0) 101) (w_ei ws (w_ar ws (n_v vs 0) 2)) (w_ei ws (w_ar ws (n_v vs 0) 95)) (w_ei ws (w_ar ws (n_v vs 0) 102)) (w_ei ws (w_ar ws (n_v vs 0) 104)) (w_ei ws (w_ar ws (n_v vs 0) 108)) (w_ei ws (w_ar ws (n_v vs 0) 109)) (w_fi ws (n_v vs 0) 5) (w_fi ws (n_v vs 0) 100) (w_fi ws (n_v vs 0) 107) (w_fi ws (n_v vs 0) 79) (w_ei ws (w_ar ws (n_v vs 0) 83)) (w_ei ws (w_ar ws (n_v vs 0) 84)) (w_ei ws (w_ar ws (n_v vs 0) 85)) (w_ei ws (w_ar ws (n_v vs 0) 86)) (w_fi ws (n_v vs 0) 80) (w_fi ws (n_v vs 0) 81) (w_ei ws (w_ar ws (n_v vs 0) 87)) (w_ei ws (w_ar ws (n_v vs 0) 88)) (w_ei ws (w_ar ws (n_v vs 0) 89)) k2 k3 k5 k12 k16 k17 k18 k19 k20 k21 k22 k23 k24 k25 d0 d1 d2 f0 f1 f2 f3 f4 f5 f6 f7 f8 f9 f10 f11 f12 f13 f14 f15 f16 f18 f19 f21 f22 f23 f24 f25 f26 f27 hK_0_83 hK_0_84 hK_0_85 hK_0_86 hK_0_87 hK_0_88 hK_0_89 hK_0_95 hK_0_102 hK_0_104 hK_0_105 hK_0_106 hK_0_108 hK_0_109 kz_0_79 kz_0_80 kz_0_81 kz_0_100 kz_0_101 kz_0_107
  have nf1 : fc_1 PRD (20, [1], [50, 1, 0, 81, 0, 3, 2, 0, 81, 0, 76]) ws (vs) := by
    refine ⟨fun n hn => ?_, ?_⟩
    · have hn : n ∈ [1] := hn
      rw [hl]
      simp only [List.mem_cons, List.not_mem_nil, or_false] at hn
      show n < 26; omega
    · show w_fi ws (n_v vs 1) 81 ≤ 76
      rw [q1]
      exact vc_Mo_across2_16_1 (v_iv (n_v vs 2)) (v_iv (n_v vs 3)) (v_iv (n_v vs 5)) (v_iv (n_v vs 12)) (v_iv (n_v vs 16)) (v_iv (n_v vs 17)) (v_iv (n_v vs 18)) (v_iv (n_v vs 19)) (v_iv (n_v vs 20)) (v_iv (n_v vs 21)) (v_iv (n_v vs 22)) (v_iv (n_v vs 23)) (v_iv (n_v vs 24)) (v_iv (n_v vs 25)) (w_ei ws (w_ar ws (n_v vs 0) 105)) (w_ei ws (w_ar ws (n_v vs 0) 106)) (w_fi ws (n_v vs 0) 101) (w_ei ws (w_ar ws (n_v vs 0) 2)) (w_ei ws (w_ar ws (n_v vs 0) 95)) (w_ei ws (w_ar ws (n_v vs 0) 102)) (w_ei ws (w_ar ws (n_v vs 0) 104)) (w_ei ws (w_ar ws (n_v vs 0) 108)) (w_ei ws (w_ar ws (n_v vs 0) 109)) (w_fi ws (n_v vs 0) 5) (w_fi ws (n_v vs 0) 100) (w_fi ws (n_v vs 0) 107) (w_fi ws (n_v vs 0) 79) (w_ei ws (w_ar ws (n_v vs 0) 83)) (w_ei ws (w_ar ws (n_v vs 0) 84)) (w_ei ws (w_ar ws (n_v vs 0) 85)) (w_ei ws (w_ar ws (n_v vs 0) 86)) (w_fi ws (n_v vs 0) 80) (w_fi ws (n_v vs 0) 81) (w_ei ws (w_ar ws (n_v vs 0) 87)) (w_ei ws (w_ar ws (n_v vs 0) 88)) (w_ei ws (w_ar ws (n_v vs 0) 89)) k2 k3 k5 k12 k16 k17 k18 k19 k20 k21 k22 k23 k24 k25 d0 d1 d2 f0 f1 f2 f3 f4 f5 f6 f7 f8 f9 f10 f11 f12 f13 f14 f15 f16 f18 f19 f21 f22 f23 f24 f25 f26 f27 hK_0_83 hK_0_84 hK_0_85 hK_0_86 hK_0_87 hK_0_88 hK_0_89 hK_0_95 hK_0_102 hK_0_104 hK_0_105 hK_0_106 hK_0_108 hK_0_109 kz_0_79 kz_0_80 kz_0_81 kz_0_100 kz_0_101 kz_0_107
  have nf2 : fc_1 PRD (20, [25], [50, 0, 0, 0, 2, 0, 1, 1, 0]) ws (vs) := by
    refine ⟨fun n hn => ?_, ?_⟩
    · have hn : n ∈ [25] := hn
      rw [hl]
      simp only [List.mem_cons, List.not_mem_nil, or_false] at hn
      show n < 26; omega
    · show 1 ≤ v_iv (n_v vs 25)
      exact vc_Mo_across2_16_2 (v_iv (n_v vs 2)) (v_iv (n_v vs 3)) (v_iv (n_v vs 5)) (v_iv (n_v vs 12)) (v_iv (n_v vs 16)) (v_iv (n_v vs 17)) (v_iv (n_v vs 18)) (v_iv (n_v vs 19)) (v_iv (n_v vs 20)) (v_iv (n_v vs 21)) (v_iv (n_v vs 22)) (v_iv (n_v vs 23)) (v_iv (n_v vs 24)) (v_iv (n_v vs 25)) (w_ei ws (w_ar ws (n_v vs 0) 105)) (w_ei ws (w_ar ws (n_v vs 0) 106)) (w_fi ws (n_v vs 0) 101) (w_ei ws (w_ar ws (n_v vs 0) 2)) (w_ei ws (w_ar ws (n_v vs 0) 95)) (w_ei ws (w_ar ws (n_v vs 0) 102)) (w_ei ws (w_ar ws (n_v vs 0) 104)) (w_ei ws (w_ar ws (n_v vs 0) 108)) (w_ei ws (w_ar ws (n_v vs 0) 109)) (w_fi ws (n_v vs 0) 5) (w_fi ws (n_v vs 0) 100) (w_fi ws (n_v vs 0) 107) (w_fi ws (n_v vs 0) 79) (w_ei ws (w_ar ws (n_v vs 0) 83)) (w_ei ws (w_ar ws (n_v vs 0) 84)) (w_ei ws (w_ar ws (n_v vs 0) 85)) (w_ei ws (w_ar ws (n_v vs 0) 86)) (w_fi ws (n_v vs 0) 80) (w_fi ws (n_v vs 0) 81) (w_ei ws (w_ar ws (n_v vs 0) 87)) (w_ei ws (w_ar ws (n_v vs 0) 88)) (w_ei ws (w_ar ws (n_v vs 0) 89)) k2 k3 k5 k12 k16 k17 k18 k19 k20 k21 k22 k23 k24 k25 d0 d1 d2 f0 f1 f2 f3 f4 f5 f6 f7 f8 f9 f10 f11 f12 f13 f14 f15 f16 f18 f19 f21 f22 f23 f24 f25 f26 f27 hK_0_83 hK_0_84 hK_0_85 hK_0_86 hK_0_87 hK_0_88 hK_0_89 hK_0_95 hK_0_102 hK_0_104 hK_0_105 hK_0_106 hK_0_108 hK_0_109 kz_0_79 kz_0_80 kz_0_81 kz_0_100 kz_0_101 kz_0_107
  refine ⟨(fun _ h => (by cases h)), [], trivial, ?_, (fun _ h => (by cases h))⟩
  rw [List.append_nil]
  exact List.forall_mem_cons.mpr ⟨⟨show (20 : Nat) < 100 from by decide, nf0⟩, List.forall_mem_cons.mpr ⟨⟨show (20 : Nat) < 100 from by decide, nf1⟩, List.forall_mem_cons.mpr ⟨⟨show (20 : Nat) < 100 from by decide, nf2⟩, (fun _ h => (by cases h))⟩⟩⟩
set_option maxHeartbeats 4000000 in
theorem vc_Mo_across2_17_0 (x2 : Int) (x3 : Int) (x5 : Int) (x7 : Int) (x8 : Int) (x9 : Int) (x10 : Int) (x11 : Int) (x12 : Int) (x13 : Int) (x14 : Int) (x15 : Int) (x16 : Int) (x17 : Int) (x18 : Int) (x19 : Int) (x20 : Int) (x21 : Int) (layerItem_0 : Int → Int) (layerSize_0 : Int → Int) (all_0 : Int → Int) (turned_0 : Int → Int) (itemLayer_0 : Int → Int) (firstJoint_0 : Int → Int) (lineA_0 : Int → Int) (lineB_0 : Int → Int) (r_0 : Int) (items_0 : Int) (layerMany_0 : Int) (lines_0 : Int) (pointMany_0 : Int) (costA_0 : Int → Int) (costB_0 : Int → Int) (costW_0 : Int → Int) (costPlain_0 : Int → Int) (costMany_0 : Int) (apartA_0 : Int → Int) (apartB_0 : Int → Int) (apart_0 : Int → Int) (apartMany_0 : Int) (gx : Int) (gy : Int) (gu : Int) (k2 : 0 ≤ x2 ∧ x2 ≤ 75) (k3 : 1 ≤ x3 ∧ x3 ≤ 75) (k5 : 2 ≤ x5 ∧ x5 ≤ 76) (k7 : 76 ≤ x7 ∧ x7 ≤ 76) (k8 : 0 ≤ x8 ∧ x8 ≤ 5700) (k9 : 1 ≤ x9 ∧ x9 ≤ 5775) (k10 : 1 ≤ x10 ∧ x10 ≤ 1) (k11 : 0 ≤ x11 ∧ x11 ≤ 5774) (k12 : 0 ≤ x12 ∧ x12 ≤ 75) (k13 : 76 ≤ x13 ∧ x13 ≤ 76) (k14 : 0 ≤ x14 ∧ x14 ≤ 5700) (k15 : 1 ≤ x15 ∧ x15 ≤ 5775) (k16 : 0 ≤ x16 ∧ x16 ≤ 23) (k17 : 0 ≤ x17 ∧ x17 ≤ 0) (k18 : 1 ≤ x18 ∧ x18 ≤ 9) (k19 : 1 ≤ x19 ∧ x19 ≤ 9) (k20 : 2 ≤ x20 ∧ x20 ≤ 2) (k21 : 3 ≤ x21 ∧ x21 ≤ 11) (d0 : x19 + 2 ≤ x21 ∧ x21 ≤ x19 + 2) (d1 : x18 + 2 ≤ x21 ∧ x21 ≤ x18 + 2) (d2 : x18 + 0 ≤ x19 ∧ x19 ≤ x18 + 0) (d3 : x3 + 0 ≤ x15 ∧ x15 ≤ x3 + 5700) (d4 : x5 + (-4294967296) ≤ x15 ∧ x15 ≤ x5 + 5699) (d5 : x14 + 1 ≤ x15 ∧ x15 ≤ x14 + 75) (d6 : x9 + (-1) ≤ x11 ∧ x11 ≤ x9 + (-1)) (d7 : x3 + (-1) ≤ x11 ∧ x11 ≤ x3 + 5699) (d8 : x5 + (-4294967296) ≤ x11 ∧ x11 ≤ x5 + 5698) (d9 : x8 + 0 ≤ x11 ∧ x11 ≤ x8 + 74) (d10 : x3 + 0 ≤ x9 ∧ x9 ≤ x3 + 5700) (d11 : x5 + (-4294967296) ≤ x9 ∧ x9 ≤ x5 + 5699) (d12 : x8 + 1 ≤ x9 ∧ x9 ≤ x8 + 75) (d13 : x5 + (-4294967296) ≤ x3 ∧ x3 ≤ x5 + (-1)) (f0 : x21 = x19 + x20) (f1 : x19 = x17 + x18) (f2 : (0 ≤ x18) ∧ (x18 ≤ 100)) (f3 : (0 ≤ x17) ∧ (x17 ≤ 100)) (h4 : x16 = layerItem_0 (x15)) (f5 : x15 = x14 + x3) (f6 : x14 = 76 * x2) (h8 : x12 = layerItem_0 (x11)) (f9 : x11 = x9 - x10) (f10 : x9 = x8 + x3) (f11 : x8 = 76 * x2) (f12 : x3 < x5) (h13 : x5 = layerSize_0 (x2)) (f15 : LSA (r_0) (items_0) (layerMany_0) (lines_0) (all_0) (turned_0) (itemLayer_0) (firstJoint_0) (lineA_0) (lineB_0)) (f16 : LSB (items_0) (layerMany_0) (itemLayer_0) (layerSize_0) (layerItem_0)) (f17 : SGR (r_0) (all_0)) (f18 : pointMany_0 = items_0) (f19 : PCQ (pointMany_0) (costMany_0) (costA_0) (costB_0) (costW_0) (costPlain_0)) (f20 : costMany_0 ≤ 130) (f21 : PAL2 (apartMany_0) (layerMany_0) (layerSize_0) (layerItem_0) (apartA_0) (apartB_0) (apart_0) (x2) (x3)) (f22 : apartMany_0 ≤ 76) (f23 : (x2 + 1) ≤ layerMany_0) (f24 : 1 ≤ x3) (hK_0_83 : ∀ j : Int, 0 ≤ j → j < 200 → 0 ≤ costA_0 j ∧ costA_0 j ≤ 75) (hK_0_84 : ∀ j : Int, 0 ≤ j → j < 200 → 0 ≤ costB_0 j ∧ costB_0 j ≤ 75) (hK_0_85 : ∀ j : Int, 0 ≤ j → j < 200 → 0 ≤ costW_0 j ∧ costW_0 j ≤ 72) (hK_0_86 : ∀ j : Int, 0 ≤ j → j < 200 → 0 ≤ costPlain_0 j ∧ costPlain_0 j ≤ 1) (hK_0_87 : ∀ j : Int, 0 ≤ j → j < 200 → 0 ≤ apartA_0 j ∧ apartA_0 j ≤ 75) (hK_0_88 : ∀ j : Int, 0 ≤ j → j < 200 → 0 ≤ apartB_0 j ∧ apartB_0 j ≤ 75) (hK_0_89 : ∀ j : Int, 0 ≤ j → j < 200 → 0 ≤ apart_0 j ∧ apart_0 j ≤ 202) (hK_0_95 : ∀ j : Int, 0 ≤ j → j < 48 → 0 ≤ turned_0 j ∧ turned_0 j ≤ 1) (hK_0_102 : ∀ j : Int, 0 ≤ j → j < 76 → 0 ≤ itemLayer_0 j ∧ itemLayer_0 j ≤ 75) (hK_0_104 : ∀ j : Int, 0 ≤ j → j < 48 → 0 ≤ firstJoint_0 j ∧ firstJoint_0 j ≤ 76) (hK_0_105 : ∀ j : Int, 0 ≤ j → j < 76 → 0 ≤ layerSize_0 j ∧ layerSize_0 j ≤ 76) (hK_0_106 : ∀ j : Int, 0 ≤ j → j < 5776 → 0 ≤ layerItem_0 j ∧ layerItem_0 j ≤ 75) (hK_0_108 : ∀ j : Int, 0 ≤ j → j < 130 → 0 ≤ lineA_0 j ∧ lineA_0 j ≤ 75) (hK_0_109 : ∀ j : Int, 0 ≤ j → j < 130 → 0 ≤ lineB_0 j ∧ lineB_0 j ≤ 75) (kz_0_79 : 0 ≤ pointMany_0 ∧ pointMany_0 ≤ 76) (kz_0_80 : 0 ≤ costMany_0 ∧ costMany_0 ≤ 200) (kz_0_81 : 0 ≤ apartMany_0 ∧ apartMany_0 ≤ 200) (kz_0_100 : 0 ≤ items_0 ∧ items_0 ≤ 76) (kz_0_101 : 0 ≤ layerMany_0 ∧ layerMany_0 ≤ 76) (kz_0_107 : 0 ≤ lines_0 ∧ lines_0 ≤ 130) (ex2 : gx = apartMany_0) (ex3 : 0 ≤ gx ∧ gx ≤ 199) (ey2 : gy = x2) (ey3 : 0 ≤ gy ∧ gy ≤ 75) (eu2 : gu = x3) (eu3 : 1 ≤ gu ∧ gu ≤ 75) : 1 * gy + ((-1) * x2 + 0) ≤ 0 := by
  try simp only [Int.add_zero] at *
  first
    | omega
    | (have h := ‹LSA _ _ _ _ _ _ _ _ _ _›.2.1; omega)
    | (have h := lsa_la (p := x2) (x := x15) ‹LSA _ _ _ _ _ _ _ _ _ _› (by omega) (by omega) (by assumption); omega)
    | (have h := lsa_lb (p := x2) (x := x16) ‹LSA _ _ _ _ _ _ _ _ _ _› (by omega) (by omega) (by assumption); omega)
set_option maxHeartbeats 4000000 in
theorem vc_Mo_across2_17_1 (x2 : Int) (x3 : Int) (x5 : Int) (x7 : Int) (x8 : Int) (x9 : Int) (x10 : Int) (x11 : Int) (x12 : Int) (x13 : Int) (x14 : Int) (x15 : Int) (x16 : Int) (x17 : Int) (x18 : Int) (x19 : Int) (x20 : Int) (x21 : Int) (layerItem_0 : Int → Int) (layerSize_0 : Int → Int) (all_0 : Int → Int) (turned_0 : Int → Int) (itemLayer_0 : Int → Int) (firstJoint_0 : Int → Int) (lineA_0 : Int → Int) (lineB_0 : Int → Int) (r_0 : Int) (items_0 : Int) (layerMany_0 : Int) (lines_0 : Int) (pointMany_0 : Int) (costA_0 : Int → Int) (costB_0 : Int → Int) (costW_0 : Int → Int) (costPlain_0 : Int → Int) (costMany_0 : Int) (apartA_0 : Int → Int) (apartB_0 : Int → Int) (apart_0 : Int → Int) (apartMany_0 : Int) (gx : Int) (gy : Int) (gu : Int) (k2 : 0 ≤ x2 ∧ x2 ≤ 75) (k3 : 1 ≤ x3 ∧ x3 ≤ 75) (k5 : 2 ≤ x5 ∧ x5 ≤ 76) (k7 : 76 ≤ x7 ∧ x7 ≤ 76) (k8 : 0 ≤ x8 ∧ x8 ≤ 5700) (k9 : 1 ≤ x9 ∧ x9 ≤ 5775) (k10 : 1 ≤ x10 ∧ x10 ≤ 1) (k11 : 0 ≤ x11 ∧ x11 ≤ 5774) (k12 : 0 ≤ x12 ∧ x12 ≤ 75) (k13 : 76 ≤ x13 ∧ x13 ≤ 76) (k14 : 0 ≤ x14 ∧ x14 ≤ 5700) (k15 : 1 ≤ x15 ∧ x15 ≤ 5775) (k16 : 0 ≤ x16 ∧ x16 ≤ 23) (k17 : 0 ≤ x17 ∧ x17 ≤ 0) (k18 : 1 ≤ x18 ∧ x18 ≤ 9) (k19 : 1 ≤ x19 ∧ x19 ≤ 9) (k20 : 2 ≤ x20 ∧ x20 ≤ 2) (k21 : 3 ≤ x21 ∧ x21 ≤ 11) (d0 : x19 + 2 ≤ x21 ∧ x21 ≤ x19 + 2) (d1 : x18 + 2 ≤ x21 ∧ x21 ≤ x18 + 2) (d2 : x18 + 0 ≤ x19 ∧ x19 ≤ x18 + 0) (d3 : x3 + 0 ≤ x15 ∧ x15 ≤ x3 + 5700) (d4 : x5 + (-4294967296) ≤ x15 ∧ x15 ≤ x5 + 5699) (d5 : x14 + 1 ≤ x15 ∧ x15 ≤ x14 + 75) (d6 : x9 + (-1) ≤ x11 ∧ x11 ≤ x9 + (-1)) (d7 : x3 + (-1) ≤ x11 ∧ x11 ≤ x3 + 5699) (d8 : x5 + (-4294967296) ≤ x11 ∧ x11 ≤ x5 + 5698) (d9 : x8 + 0 ≤ x11 ∧ x11 ≤ x8 + 74) (d10 : x3 + 0 ≤ x9 ∧ x9 ≤ x3 + 5700) (d11 : x5 + (-4294967296) ≤ x9 ∧ x9 ≤ x5 + 5699) (d12 : x8 + 1 ≤ x9 ∧ x9 ≤ x8 + 75) (d13 : x5 + (-4294967296) ≤ x3 ∧ x3 ≤ x5 + (-1)) (f0 : x21 = x19 + x20) (f1 : x19 = x17 + x18) (f2 : (0 ≤ x18) ∧ (x18 ≤ 100)) (f3 : (0 ≤ x17) ∧ (x17 ≤ 100)) (h4 : x16 = layerItem_0 (x15)) (f5 : x15 = x14 + x3) (f6 : x14 = 76 * x2) (h8 : x12 = layerItem_0 (x11)) (f9 : x11 = x9 - x10) (f10 : x9 = x8 + x3) (f11 : x8 = 76 * x2) (f12 : x3 < x5) (h13 : x5 = layerSize_0 (x2)) (f15 : LSA (r_0) (items_0) (layerMany_0) (lines_0) (all_0) (turned_0) (itemLayer_0) (firstJoint_0) (lineA_0) (lineB_0)) (f16 : LSB (items_0) (layerMany_0) (itemLayer_0) (layerSize_0) (layerItem_0)) (f17 : SGR (r_0) (all_0)) (f18 : pointMany_0 = items_0) (f19 : PCQ (pointMany_0) (costMany_0) (costA_0) (costB_0) (costW_0) (costPlain_0)) (f20 : costMany_0 ≤ 130) (f21 : PAL2 (apartMany_0) (layerMany_0) (layerSize_0) (layerItem_0) (apartA_0) (apartB_0) (apart_0) (x2) (x3)) (f22 : apartMany_0 ≤ 76) (f23 : (x2 + 1) ≤ layerMany_0) (f24 : 1 ≤ x3) (hK_0_83 : ∀ j : Int, 0 ≤ j → j < 200 → 0 ≤ costA_0 j ∧ costA_0 j ≤ 75) (hK_0_84 : ∀ j : Int, 0 ≤ j → j < 200 → 0 ≤ costB_0 j ∧ costB_0 j ≤ 75) (hK_0_85 : ∀ j : Int, 0 ≤ j → j < 200 → 0 ≤ costW_0 j ∧ costW_0 j ≤ 72) (hK_0_86 : ∀ j : Int, 0 ≤ j → j < 200 → 0 ≤ costPlain_0 j ∧ costPlain_0 j ≤ 1) (hK_0_87 : ∀ j : Int, 0 ≤ j → j < 200 → 0 ≤ apartA_0 j ∧ apartA_0 j ≤ 75) (hK_0_88 : ∀ j : Int, 0 ≤ j → j < 200 → 0 ≤ apartB_0 j ∧ apartB_0 j ≤ 75) (hK_0_89 : ∀ j : Int, 0 ≤ j → j < 200 → 0 ≤ apart_0 j ∧ apart_0 j ≤ 202) (hK_0_95 : ∀ j : Int, 0 ≤ j → j < 48 → 0 ≤ turned_0 j ∧ turned_0 j ≤ 1) (hK_0_102 : ∀ j : Int, 0 ≤ j → j < 76 → 0 ≤ itemLayer_0 j ∧ itemLayer_0 j ≤ 75) (hK_0_104 : ∀ j : Int, 0 ≤ j → j < 48 → 0 ≤ firstJoint_0 j ∧ firstJoint_0 j ≤ 76) (hK_0_105 : ∀ j : Int, 0 ≤ j → j < 76 → 0 ≤ layerSize_0 j ∧ layerSize_0 j ≤ 76) (hK_0_106 : ∀ j : Int, 0 ≤ j → j < 5776 → 0 ≤ layerItem_0 j ∧ layerItem_0 j ≤ 75) (hK_0_108 : ∀ j : Int, 0 ≤ j → j < 130 → 0 ≤ lineA_0 j ∧ lineA_0 j ≤ 75) (hK_0_109 : ∀ j : Int, 0 ≤ j → j < 130 → 0 ≤ lineB_0 j ∧ lineB_0 j ≤ 75) (kz_0_79 : 0 ≤ pointMany_0 ∧ pointMany_0 ≤ 76) (kz_0_80 : 0 ≤ costMany_0 ∧ costMany_0 ≤ 200) (kz_0_81 : 0 ≤ apartMany_0 ∧ apartMany_0 ≤ 200) (kz_0_100 : 0 ≤ items_0 ∧ items_0 ≤ 76) (kz_0_101 : 0 ≤ layerMany_0 ∧ layerMany_0 ≤ 76) (kz_0_107 : 0 ≤ lines_0 ∧ lines_0 ≤ 130) (ex2 : gx = apartMany_0) (ex3 : 0 ≤ gx ∧ gx ≤ 199) (ey2 : gy = x2) (ey3 : 0 ≤ gy ∧ gy ≤ 75) (eu2 : gu = x3) (eu3 : 1 ≤ gu ∧ gu ≤ 75) : (-1) * gy + (1 * x2 + 0) ≤ 0 := by
  try simp only [Int.add_zero] at *
  first
    | omega
    | (have h := ‹LSA _ _ _ _ _ _ _ _ _ _›.2.1; omega)
    | (have h := lsa_la (p := x2) (x := x15) ‹LSA _ _ _ _ _ _ _ _ _ _› (by omega) (by omega) (by assumption); omega)
    | (have h := lsa_lb (p := x2) (x := x16) ‹LSA _ _ _ _ _ _ _ _ _ _› (by omega) (by omega) (by assumption); omega)
set_option maxHeartbeats 4000000 in
theorem vc_Mo_across2_17_2 (x2 : Int) (x3 : Int) (x5 : Int) (x7 : Int) (x8 : Int) (x9 : Int) (x10 : Int) (x11 : Int) (x12 : Int) (x13 : Int) (x14 : Int) (x15 : Int) (x16 : Int) (x17 : Int) (x18 : Int) (x19 : Int) (x20 : Int) (x21 : Int) (layerItem_0 : Int → Int) (layerSize_0 : Int → Int) (all_0 : Int → Int) (turned_0 : Int → Int) (itemLayer_0 : Int → Int) (firstJoint_0 : Int → Int) (lineA_0 : Int → Int) (lineB_0 : Int → Int) (r_0 : Int) (items_0 : Int) (layerMany_0 : Int) (lines_0 : Int) (pointMany_0 : Int) (costA_0 : Int → Int) (costB_0 : Int → Int) (costW_0 : Int → Int) (costPlain_0 : Int → Int) (costMany_0 : Int) (apartA_0 : Int → Int) (apartB_0 : Int → Int) (apart_0 : Int → Int) (apartMany_0 : Int) (gx : Int) (gy : Int) (gu : Int) (k2 : 0 ≤ x2 ∧ x2 ≤ 75) (k3 : 1 ≤ x3 ∧ x3 ≤ 75) (k5 : 2 ≤ x5 ∧ x5 ≤ 76) (k7 : 76 ≤ x7 ∧ x7 ≤ 76) (k8 : 0 ≤ x8 ∧ x8 ≤ 5700) (k9 : 1 ≤ x9 ∧ x9 ≤ 5775) (k10 : 1 ≤ x10 ∧ x10 ≤ 1) (k11 : 0 ≤ x11 ∧ x11 ≤ 5774) (k12 : 0 ≤ x12 ∧ x12 ≤ 75) (k13 : 76 ≤ x13 ∧ x13 ≤ 76) (k14 : 0 ≤ x14 ∧ x14 ≤ 5700) (k15 : 1 ≤ x15 ∧ x15 ≤ 5775) (k16 : 0 ≤ x16 ∧ x16 ≤ 23) (k17 : 0 ≤ x17 ∧ x17 ≤ 0) (k18 : 1 ≤ x18 ∧ x18 ≤ 9) (k19 : 1 ≤ x19 ∧ x19 ≤ 9) (k20 : 2 ≤ x20 ∧ x20 ≤ 2) (k21 : 3 ≤ x21 ∧ x21 ≤ 11) (d0 : x19 + 2 ≤ x21 ∧ x21 ≤ x19 + 2) (d1 : x18 + 2 ≤ x21 ∧ x21 ≤ x18 + 2) (d2 : x18 + 0 ≤ x19 ∧ x19 ≤ x18 + 0) (d3 : x3 + 0 ≤ x15 ∧ x15 ≤ x3 + 5700) (d4 : x5 + (-4294967296) ≤ x15 ∧ x15 ≤ x5 + 5699) (d5 : x14 + 1 ≤ x15 ∧ x15 ≤ x14 + 75) (d6 : x9 + (-1) ≤ x11 ∧ x11 ≤ x9 + (-1)) (d7 : x3 + (-1) ≤ x11 ∧ x11 ≤ x3 + 5699) (d8 : x5 + (-4294967296) ≤ x11 ∧ x11 ≤ x5 + 5698) (d9 : x8 + 0 ≤ x11 ∧ x11 ≤ x8 + 74) (d10 : x3 + 0 ≤ x9 ∧ x9 ≤ x3 + 5700) (d11 : x5 + (-4294967296) ≤ x9 ∧ x9 ≤ x5 + 5699) (d12 : x8 + 1 ≤ x9 ∧ x9 ≤ x8 + 75) (d13 : x5 + (-4294967296) ≤ x3 ∧ x3 ≤ x5 + (-1)) (f0 : x21 = x19 + x20) (f1 : x19 = x17 + x18) (f2 : (0 ≤ x18) ∧ (x18 ≤ 100)) (f3 : (0 ≤ x17) ∧ (x17 ≤ 100)) (h4 : x16 = layerItem_0 (x15)) (f5 : x15 = x14 + x3) (f6 : x14 = 76 * x2) (h8 : x12 = layerItem_0 (x11)) (f9 : x11 = x9 - x10) (f10 : x9 = x8 + x3) (f11 : x8 = 76 * x2) (f12 : x3 < x5) (h13 : x5 = layerSize_0 (x2)) (f15 : LSA (r_0) (items_0) (layerMany_0) (lines_0) (all_0) (turned_0) (itemLayer_0) (firstJoint_0) (lineA_0) (lineB_0)) (f16 : LSB (items_0) (layerMany_0) (itemLayer_0) (layerSize_0) (layerItem_0)) (f17 : SGR (r_0) (all_0)) (f18 : pointMany_0 = items_0) (f19 : PCQ (pointMany_0) (costMany_0) (costA_0) (costB_0) (costW_0) (costPlain_0)) (f20 : costMany_0 ≤ 130) (f21 : PAL2 (apartMany_0) (layerMany_0) (layerSize_0) (layerItem_0) (apartA_0) (apartB_0) (apart_0) (x2) (x3)) (f22 : apartMany_0 ≤ 76) (f23 : (x2 + 1) ≤ layerMany_0) (f24 : 1 ≤ x3) (hK_0_83 : ∀ j : Int, 0 ≤ j → j < 200 → 0 ≤ costA_0 j ∧ costA_0 j ≤ 75) (hK_0_84 : ∀ j : Int, 0 ≤ j → j < 200 → 0 ≤ costB_0 j ∧ costB_0 j ≤ 75) (hK_0_85 : ∀ j : Int, 0 ≤ j → j < 200 → 0 ≤ costW_0 j ∧ costW_0 j ≤ 72) (hK_0_86 : ∀ j : Int, 0 ≤ j → j < 200 → 0 ≤ costPlain_0 j ∧ costPlain_0 j ≤ 1) (hK_0_87 : ∀ j : Int, 0 ≤ j → j < 200 → 0 ≤ apartA_0 j ∧ apartA_0 j ≤ 75) (hK_0_88 : ∀ j : Int, 0 ≤ j → j < 200 → 0 ≤ apartB_0 j ∧ apartB_0 j ≤ 75) (hK_0_89 : ∀ j : Int, 0 ≤ j → j < 200 → 0 ≤ apart_0 j ∧ apart_0 j ≤ 202) (hK_0_95 : ∀ j : Int, 0 ≤ j → j < 48 → 0 ≤ turned_0 j ∧ turned_0 j ≤ 1) (hK_0_102 : ∀ j : Int, 0 ≤ j → j < 76 → 0 ≤ itemLayer_0 j ∧ itemLayer_0 j ≤ 75) (hK_0_104 : ∀ j : Int, 0 ≤ j → j < 48 → 0 ≤ firstJoint_0 j ∧ firstJoint_0 j ≤ 76) (hK_0_105 : ∀ j : Int, 0 ≤ j → j < 76 → 0 ≤ layerSize_0 j ∧ layerSize_0 j ≤ 76) (hK_0_106 : ∀ j : Int, 0 ≤ j → j < 5776 → 0 ≤ layerItem_0 j ∧ layerItem_0 j ≤ 75) (hK_0_108 : ∀ j : Int, 0 ≤ j → j < 130 → 0 ≤ lineA_0 j ∧ lineA_0 j ≤ 75) (hK_0_109 : ∀ j : Int, 0 ≤ j → j < 130 → 0 ≤ lineB_0 j ∧ lineB_0 j ≤ 75) (kz_0_79 : 0 ≤ pointMany_0 ∧ pointMany_0 ≤ 76) (kz_0_80 : 0 ≤ costMany_0 ∧ costMany_0 ≤ 200) (kz_0_81 : 0 ≤ apartMany_0 ∧ apartMany_0 ≤ 200) (kz_0_100 : 0 ≤ items_0 ∧ items_0 ≤ 76) (kz_0_101 : 0 ≤ layerMany_0 ∧ layerMany_0 ≤ 76) (kz_0_107 : 0 ≤ lines_0 ∧ lines_0 ≤ 130) (ex2 : gx = apartMany_0) (ex3 : 0 ≤ gx ∧ gx ≤ 199) (ey2 : gy = x2) (ey3 : 0 ≤ gy ∧ gy ≤ 75) (eu2 : gu = x3) (eu3 : 1 ≤ gu ∧ gu ≤ 75) : 1 * gu + ((-1) * x3 + 0) ≤ 0 := by
  try simp only [Int.add_zero] at *
  first
    | omega
    | (have h := ‹LSA _ _ _ _ _ _ _ _ _ _›.2.1; omega)
    | (have h := lsa_la (p := x2) (x := x15) ‹LSA _ _ _ _ _ _ _ _ _ _› (by omega) (by omega) (by assumption); omega)
    | (have h := lsa_lb (p := x2) (x := x16) ‹LSA _ _ _ _ _ _ _ _ _ _› (by omega) (by omega) (by assumption); omega)
set_option maxHeartbeats 4000000 in
theorem vc_Mo_across2_17_3 (x2 : Int) (x3 : Int) (x5 : Int) (x7 : Int) (x8 : Int) (x9 : Int) (x10 : Int) (x11 : Int) (x12 : Int) (x13 : Int) (x14 : Int) (x15 : Int) (x16 : Int) (x17 : Int) (x18 : Int) (x19 : Int) (x20 : Int) (x21 : Int) (layerItem_0 : Int → Int) (layerSize_0 : Int → Int) (all_0 : Int → Int) (turned_0 : Int → Int) (itemLayer_0 : Int → Int) (firstJoint_0 : Int → Int) (lineA_0 : Int → Int) (lineB_0 : Int → Int) (r_0 : Int) (items_0 : Int) (layerMany_0 : Int) (lines_0 : Int) (pointMany_0 : Int) (costA_0 : Int → Int) (costB_0 : Int → Int) (costW_0 : Int → Int) (costPlain_0 : Int → Int) (costMany_0 : Int) (apartA_0 : Int → Int) (apartB_0 : Int → Int) (apart_0 : Int → Int) (apartMany_0 : Int) (gx : Int) (gy : Int) (gu : Int) (k2 : 0 ≤ x2 ∧ x2 ≤ 75) (k3 : 1 ≤ x3 ∧ x3 ≤ 75) (k5 : 2 ≤ x5 ∧ x5 ≤ 76) (k7 : 76 ≤ x7 ∧ x7 ≤ 76) (k8 : 0 ≤ x8 ∧ x8 ≤ 5700) (k9 : 1 ≤ x9 ∧ x9 ≤ 5775) (k10 : 1 ≤ x10 ∧ x10 ≤ 1) (k11 : 0 ≤ x11 ∧ x11 ≤ 5774) (k12 : 0 ≤ x12 ∧ x12 ≤ 75) (k13 : 76 ≤ x13 ∧ x13 ≤ 76) (k14 : 0 ≤ x14 ∧ x14 ≤ 5700) (k15 : 1 ≤ x15 ∧ x15 ≤ 5775) (k16 : 0 ≤ x16 ∧ x16 ≤ 23) (k17 : 0 ≤ x17 ∧ x17 ≤ 0) (k18 : 1 ≤ x18 ∧ x18 ≤ 9) (k19 : 1 ≤ x19 ∧ x19 ≤ 9) (k20 : 2 ≤ x20 ∧ x20 ≤ 2) (k21 : 3 ≤ x21 ∧ x21 ≤ 11) (d0 : x19 + 2 ≤ x21 ∧ x21 ≤ x19 + 2) (d1 : x18 + 2 ≤ x21 ∧ x21 ≤ x18 + 2) (d2 : x18 + 0 ≤ x19 ∧ x19 ≤ x18 + 0) (d3 : x3 + 0 ≤ x15 ∧ x15 ≤ x3 + 5700) (d4 : x5 + (-4294967296) ≤ x15 ∧ x15 ≤ x5 + 5699) (d5 : x14 + 1 ≤ x15 ∧ x15 ≤ x14 + 75) (d6 : x9 + (-1) ≤ x11 ∧ x11 ≤ x9 + (-1)) (d7 : x3 + (-1) ≤ x11 ∧ x11 ≤ x3 + 5699) (d8 : x5 + (-4294967296) ≤ x11 ∧ x11 ≤ x5 + 5698) (d9 : x8 + 0 ≤ x11 ∧ x11 ≤ x8 + 74) (d10 : x3 + 0 ≤ x9 ∧ x9 ≤ x3 + 5700) (d11 : x5 + (-4294967296) ≤ x9 ∧ x9 ≤ x5 + 5699) (d12 : x8 + 1 ≤ x9 ∧ x9 ≤ x8 + 75) (d13 : x5 + (-4294967296) ≤ x3 ∧ x3 ≤ x5 + (-1)) (f0 : x21 = x19 + x20) (f1 : x19 = x17 + x18) (f2 : (0 ≤ x18) ∧ (x18 ≤ 100)) (f3 : (0 ≤ x17) ∧ (x17 ≤ 100)) (h4 : x16 = layerItem_0 (x15)) (f5 : x15 = x14 + x3) (f6 : x14 = 76 * x2) (h8 : x12 = layerItem_0 (x11)) (f9 : x11 = x9 - x10) (f10 : x9 = x8 + x3) (f11 : x8 = 76 * x2) (f12 : x3 < x5) (h13 : x5 = layerSize_0 (x2)) (f15 : LSA (r_0) (items_0) (layerMany_0) (lines_0) (all_0) (turned_0) (itemLayer_0) (firstJoint_0) (lineA_0) (lineB_0)) (f16 : LSB (items_0) (layerMany_0) (itemLayer_0) (layerSize_0) (layerItem_0)) (f17 : SGR (r_0) (all_0)) (f18 : pointMany_0 = items_0) (f19 : PCQ (pointMany_0) (costMany_0) (costA_0) (costB_0) (costW_0) (costPlain_0)) (f20 : costMany_0 ≤ 130) (f21 : PAL2 (apartMany_0) (layerMany_0) (layerSize_0) (layerItem_0) (apartA_0) (apartB_0) (apart_0) (x2) (x3)) (f22 : apartMany_0 ≤ 76) (f23 : (x2 + 1) ≤ layerMany_0) (f24 : 1 ≤ x3) (hK_0_83 : ∀ j : Int, 0 ≤ j → j < 200 → 0 ≤ costA_0 j ∧ costA_0 j ≤ 75) (hK_0_84 : ∀ j : Int, 0 ≤ j → j < 200 → 0 ≤ costB_0 j ∧ costB_0 j ≤ 75) (hK_0_85 : ∀ j : Int, 0 ≤ j → j < 200 → 0 ≤ costW_0 j ∧ costW_0 j ≤ 72) (hK_0_86 : ∀ j : Int, 0 ≤ j → j < 200 → 0 ≤ costPlain_0 j ∧ costPlain_0 j ≤ 1) (hK_0_87 : ∀ j : Int, 0 ≤ j → j < 200 → 0 ≤ apartA_0 j ∧ apartA_0 j ≤ 75) (hK_0_88 : ∀ j : Int, 0 ≤ j → j < 200 → 0 ≤ apartB_0 j ∧ apartB_0 j ≤ 75) (hK_0_89 : ∀ j : Int, 0 ≤ j → j < 200 → 0 ≤ apart_0 j ∧ apart_0 j ≤ 202) (hK_0_95 : ∀ j : Int, 0 ≤ j → j < 48 → 0 ≤ turned_0 j ∧ turned_0 j ≤ 1) (hK_0_102 : ∀ j : Int, 0 ≤ j → j < 76 → 0 ≤ itemLayer_0 j ∧ itemLayer_0 j ≤ 75) (hK_0_104 : ∀ j : Int, 0 ≤ j → j < 48 → 0 ≤ firstJoint_0 j ∧ firstJoint_0 j ≤ 76) (hK_0_105 : ∀ j : Int, 0 ≤ j → j < 76 → 0 ≤ layerSize_0 j ∧ layerSize_0 j ≤ 76) (hK_0_106 : ∀ j : Int, 0 ≤ j → j < 5776 → 0 ≤ layerItem_0 j ∧ layerItem_0 j ≤ 75) (hK_0_108 : ∀ j : Int, 0 ≤ j → j < 130 → 0 ≤ lineA_0 j ∧ lineA_0 j ≤ 75) (hK_0_109 : ∀ j : Int, 0 ≤ j → j < 130 → 0 ≤ lineB_0 j ∧ lineB_0 j ≤ 75) (kz_0_79 : 0 ≤ pointMany_0 ∧ pointMany_0 ≤ 76) (kz_0_80 : 0 ≤ costMany_0 ∧ costMany_0 ≤ 200) (kz_0_81 : 0 ≤ apartMany_0 ∧ apartMany_0 ≤ 200) (kz_0_100 : 0 ≤ items_0 ∧ items_0 ≤ 76) (kz_0_101 : 0 ≤ layerMany_0 ∧ layerMany_0 ≤ 76) (kz_0_107 : 0 ≤ lines_0 ∧ lines_0 ≤ 130) (ex2 : gx = apartMany_0) (ex3 : 0 ≤ gx ∧ gx ≤ 199) (ey2 : gy = x2) (ey3 : 0 ≤ gy ∧ gy ≤ 75) (eu2 : gu = x3) (eu3 : 1 ≤ gu ∧ gu ≤ 75) : (-1) * gu + (1 * x3 + 0) ≤ 0 := by
  try simp only [Int.add_zero] at *
  first
    | omega
    | (have h := ‹LSA _ _ _ _ _ _ _ _ _ _›.2.1; omega)
    | (have h := lsa_la (p := x2) (x := x15) ‹LSA _ _ _ _ _ _ _ _ _ _› (by omega) (by omega) (by assumption); omega)
    | (have h := lsa_lb (p := x2) (x := x16) ‹LSA _ _ _ _ _ _ _ _ _ _› (by omega) (by omega) (by assumption); omega)
set_option maxHeartbeats 4000000 in
theorem vc_Mo_across2_17_4 (x2 : Int) (x3 : Int) (x5 : Int) (x7 : Int) (x8 : Int) (x9 : Int) (x10 : Int) (x11 : Int) (x12 : Int) (x13 : Int) (x14 : Int) (x15 : Int) (x16 : Int) (x17 : Int) (x18 : Int) (x19 : Int) (x20 : Int) (x21 : Int) (layerItem_0 : Int → Int) (layerSize_0 : Int → Int) (all_0 : Int → Int) (turned_0 : Int → Int) (itemLayer_0 : Int → Int) (firstJoint_0 : Int → Int) (lineA_0 : Int → Int) (lineB_0 : Int → Int) (r_0 : Int) (items_0 : Int) (layerMany_0 : Int) (lines_0 : Int) (pointMany_0 : Int) (costA_0 : Int → Int) (costB_0 : Int → Int) (costW_0 : Int → Int) (costPlain_0 : Int → Int) (costMany_0 : Int) (apartA_0 : Int → Int) (apartB_0 : Int → Int) (apart_0 : Int → Int) (apartMany_0 : Int) (gx : Int) (gy : Int) (gu : Int) (k2 : 0 ≤ x2 ∧ x2 ≤ 75) (k3 : 1 ≤ x3 ∧ x3 ≤ 75) (k5 : 2 ≤ x5 ∧ x5 ≤ 76) (k7 : 76 ≤ x7 ∧ x7 ≤ 76) (k8 : 0 ≤ x8 ∧ x8 ≤ 5700) (k9 : 1 ≤ x9 ∧ x9 ≤ 5775) (k10 : 1 ≤ x10 ∧ x10 ≤ 1) (k11 : 0 ≤ x11 ∧ x11 ≤ 5774) (k12 : 0 ≤ x12 ∧ x12 ≤ 75) (k13 : 76 ≤ x13 ∧ x13 ≤ 76) (k14 : 0 ≤ x14 ∧ x14 ≤ 5700) (k15 : 1 ≤ x15 ∧ x15 ≤ 5775) (k16 : 0 ≤ x16 ∧ x16 ≤ 23) (k17 : 0 ≤ x17 ∧ x17 ≤ 0) (k18 : 1 ≤ x18 ∧ x18 ≤ 9) (k19 : 1 ≤ x19 ∧ x19 ≤ 9) (k20 : 2 ≤ x20 ∧ x20 ≤ 2) (k21 : 3 ≤ x21 ∧ x21 ≤ 11) (d0 : x19 + 2 ≤ x21 ∧ x21 ≤ x19 + 2) (d1 : x18 + 2 ≤ x21 ∧ x21 ≤ x18 + 2) (d2 : x18 + 0 ≤ x19 ∧ x19 ≤ x18 + 0) (d3 : x3 + 0 ≤ x15 ∧ x15 ≤ x3 + 5700) (d4 : x5 + (-4294967296) ≤ x15 ∧ x15 ≤ x5 + 5699) (d5 : x14 + 1 ≤ x15 ∧ x15 ≤ x14 + 75) (d6 : x9 + (-1) ≤ x11 ∧ x11 ≤ x9 + (-1)) (d7 : x3 + (-1) ≤ x11 ∧ x11 ≤ x3 + 5699) (d8 : x5 + (-4294967296) ≤ x11 ∧ x11 ≤ x5 + 5698) (d9 : x8 + 0 ≤ x11 ∧ x11 ≤ x8 + 74) (d10 : x3 + 0 ≤ x9 ∧ x9 ≤ x3 + 5700) (d11 : x5 + (-4294967296) ≤ x9 ∧ x9 ≤ x5 + 5699) (d12 : x8 + 1 ≤ x9 ∧ x9 ≤ x8 + 75) (d13 : x5 + (-4294967296) ≤ x3 ∧ x3 ≤ x5 + (-1)) (f0 : x21 = x19 + x20) (f1 : x19 = x17 + x18) (f2 : (0 ≤ x18) ∧ (x18 ≤ 100)) (f3 : (0 ≤ x17) ∧ (x17 ≤ 100)) (h4 : x16 = layerItem_0 (x15)) (f5 : x15 = x14 + x3) (f6 : x14 = 76 * x2) (h8 : x12 = layerItem_0 (x11)) (f9 : x11 = x9 - x10) (f10 : x9 = x8 + x3) (f11 : x8 = 76 * x2) (f12 : x3 < x5) (h13 : x5 = layerSize_0 (x2)) (f15 : LSA (r_0) (items_0) (layerMany_0) (lines_0) (all_0) (turned_0) (itemLayer_0) (firstJoint_0) (lineA_0) (lineB_0)) (f16 : LSB (items_0) (layerMany_0) (itemLayer_0) (layerSize_0) (layerItem_0)) (f17 : SGR (r_0) (all_0)) (f18 : pointMany_0 = items_0) (f19 : PCQ (pointMany_0) (costMany_0) (costA_0) (costB_0) (costW_0) (costPlain_0)) (f20 : costMany_0 ≤ 130) (f21 : PAL2 (apartMany_0) (layerMany_0) (layerSize_0) (layerItem_0) (apartA_0) (apartB_0) (apart_0) (x2) (x3)) (f22 : apartMany_0 ≤ 76) (f23 : (x2 + 1) ≤ layerMany_0) (f24 : 1 ≤ x3) (hK_0_83 : ∀ j : Int, 0 ≤ j → j < 200 → 0 ≤ costA_0 j ∧ costA_0 j ≤ 75) (hK_0_84 : ∀ j : Int, 0 ≤ j → j < 200 → 0 ≤ costB_0 j ∧ costB_0 j ≤ 75) (hK_0_85 : ∀ j : Int, 0 ≤ j → j < 200 → 0 ≤ costW_0 j ∧ costW_0 j ≤ 72) (hK_0_86 : ∀ j : Int, 0 ≤ j → j < 200 → 0 ≤ costPlain_0 j ∧ costPlain_0 j ≤ 1) (hK_0_87 : ∀ j : Int, 0 ≤ j → j < 200 → 0 ≤ apartA_0 j ∧ apartA_0 j ≤ 75) (hK_0_88 : ∀ j : Int, 0 ≤ j → j < 200 → 0 ≤ apartB_0 j ∧ apartB_0 j ≤ 75) (hK_0_89 : ∀ j : Int, 0 ≤ j → j < 200 → 0 ≤ apart_0 j ∧ apart_0 j ≤ 202) (hK_0_95 : ∀ j : Int, 0 ≤ j → j < 48 → 0 ≤ turned_0 j ∧ turned_0 j ≤ 1) (hK_0_102 : ∀ j : Int, 0 ≤ j → j < 76 → 0 ≤ itemLayer_0 j ∧ itemLayer_0 j ≤ 75) (hK_0_104 : ∀ j : Int, 0 ≤ j → j < 48 → 0 ≤ firstJoint_0 j ∧ firstJoint_0 j ≤ 76) (hK_0_105 : ∀ j : Int, 0 ≤ j → j < 76 → 0 ≤ layerSize_0 j ∧ layerSize_0 j ≤ 76) (hK_0_106 : ∀ j : Int, 0 ≤ j → j < 5776 → 0 ≤ layerItem_0 j ∧ layerItem_0 j ≤ 75) (hK_0_108 : ∀ j : Int, 0 ≤ j → j < 130 → 0 ≤ lineA_0 j ∧ lineA_0 j ≤ 75) (hK_0_109 : ∀ j : Int, 0 ≤ j → j < 130 → 0 ≤ lineB_0 j ∧ lineB_0 j ≤ 75) (kz_0_79 : 0 ≤ pointMany_0 ∧ pointMany_0 ≤ 76) (kz_0_80 : 0 ≤ costMany_0 ∧ costMany_0 ≤ 200) (kz_0_81 : 0 ≤ apartMany_0 ∧ apartMany_0 ≤ 200) (kz_0_100 : 0 ≤ items_0 ∧ items_0 ≤ 76) (kz_0_101 : 0 ≤ layerMany_0 ∧ layerMany_0 ≤ 76) (kz_0_107 : 0 ≤ lines_0 ∧ lines_0 ≤ 130) (ex2 : gx = apartMany_0) (ex3 : 0 ≤ gx ∧ gx ≤ 199) (ey2 : gy = x2) (ey3 : 0 ≤ gy ∧ gy ≤ 75) (eu2 : gu = x3) (eu3 : 1 ≤ gu ∧ gu ≤ 75) : apartMany_0 = gx := by
  try simp only [Int.add_zero] at *
  first
    | omega
    | (have h := ‹LSA _ _ _ _ _ _ _ _ _ _›.2.1; omega)
    | (have h := lsa_la (p := x2) (x := x15) ‹LSA _ _ _ _ _ _ _ _ _ _› (by omega) (by omega) (by assumption); omega)
    | (have h := lsa_lb (p := x2) (x := x16) ‹LSA _ _ _ _ _ _ _ _ _ _› (by omega) (by omega) (by assumption); omega)
set_option maxHeartbeats 4000000 in
theorem vc_Mo_across2_17_5 (x2 : Int) (x3 : Int) (x5 : Int) (x7 : Int) (x8 : Int) (x9 : Int) (x10 : Int) (x11 : Int) (x12 : Int) (x13 : Int) (x14 : Int) (x15 : Int) (x16 : Int) (x17 : Int) (x18 : Int) (x19 : Int) (x20 : Int) (x21 : Int) (layerItem_0 : Int → Int) (layerSize_0 : Int → Int) (all_0 : Int → Int) (turned_0 : Int → Int) (itemLayer_0 : Int → Int) (firstJoint_0 : Int → Int) (lineA_0 : Int → Int) (lineB_0 : Int → Int) (r_0 : Int) (items_0 : Int) (layerMany_0 : Int) (lines_0 : Int) (pointMany_0 : Int) (costA_0 : Int → Int) (costB_0 : Int → Int) (costW_0 : Int → Int) (costPlain_0 : Int → Int) (costMany_0 : Int) (apartA_0 : Int → Int) (apartB_0 : Int → Int) (apart_0 : Int → Int) (apartMany_0 : Int) (gx : Int) (gy : Int) (gu : Int) (k2 : 0 ≤ x2 ∧ x2 ≤ 75) (k3 : 1 ≤ x3 ∧ x3 ≤ 75) (k5 : 2 ≤ x5 ∧ x5 ≤ 76) (k7 : 76 ≤ x7 ∧ x7 ≤ 76) (k8 : 0 ≤ x8 ∧ x8 ≤ 5700) (k9 : 1 ≤ x9 ∧ x9 ≤ 5775) (k10 : 1 ≤ x10 ∧ x10 ≤ 1) (k11 : 0 ≤ x11 ∧ x11 ≤ 5774) (k12 : 0 ≤ x12 ∧ x12 ≤ 75) (k13 : 76 ≤ x13 ∧ x13 ≤ 76) (k14 : 0 ≤ x14 ∧ x14 ≤ 5700) (k15 : 1 ≤ x15 ∧ x15 ≤ 5775) (k16 : 0 ≤ x16 ∧ x16 ≤ 23) (k17 : 0 ≤ x17 ∧ x17 ≤ 0) (k18 : 1 ≤ x18 ∧ x18 ≤ 9) (k19 : 1 ≤ x19 ∧ x19 ≤ 9) (k20 : 2 ≤ x20 ∧ x20 ≤ 2) (k21 : 3 ≤ x21 ∧ x21 ≤ 11) (d0 : x19 + 2 ≤ x21 ∧ x21 ≤ x19 + 2) (d1 : x18 + 2 ≤ x21 ∧ x21 ≤ x18 + 2) (d2 : x18 + 0 ≤ x19 ∧ x19 ≤ x18 + 0) (d3 : x3 + 0 ≤ x15 ∧ x15 ≤ x3 + 5700) (d4 : x5 + (-4294967296) ≤ x15 ∧ x15 ≤ x5 + 5699) (d5 : x14 + 1 ≤ x15 ∧ x15 ≤ x14 + 75) (d6 : x9 + (-1) ≤ x11 ∧ x11 ≤ x9 + (-1)) (d7 : x3 + (-1) ≤ x11 ∧ x11 ≤ x3 + 5699) (d8 : x5 + (-4294967296) ≤ x11 ∧ x11 ≤ x5 + 5698) (d9 : x8 + 0 ≤ x11 ∧ x11 ≤ x8 + 74) (d10 : x3 + 0 ≤ x9 ∧ x9 ≤ x3 + 5700) (d11 : x5 + (-4294967296) ≤ x9 ∧ x9 ≤ x5 + 5699) (d12 : x8 + 1 ≤ x9 ∧ x9 ≤ x8 + 75) (d13 : x5 + (-4294967296) ≤ x3 ∧ x3 ≤ x5 + (-1)) (f0 : x21 = x19 + x20) (f1 : x19 = x17 + x18) (f2 : (0 ≤ x18) ∧ (x18 ≤ 100)) (f3 : (0 ≤ x17) ∧ (x17 ≤ 100)) (h4 : x16 = layerItem_0 (x15)) (f5 : x15 = x14 + x3) (f6 : x14 = 76 * x2) (h8 : x12 = layerItem_0 (x11)) (f9 : x11 = x9 - x10) (f10 : x9 = x8 + x3) (f11 : x8 = 76 * x2) (f12 : x3 < x5) (h13 : x5 = layerSize_0 (x2)) (f15 : LSA (r_0) (items_0) (layerMany_0) (lines_0) (all_0) (turned_0) (itemLayer_0) (firstJoint_0) (lineA_0) (lineB_0)) (f16 : LSB (items_0) (layerMany_0) (itemLayer_0) (layerSize_0) (layerItem_0)) (f17 : SGR (r_0) (all_0)) (f18 : pointMany_0 = items_0) (f19 : PCQ (pointMany_0) (costMany_0) (costA_0) (costB_0) (costW_0) (costPlain_0)) (f20 : costMany_0 ≤ 130) (f21 : PAL2 (apartMany_0) (layerMany_0) (layerSize_0) (layerItem_0) (apartA_0) (apartB_0) (apart_0) (x2) (x3)) (f22 : apartMany_0 ≤ 76) (f23 : (x2 + 1) ≤ layerMany_0) (f24 : 1 ≤ x3) (hK_0_83 : ∀ j : Int, 0 ≤ j → j < 200 → 0 ≤ costA_0 j ∧ costA_0 j ≤ 75) (hK_0_84 : ∀ j : Int, 0 ≤ j → j < 200 → 0 ≤ costB_0 j ∧ costB_0 j ≤ 75) (hK_0_85 : ∀ j : Int, 0 ≤ j → j < 200 → 0 ≤ costW_0 j ∧ costW_0 j ≤ 72) (hK_0_86 : ∀ j : Int, 0 ≤ j → j < 200 → 0 ≤ costPlain_0 j ∧ costPlain_0 j ≤ 1) (hK_0_87 : ∀ j : Int, 0 ≤ j → j < 200 → 0 ≤ apartA_0 j ∧ apartA_0 j ≤ 75) (hK_0_88 : ∀ j : Int, 0 ≤ j → j < 200 → 0 ≤ apartB_0 j ∧ apartB_0 j ≤ 75) (hK_0_89 : ∀ j : Int, 0 ≤ j → j < 200 → 0 ≤ apart_0 j ∧ apart_0 j ≤ 202) (hK_0_95 : ∀ j : Int, 0 ≤ j → j < 48 → 0 ≤ turned_0 j ∧ turned_0 j ≤ 1) (hK_0_102 : ∀ j : Int, 0 ≤ j → j < 76 → 0 ≤ itemLayer_0 j ∧ itemLayer_0 j ≤ 75) (hK_0_104 : ∀ j : Int, 0 ≤ j → j < 48 → 0 ≤ firstJoint_0 j ∧ firstJoint_0 j ≤ 76) (hK_0_105 : ∀ j : Int, 0 ≤ j → j < 76 → 0 ≤ layerSize_0 j ∧ layerSize_0 j ≤ 76) (hK_0_106 : ∀ j : Int, 0 ≤ j → j < 5776 → 0 ≤ layerItem_0 j ∧ layerItem_0 j ≤ 75) (hK_0_108 : ∀ j : Int, 0 ≤ j → j < 130 → 0 ≤ lineA_0 j ∧ lineA_0 j ≤ 75) (hK_0_109 : ∀ j : Int, 0 ≤ j → j < 130 → 0 ≤ lineB_0 j ∧ lineB_0 j ≤ 75) (kz_0_79 : 0 ≤ pointMany_0 ∧ pointMany_0 ≤ 76) (kz_0_80 : 0 ≤ costMany_0 ∧ costMany_0 ≤ 200) (kz_0_81 : 0 ≤ apartMany_0 ∧ apartMany_0 ≤ 200) (kz_0_100 : 0 ≤ items_0 ∧ items_0 ≤ 76) (kz_0_101 : 0 ≤ layerMany_0 ∧ layerMany_0 ≤ 76) (kz_0_107 : 0 ≤ lines_0 ∧ lines_0 ≤ 130) (ex2 : gx = apartMany_0) (ex3 : 0 ≤ gx ∧ gx ≤ 199) (ey2 : gy = x2) (ey3 : 0 ≤ gy ∧ gy ≤ 75) (eu2 : gu = x3) (eu3 : 1 ≤ gu ∧ gu ≤ 75) : PAL2 (apartMany_0) (layerMany_0) (layerSize_0) (layerItem_0) (apartA_0) (apartB_0) (apart_0) (gy) (gu) := by
  rw [ey2, eu2]; assumption
set_option maxHeartbeats 4000000 in
theorem vc_Mo_across2_17_6 (x2 : Int) (x3 : Int) (x5 : Int) (x7 : Int) (x8 : Int) (x9 : Int) (x10 : Int) (x11 : Int) (x12 : Int) (x13 : Int) (x14 : Int) (x15 : Int) (x16 : Int) (x17 : Int) (x18 : Int) (x19 : Int) (x20 : Int) (x21 : Int) (layerItem_0 : Int → Int) (layerSize_0 : Int → Int) (all_0 : Int → Int) (turned_0 : Int → Int) (itemLayer_0 : Int → Int) (firstJoint_0 : Int → Int) (lineA_0 : Int → Int) (lineB_0 : Int → Int) (r_0 : Int) (items_0 : Int) (layerMany_0 : Int) (lines_0 : Int) (pointMany_0 : Int) (costA_0 : Int → Int) (costB_0 : Int → Int) (costW_0 : Int → Int) (costPlain_0 : Int → Int) (costMany_0 : Int) (apartA_0 : Int → Int) (apartB_0 : Int → Int) (apart_0 : Int → Int) (apartMany_0 : Int) (gx : Int) (gy : Int) (gu : Int) (k2 : 0 ≤ x2 ∧ x2 ≤ 75) (k3 : 1 ≤ x3 ∧ x3 ≤ 75) (k5 : 2 ≤ x5 ∧ x5 ≤ 76) (k7 : 76 ≤ x7 ∧ x7 ≤ 76) (k8 : 0 ≤ x8 ∧ x8 ≤ 5700) (k9 : 1 ≤ x9 ∧ x9 ≤ 5775) (k10 : 1 ≤ x10 ∧ x10 ≤ 1) (k11 : 0 ≤ x11 ∧ x11 ≤ 5774) (k12 : 0 ≤ x12 ∧ x12 ≤ 75) (k13 : 76 ≤ x13 ∧ x13 ≤ 76) (k14 : 0 ≤ x14 ∧ x14 ≤ 5700) (k15 : 1 ≤ x15 ∧ x15 ≤ 5775) (k16 : 0 ≤ x16 ∧ x16 ≤ 23) (k17 : 0 ≤ x17 ∧ x17 ≤ 0) (k18 : 1 ≤ x18 ∧ x18 ≤ 9) (k19 : 1 ≤ x19 ∧ x19 ≤ 9) (k20 : 2 ≤ x20 ∧ x20 ≤ 2) (k21 : 3 ≤ x21 ∧ x21 ≤ 11) (d0 : x19 + 2 ≤ x21 ∧ x21 ≤ x19 + 2) (d1 : x18 + 2 ≤ x21 ∧ x21 ≤ x18 + 2) (d2 : x18 + 0 ≤ x19 ∧ x19 ≤ x18 + 0) (d3 : x3 + 0 ≤ x15 ∧ x15 ≤ x3 + 5700) (d4 : x5 + (-4294967296) ≤ x15 ∧ x15 ≤ x5 + 5699) (d5 : x14 + 1 ≤ x15 ∧ x15 ≤ x14 + 75) (d6 : x9 + (-1) ≤ x11 ∧ x11 ≤ x9 + (-1)) (d7 : x3 + (-1) ≤ x11 ∧ x11 ≤ x3 + 5699) (d8 : x5 + (-4294967296) ≤ x11 ∧ x11 ≤ x5 + 5698) (d9 : x8 + 0 ≤ x11 ∧ x11 ≤ x8 + 74) (d10 : x3 + 0 ≤ x9 ∧ x9 ≤ x3 + 5700) (d11 : x5 + (-4294967296) ≤ x9 ∧ x9 ≤ x5 + 5699) (d12 : x8 + 1 ≤ x9 ∧ x9 ≤ x8 + 75) (d13 : x5 + (-4294967296) ≤ x3 ∧ x3 ≤ x5 + (-1)) (f0 : x21 = x19 + x20) (f1 : x19 = x17 + x18) (f2 : (0 ≤ x18) ∧ (x18 ≤ 100)) (f3 : (0 ≤ x17) ∧ (x17 ≤ 100)) (h4 : x16 = layerItem_0 (x15)) (f5 : x15 = x14 + x3) (f6 : x14 = 76 * x2) (h8 : x12 = layerItem_0 (x11)) (f9 : x11 = x9 - x10) (f10 : x9 = x8 + x3) (f11 : x8 = 76 * x2) (f12 : x3 < x5) (h13 : x5 = layerSize_0 (x2)) (f15 : LSA (r_0) (items_0) (layerMany_0) (lines_0) (all_0) (turned_0) (itemLayer_0) (firstJoint_0) (lineA_0) (lineB_0)) (f16 : LSB (items_0) (layerMany_0) (itemLayer_0) (layerSize_0) (layerItem_0)) (f17 : SGR (r_0) (all_0)) (f18 : pointMany_0 = items_0) (f19 : PCQ (pointMany_0) (costMany_0) (costA_0) (costB_0) (costW_0) (costPlain_0)) (f20 : costMany_0 ≤ 130) (f21 : PAL2 (apartMany_0) (layerMany_0) (layerSize_0) (layerItem_0) (apartA_0) (apartB_0) (apart_0) (x2) (x3)) (f22 : apartMany_0 ≤ 76) (f23 : (x2 + 1) ≤ layerMany_0) (f24 : 1 ≤ x3) (hK_0_83 : ∀ j : Int, 0 ≤ j → j < 200 → 0 ≤ costA_0 j ∧ costA_0 j ≤ 75) (hK_0_84 : ∀ j : Int, 0 ≤ j → j < 200 → 0 ≤ costB_0 j ∧ costB_0 j ≤ 75) (hK_0_85 : ∀ j : Int, 0 ≤ j → j < 200 → 0 ≤ costW_0 j ∧ costW_0 j ≤ 72) (hK_0_86 : ∀ j : Int, 0 ≤ j → j < 200 → 0 ≤ costPlain_0 j ∧ costPlain_0 j ≤ 1) (hK_0_87 : ∀ j : Int, 0 ≤ j → j < 200 → 0 ≤ apartA_0 j ∧ apartA_0 j ≤ 75) (hK_0_88 : ∀ j : Int, 0 ≤ j → j < 200 → 0 ≤ apartB_0 j ∧ apartB_0 j ≤ 75) (hK_0_89 : ∀ j : Int, 0 ≤ j → j < 200 → 0 ≤ apart_0 j ∧ apart_0 j ≤ 202) (hK_0_95 : ∀ j : Int, 0 ≤ j → j < 48 → 0 ≤ turned_0 j ∧ turned_0 j ≤ 1) (hK_0_102 : ∀ j : Int, 0 ≤ j → j < 76 → 0 ≤ itemLayer_0 j ∧ itemLayer_0 j ≤ 75) (hK_0_104 : ∀ j : Int, 0 ≤ j → j < 48 → 0 ≤ firstJoint_0 j ∧ firstJoint_0 j ≤ 76) (hK_0_105 : ∀ j : Int, 0 ≤ j → j < 76 → 0 ≤ layerSize_0 j ∧ layerSize_0 j ≤ 76) (hK_0_106 : ∀ j : Int, 0 ≤ j → j < 5776 → 0 ≤ layerItem_0 j ∧ layerItem_0 j ≤ 75) (hK_0_108 : ∀ j : Int, 0 ≤ j → j < 130 → 0 ≤ lineA_0 j ∧ lineA_0 j ≤ 75) (hK_0_109 : ∀ j : Int, 0 ≤ j → j < 130 → 0 ≤ lineB_0 j ∧ lineB_0 j ≤ 75) (kz_0_79 : 0 ≤ pointMany_0 ∧ pointMany_0 ≤ 76) (kz_0_80 : 0 ≤ costMany_0 ∧ costMany_0 ≤ 200) (kz_0_81 : 0 ≤ apartMany_0 ∧ apartMany_0 ≤ 200) (kz_0_100 : 0 ≤ items_0 ∧ items_0 ≤ 76) (kz_0_101 : 0 ≤ layerMany_0 ∧ layerMany_0 ≤ 76) (kz_0_107 : 0 ≤ lines_0 ∧ lines_0 ≤ 130) (ex2 : gx = apartMany_0) (ex3 : 0 ≤ gx ∧ gx ≤ 199) (ey2 : gy = x2) (ey3 : 0 ≤ gy ∧ gy ≤ 75) (eu2 : gu = x3) (eu3 : 1 ≤ gu ∧ gu ≤ 75) : PAN (layerMany_0) (layerSize_0) (layerItem_0) (gy) (gu) (x12) (x16) := by
  rw [ey2, eu2]
  exact ⟨by omega, by rw [← (by omega : x11 = 76 * x2 + x3 - 1)]; assumption, by rw [← (by omega : x15 = 76 * x2 + x3)]; assumption⟩
set_option maxHeartbeats 4000000 in
theorem vc_Mo_across2_17_7 (x2 : Int) (x3 : Int) (x5 : Int) (x7 : Int) (x8 : Int) (x9 : Int) (x10 : Int) (x11 : Int) (x12 : Int) (x13 : Int) (x14 : Int) (x15 : Int) (x16 : Int) (x17 : Int) (x18 : Int) (x19 : Int) (x20 : Int) (x21 : Int) (layerItem_0 : Int → Int) (layerSize_0 : Int → Int) (all_0 : Int → Int) (turned_0 : Int → Int) (itemLayer_0 : Int → Int) (firstJoint_0 : Int → Int) (lineA_0 : Int → Int) (lineB_0 : Int → Int) (r_0 : Int) (items_0 : Int) (layerMany_0 : Int) (lines_0 : Int) (pointMany_0 : Int) (costA_0 : Int → Int) (costB_0 : Int → Int) (costW_0 : Int → Int) (costPlain_0 : Int → Int) (costMany_0 : Int) (apartA_0 : Int → Int) (apartB_0 : Int → Int) (apart_0 : Int → Int) (apartMany_0 : Int) (gx : Int) (gy : Int) (gu : Int) (k2 : 0 ≤ x2 ∧ x2 ≤ 75) (k3 : 1 ≤ x3 ∧ x3 ≤ 75) (k5 : 2 ≤ x5 ∧ x5 ≤ 76) (k7 : 76 ≤ x7 ∧ x7 ≤ 76) (k8 : 0 ≤ x8 ∧ x8 ≤ 5700) (k9 : 1 ≤ x9 ∧ x9 ≤ 5775) (k10 : 1 ≤ x10 ∧ x10 ≤ 1) (k11 : 0 ≤ x11 ∧ x11 ≤ 5774) (k12 : 0 ≤ x12 ∧ x12 ≤ 75) (k13 : 76 ≤ x13 ∧ x13 ≤ 76) (k14 : 0 ≤ x14 ∧ x14 ≤ 5700) (k15 : 1 ≤ x15 ∧ x15 ≤ 5775) (k16 : 0 ≤ x16 ∧ x16 ≤ 23) (k17 : 0 ≤ x17 ∧ x17 ≤ 0) (k18 : 1 ≤ x18 ∧ x18 ≤ 9) (k19 : 1 ≤ x19 ∧ x19 ≤ 9) (k20 : 2 ≤ x20 ∧ x20 ≤ 2) (k21 : 3 ≤ x21 ∧ x21 ≤ 11) (d0 : x19 + 2 ≤ x21 ∧ x21 ≤ x19 + 2) (d1 : x18 + 2 ≤ x21 ∧ x21 ≤ x18 + 2) (d2 : x18 + 0 ≤ x19 ∧ x19 ≤ x18 + 0) (d3 : x3 + 0 ≤ x15 ∧ x15 ≤ x3 + 5700) (d4 : x5 + (-4294967296) ≤ x15 ∧ x15 ≤ x5 + 5699) (d5 : x14 + 1 ≤ x15 ∧ x15 ≤ x14 + 75) (d6 : x9 + (-1) ≤ x11 ∧ x11 ≤ x9 + (-1)) (d7 : x3 + (-1) ≤ x11 ∧ x11 ≤ x3 + 5699) (d8 : x5 + (-4294967296) ≤ x11 ∧ x11 ≤ x5 + 5698) (d9 : x8 + 0 ≤ x11 ∧ x11 ≤ x8 + 74) (d10 : x3 + 0 ≤ x9 ∧ x9 ≤ x3 + 5700) (d11 : x5 + (-4294967296) ≤ x9 ∧ x9 ≤ x5 + 5699) (d12 : x8 + 1 ≤ x9 ∧ x9 ≤ x8 + 75) (d13 : x5 + (-4294967296) ≤ x3 ∧ x3 ≤ x5 + (-1)) (f0 : x21 = x19 + x20) (f1 : x19 = x17 + x18) (f2 : (0 ≤ x18) ∧ (x18 ≤ 100)) (f3 : (0 ≤ x17) ∧ (x17 ≤ 100)) (h4 : x16 = layerItem_0 (x15)) (f5 : x15 = x14 + x3) (f6 : x14 = 76 * x2) (h8 : x12 = layerItem_0 (x11)) (f9 : x11 = x9 - x10) (f10 : x9 = x8 + x3) (f11 : x8 = 76 * x2) (f12 : x3 < x5) (h13 : x5 = layerSize_0 (x2)) (f15 : LSA (r_0) (items_0) (layerMany_0) (lines_0) (all_0) (turned_0) (itemLayer_0) (firstJoint_0) (lineA_0) (lineB_0)) (f16 : LSB (items_0) (layerMany_0) (itemLayer_0) (layerSize_0) (layerItem_0)) (f17 : SGR (r_0) (all_0)) (f18 : pointMany_0 = items_0) (f19 : PCQ (pointMany_0) (costMany_0) (costA_0) (costB_0) (costW_0) (costPlain_0)) (f20 : costMany_0 ≤ 130) (f21 : PAL2 (apartMany_0) (layerMany_0) (layerSize_0) (layerItem_0) (apartA_0) (apartB_0) (apart_0) (x2) (x3)) (f22 : apartMany_0 ≤ 76) (f23 : (x2 + 1) ≤ layerMany_0) (f24 : 1 ≤ x3) (hK_0_83 : ∀ j : Int, 0 ≤ j → j < 200 → 0 ≤ costA_0 j ∧ costA_0 j ≤ 75) (hK_0_84 : ∀ j : Int, 0 ≤ j → j < 200 → 0 ≤ costB_0 j ∧ costB_0 j ≤ 75) (hK_0_85 : ∀ j : Int, 0 ≤ j → j < 200 → 0 ≤ costW_0 j ∧ costW_0 j ≤ 72) (hK_0_86 : ∀ j : Int, 0 ≤ j → j < 200 → 0 ≤ costPlain_0 j ∧ costPlain_0 j ≤ 1) (hK_0_87 : ∀ j : Int, 0 ≤ j → j < 200 → 0 ≤ apartA_0 j ∧ apartA_0 j ≤ 75) (hK_0_88 : ∀ j : Int, 0 ≤ j → j < 200 → 0 ≤ apartB_0 j ∧ apartB_0 j ≤ 75) (hK_0_89 : ∀ j : Int, 0 ≤ j → j < 200 → 0 ≤ apart_0 j ∧ apart_0 j ≤ 202) (hK_0_95 : ∀ j : Int, 0 ≤ j → j < 48 → 0 ≤ turned_0 j ∧ turned_0 j ≤ 1) (hK_0_102 : ∀ j : Int, 0 ≤ j → j < 76 → 0 ≤ itemLayer_0 j ∧ itemLayer_0 j ≤ 75) (hK_0_104 : ∀ j : Int, 0 ≤ j → j < 48 → 0 ≤ firstJoint_0 j ∧ firstJoint_0 j ≤ 76) (hK_0_105 : ∀ j : Int, 0 ≤ j → j < 76 → 0 ≤ layerSize_0 j ∧ layerSize_0 j ≤ 76) (hK_0_106 : ∀ j : Int, 0 ≤ j → j < 5776 → 0 ≤ layerItem_0 j ∧ layerItem_0 j ≤ 75) (hK_0_108 : ∀ j : Int, 0 ≤ j → j < 130 → 0 ≤ lineA_0 j ∧ lineA_0 j ≤ 75) (hK_0_109 : ∀ j : Int, 0 ≤ j → j < 130 → 0 ≤ lineB_0 j ∧ lineB_0 j ≤ 75) (kz_0_79 : 0 ≤ pointMany_0 ∧ pointMany_0 ≤ 76) (kz_0_80 : 0 ≤ costMany_0 ∧ costMany_0 ≤ 200) (kz_0_81 : 0 ≤ apartMany_0 ∧ apartMany_0 ≤ 200) (kz_0_100 : 0 ≤ items_0 ∧ items_0 ≤ 76) (kz_0_101 : 0 ≤ layerMany_0 ∧ layerMany_0 ≤ 76) (kz_0_107 : 0 ≤ lines_0 ∧ lines_0 ≤ 130) (ex2 : gx = apartMany_0) (ex3 : 0 ≤ gx ∧ gx ≤ 199) (ey2 : gy = x2) (ey3 : 0 ≤ gy ∧ gy ≤ 75) (eu2 : gu = x3) (eu3 : 1 ≤ gu ∧ gu ≤ 75) : (2 ≤ x21) ∧ (x21 ≤ 202) := by
  try simp only [Int.add_zero] at *
  first
    | omega
    | (have h := ‹LSA _ _ _ _ _ _ _ _ _ _›.2.1; omega)
    | (have h := lsa_la (p := x2) (x := x15) ‹LSA _ _ _ _ _ _ _ _ _ _› (by omega) (by omega) (by assumption); omega)
    | (have h := lsa_lb (p := x2) (x := x16) ‹LSA _ _ _ _ _ _ _ _ _ _› (by omega) (by omega) (by assumption); omega)
def o_Mo_across2_17 : or_T := (243, 22, [(0, (2, 0, 0, [150])), (1, (2, 0, 0, [150])), (2, (0, 0, 75, [])), (3, (0, 1, 75, [])), (4, (2, 0, 0, [223])), (5, (0, 2, 76, [])), (6, (2, 0, 0, [224])), (7, (0, 76, 76, [])), (8, (0, 0, 5700, [])), (9, (0, 1, 5775, [])), (10, (0, 1, 1, [])), (11, (0, 0, 5774, [])), (12, (0, 0, 75, [])), (13, (0, 76, 76, [])), (14, (0, 0, 5700, [])), (15, (0, 1, 5775, [])), (16, (0, 0, 23, [])), (17, (0, 0, 0, [])), (18, (0, 1, 9, [])), (19, (0, 1, 9, [])), (20, (0, 2, 2, [])), (21, (0, 3, 11, []))], [(1, [21, 19, 20], []), (1, [19, 17, 18], []), (20, [18], [50, 0, 0, 2, 6, 0, 2, 0, 0, 1, 0, 0, 2, 1, 0, 0, 100]), (20, [17], [50, 0, 0, 2, 6, 0, 2, 0, 0, 1, 0, 0, 2, 1, 0, 0, 100]), (10, [16, 6, 15], []), (1, [15, 14, 3], []), (3, [14, 13, 2], []), (9, [6, 1], [106]), (10, [12, 6, 11], []), (2, [11, 9, 10], []), (1, [9, 8, 3], []), (3, [8, 7, 2], []), (7, [3, 5], [2]), (10, [5, 4, 2], []), (9, [4, 1], [105]), (20, [1], [60, 4, 6, 369, 5, 100, 101, 107, 2, 95, 102, 104, 108, 109]), (20, [1], [60, 2, 3, 372, 100, 101, 102, 105, 106]), (20, [1], [60, 1, 1, 122, 5, 2]), (20, [1], [50, 2, 0, 79, 100, 1, 3, 2, 0, 79, 2, 0, 100]), (20, [1], [60, 2, 4, 380, 79, 80, 83, 84, 85, 86]), (20, [1], [50, 1, 0, 80, 0, 3, 2, 0, 80, 0, 130]), (20, [1, 2, 3], [60, 2, 5, 393, 81, 101, 105, 106, 87, 88, 89]), (20, [1], [50, 1, 0, 81, 0, 3, 2, 0, 81, 0, 76]), (20, [2, 1], [50, 1, 0, 1101, 0, 6, 4, 2, 1, 0, 0, 1, 2, 1, 101]), (20, [3], [50, 0, 0, 0, 2, 0, 1, 1, 0]), (24, [0, 1], [])], [], [(0, 0, 199, []), (0, 0, 75, []), (0, 1, 75, [])], [(23, [23, 2], [0, 1, -1]), (23, [23, 2], [0, -1, 1]), (23, [24, 3], [0, 1, -1]), (23, [24, 3], [0, -1, 1]), (20, [1, 22], [50, 1, 0, 81, 1, 3, 2, 0, 81, 1, 1]), (20, [1, 23, 24], [60, 2, 5, 393, 81, 101, 105, 106, 87, 88, 89]), (20, [1, 23, 24, 12, 16], [60, 1, 2, 390, 101, 105, 106]), (20, [21], [50, 0, 0, 2, 6, 0, 2, 0, 2, 1, 0, 0, 2, 1, 0, 0, 202])], [], [(21, 19, 2, 2), (21, 18, 2, 2), (19, 18, 0, 0), (15, 3, 0, 5700), (15, 5, -4294967296, 5699), (15, 14, 1, 75), (11, 9, -1, -1), (11, 3, -1, 5699), (11, 5, -4294967296, 5698), (11, 8, 0, 74), (9, 3, 0, 5700), (9, 5, -4294967296, 5699), (9, 8, 1, 75), (3, 5, -4294967296, -1)])
theorem oo_Mo_across2_17 {kA : Nat → ClassId} : or_ok PRD kA GG o_Mo_across2_17 := by
  intro A ta ws vs hD hth hl hk hds hf
  have hl : vs.length = 22 := hl
  have hk : ∀ q ∈ ([(0, (2, 0, 0, [150])), (1, (2, 0, 0, [150])), (2, (0, 0, 75, [])), (3, (0, 1, 75, [])), (4, (2, 0, 0, [223])), (5, (0, 2, 76, [])), (6, (2, 0, 0, [224])), (7, (0, 76, 76, [])), (8, (0, 0, 5700, [])), (9, (0, 1, 5775, [])), (10, (0, 1, 1, [])), (11, (0, 0, 5774, [])), (12, (0, 0, 75, [])), (13, (0, 76, 76, [])), (14, (0, 0, 5700, [])), (15, (0, 1, 5775, [])), (16, (0, 0, 23, [])), (17, (0, 0, 0, [])), (18, (0, 1, 9, [])), (19, (0, 1, 9, [])), (20, (0, 2, 2, [])), (21, (0, 3, 11, []))] : List (Nat × tv_T)), tv_ok ta q.2 (n_v vs q.1) := hk
  obtain ⟨t0, hk⟩ := List.forall_mem_cons.mp hk
  have t0 : tv_ok ta (2, 0, 0, [150]) (n_v vs 0) := t0
  have r0 : ta (v_ad (n_v vs 0)) = some 150 := tv_rg t0
  obtain ⟨t1, hk⟩ := List.forall_mem_cons.mp hk
  have t1 : tv_ok ta (2, 0, 0, [150]) (n_v vs 1) := t1
  have r1 : ta (v_ad (n_v vs 1)) = some 150 := tv_rg t1
  obtain ⟨t2, hk⟩ := List.forall_mem_cons.mp hk
  have t2 : tv_ok ta (0, 0, 75, []) (n_v vs 2) := t2
  have k2 : 0 ≤ v_iv (n_v vs 2) ∧ v_iv (n_v vs 2) ≤ 75 := tv_rng t2
  obtain ⟨t3, hk⟩ := List.forall_mem_cons.mp hk
  have t3 : tv_ok ta (0, 1, 75, []) (n_v vs 3) := t3
  have k3 : 1 ≤ v_iv (n_v vs 3) ∧ v_iv (n_v vs 3) ≤ 75 := tv_rng t3
  obtain ⟨t4, hk⟩ := List.forall_mem_cons.mp hk
  have t4 : tv_ok ta (2, 0, 0, [223]) (n_v vs 4) := t4
  have r4 : ta (v_ad (n_v vs 4)) = some 223 := tv_rg t4
  obtain ⟨t5, hk⟩ := List.forall_mem_cons.mp hk
  have t5 : tv_ok ta (0, 2, 76, []) (n_v vs 5) := t5
  have k5 : 2 ≤ v_iv (n_v vs 5) ∧ v_iv (n_v vs 5) ≤ 76 := tv_rng t5
  obtain ⟨t6, hk⟩ := List.forall_mem_cons.mp hk
  have t6 : tv_ok ta (2, 0, 0, [224]) (n_v vs 6) := t6
  have r6 : ta (v_ad (n_v vs 6)) = some 224 := tv_rg t6
  obtain ⟨t7, hk⟩ := List.forall_mem_cons.mp hk
  have t7 : tv_ok ta (0, 76, 76, []) (n_v vs 7) := t7
  have k7 : 76 ≤ v_iv (n_v vs 7) ∧ v_iv (n_v vs 7) ≤ 76 := tv_rng t7
  obtain ⟨t8, hk⟩ := List.forall_mem_cons.mp hk
  have t8 : tv_ok ta (0, 0, 5700, []) (n_v vs 8) := t8
  have k8 : 0 ≤ v_iv (n_v vs 8) ∧ v_iv (n_v vs 8) ≤ 5700 := tv_rng t8
  obtain ⟨t9, hk⟩ := List.forall_mem_cons.mp hk
  have t9 : tv_ok ta (0, 1, 5775, []) (n_v vs 9) := t9
  have k9 : 1 ≤ v_iv (n_v vs 9) ∧ v_iv (n_v vs 9) ≤ 5775 := tv_rng t9
  obtain ⟨t10, hk⟩ := List.forall_mem_cons.mp hk
  have t10 : tv_ok ta (0, 1, 1, []) (n_v vs 10) := t10
  have k10 : 1 ≤ v_iv (n_v vs 10) ∧ v_iv (n_v vs 10) ≤ 1 := tv_rng t10
  obtain ⟨t11, hk⟩ := List.forall_mem_cons.mp hk
  have t11 : tv_ok ta (0, 0, 5774, []) (n_v vs 11) := t11
  have k11 : 0 ≤ v_iv (n_v vs 11) ∧ v_iv (n_v vs 11) ≤ 5774 := tv_rng t11
  obtain ⟨t12, hk⟩ := List.forall_mem_cons.mp hk
  have t12 : tv_ok ta (0, 0, 75, []) (n_v vs 12) := t12
  have k12 : 0 ≤ v_iv (n_v vs 12) ∧ v_iv (n_v vs 12) ≤ 75 := tv_rng t12
  obtain ⟨t13, hk⟩ := List.forall_mem_cons.mp hk
  have t13 : tv_ok ta (0, 76, 76, []) (n_v vs 13) := t13
  have k13 : 76 ≤ v_iv (n_v vs 13) ∧ v_iv (n_v vs 13) ≤ 76 := tv_rng t13
  obtain ⟨t14, hk⟩ := List.forall_mem_cons.mp hk
  have t14 : tv_ok ta (0, 0, 5700, []) (n_v vs 14) := t14
  have k14 : 0 ≤ v_iv (n_v vs 14) ∧ v_iv (n_v vs 14) ≤ 5700 := tv_rng t14
  obtain ⟨t15, hk⟩ := List.forall_mem_cons.mp hk
  have t15 : tv_ok ta (0, 1, 5775, []) (n_v vs 15) := t15
  have k15 : 1 ≤ v_iv (n_v vs 15) ∧ v_iv (n_v vs 15) ≤ 5775 := tv_rng t15
  obtain ⟨t16, hk⟩ := List.forall_mem_cons.mp hk
  have t16 : tv_ok ta (0, 0, 23, []) (n_v vs 16) := t16
  have k16 : 0 ≤ v_iv (n_v vs 16) ∧ v_iv (n_v vs 16) ≤ 23 := tv_rng t16
  obtain ⟨t17, hk⟩ := List.forall_mem_cons.mp hk
  have t17 : tv_ok ta (0, 0, 0, []) (n_v vs 17) := t17
  have k17 : 0 ≤ v_iv (n_v vs 17) ∧ v_iv (n_v vs 17) ≤ 0 := tv_rng t17
  obtain ⟨t18, hk⟩ := List.forall_mem_cons.mp hk
  have t18 : tv_ok ta (0, 1, 9, []) (n_v vs 18) := t18
  have k18 : 1 ≤ v_iv (n_v vs 18) ∧ v_iv (n_v vs 18) ≤ 9 := tv_rng t18
  obtain ⟨t19, hk⟩ := List.forall_mem_cons.mp hk
  have t19 : tv_ok ta (0, 1, 9, []) (n_v vs 19) := t19
  have k19 : 1 ≤ v_iv (n_v vs 19) ∧ v_iv (n_v vs 19) ≤ 9 := tv_rng t19
  obtain ⟨t20, hk⟩ := List.forall_mem_cons.mp hk
  have t20 : tv_ok ta (0, 2, 2, []) (n_v vs 20) := t20
  have k20 : 2 ≤ v_iv (n_v vs 20) ∧ v_iv (n_v vs 20) ≤ 2 := tv_rng t20
  obtain ⟨t21, hk⟩ := List.forall_mem_cons.mp hk
  have t21 : tv_ok ta (0, 3, 11, []) (n_v vs 21) := t21
  have k21 : 3 ≤ v_iv (n_v vs 21) ∧ v_iv (n_v vs 21) ≤ 11 := tv_rng t21
  have hds : ∀ q ∈ ([(21, 19, 2, 2), (21, 18, 2, 2), (19, 18, 0, 0), (15, 3, 0, 5700), (15, 5, -4294967296, 5699), (15, 14, 1, 75), (11, 9, -1, -1), (11, 3, -1, 5699), (11, 5, -4294967296, 5698), (11, 8, 0, 74), (9, 3, 0, 5700), (9, 5, -4294967296, 5699), (9, 8, 1, 75), (3, 5, -4294967296, -1)] : List of_T), n_iv vs q.2.1 + q.2.2.1 ≤ n_iv vs q.1 ∧ n_iv vs q.1 ≤ n_iv vs q.2.1 + q.2.2.2 := hds
  obtain ⟨d0, hds⟩ := List.forall_mem_cons.mp hds
  have d0 : v_iv (n_v vs 19) + 2 ≤ v_iv (n_v vs 21) ∧ v_iv (n_v vs 21) ≤ v_iv (n_v vs 19) + 2 := d0
  obtain ⟨d1, hds⟩ := List.forall_mem_cons.mp hds
  have d1 : v_iv (n_v vs 18) + 2 ≤ v_iv (n_v vs 21) ∧ v_iv (n_v vs 21) ≤ v_iv (n_v vs 18) + 2 := d1
  obtain ⟨d2, hds⟩ := List.forall_mem_cons.mp hds
  have d2 : v_iv (n_v vs 18) + 0 ≤ v_iv (n_v vs 19) ∧ v_iv (n_v vs 19) ≤ v_iv (n_v vs 18) + 0 := d2
  obtain ⟨d3, hds⟩ := List.forall_mem_cons.mp hds
  have d3 : v_iv (n_v vs 3) + 0 ≤ v_iv (n_v vs 15) ∧ v_iv (n_v vs 15) ≤ v_iv (n_v vs 3) + 5700 := d3
  obtain ⟨d4, hds⟩ := List.forall_mem_cons.mp hds
  have d4 : v_iv (n_v vs 5) + (-4294967296) ≤ v_iv (n_v vs 15) ∧ v_iv (n_v vs 15) ≤ v_iv (n_v vs 5) + 5699 := d4
  obtain ⟨d5, hds⟩ := List.forall_mem_cons.mp hds
  have d5 : v_iv (n_v vs 14) + 1 ≤ v_iv (n_v vs 15) ∧ v_iv (n_v vs 15) ≤ v_iv (n_v vs 14) + 75 := d5
  obtain ⟨d6, hds⟩ := List.forall_mem_cons.mp hds
  have d6 : v_iv (n_v vs 9) + (-1) ≤ v_iv (n_v vs 11) ∧ v_iv (n_v vs 11) ≤ v_iv (n_v vs 9) + (-1) := d6
  obtain ⟨d7, hds⟩ := List.forall_mem_cons.mp hds
  have d7 : v_iv (n_v vs 3) + (-1) ≤ v_iv (n_v vs 11) ∧ v_iv (n_v vs 11) ≤ v_iv (n_v vs 3) + 5699 := d7
  obtain ⟨d8, hds⟩ := List.forall_mem_cons.mp hds
  have d8 : v_iv (n_v vs 5) + (-4294967296) ≤ v_iv (n_v vs 11) ∧ v_iv (n_v vs 11) ≤ v_iv (n_v vs 5) + 5698 := d8
  obtain ⟨d9, hds⟩ := List.forall_mem_cons.mp hds
  have d9 : v_iv (n_v vs 8) + 0 ≤ v_iv (n_v vs 11) ∧ v_iv (n_v vs 11) ≤ v_iv (n_v vs 8) + 74 := d9
  obtain ⟨d10, hds⟩ := List.forall_mem_cons.mp hds
  have d10 : v_iv (n_v vs 3) + 0 ≤ v_iv (n_v vs 9) ∧ v_iv (n_v vs 9) ≤ v_iv (n_v vs 3) + 5700 := d10
  obtain ⟨d11, hds⟩ := List.forall_mem_cons.mp hds
  have d11 : v_iv (n_v vs 5) + (-4294967296) ≤ v_iv (n_v vs 9) ∧ v_iv (n_v vs 9) ≤ v_iv (n_v vs 5) + 5699 := d11
  obtain ⟨d12, hds⟩ := List.forall_mem_cons.mp hds
  have d12 : v_iv (n_v vs 8) + 1 ≤ v_iv (n_v vs 9) ∧ v_iv (n_v vs 9) ≤ v_iv (n_v vs 8) + 75 := d12
  obtain ⟨d13, hds⟩ := List.forall_mem_cons.mp hds
  have d13 : v_iv (n_v vs 5) + (-4294967296) ≤ v_iv (n_v vs 3) ∧ v_iv (n_v vs 3) ≤ v_iv (n_v vs 5) + (-1) := d13
  have hf : fc_ok PRD [(1, [21, 19, 20], []), (1, [19, 17, 18], []), (20, [18], [50, 0, 0, 2, 6, 0, 2, 0, 0, 1, 0, 0, 2, 1, 0, 0, 100]), (20, [17], [50, 0, 0, 2, 6, 0, 2, 0, 0, 1, 0, 0, 2, 1, 0, 0, 100]), (10, [16, 6, 15], []), (1, [15, 14, 3], []), (3, [14, 13, 2], []), (9, [6, 1], [106]), (10, [12, 6, 11], []), (2, [11, 9, 10], []), (1, [9, 8, 3], []), (3, [8, 7, 2], []), (7, [3, 5], [2]), (10, [5, 4, 2], []), (9, [4, 1], [105]), (20, [1], [60, 4, 6, 369, 5, 100, 101, 107, 2, 95, 102, 104, 108, 109]), (20, [1], [60, 2, 3, 372, 100, 101, 102, 105, 106]), (20, [1], [60, 1, 1, 122, 5, 2]), (20, [1], [50, 2, 0, 79, 100, 1, 3, 2, 0, 79, 2, 0, 100]), (20, [1], [60, 2, 4, 380, 79, 80, 83, 84, 85, 86]), (20, [1], [50, 1, 0, 80, 0, 3, 2, 0, 80, 0, 130]), (20, [1, 2, 3], [60, 2, 5, 393, 81, 101, 105, 106, 87, 88, 89]), (20, [1], [50, 1, 0, 81, 0, 3, 2, 0, 81, 0, 76]), (20, [2, 1], [50, 1, 0, 1101, 0, 6, 4, 2, 1, 0, 0, 1, 2, 1, 101]), (20, [3], [50, 0, 0, 0, 2, 0, 1, 1, 0]), (24, [0, 1], [])] ta ws vs := hf
  obtain ⟨f0, hf⟩ := fc_un (show (1 : Nat) < 100 from by decide) hf
  have f0 : v_iv (n_v vs 21) = v_iv (n_v vs 19) + v_iv (n_v vs 20) := f0
  obtain ⟨f1, hf⟩ := fc_un (show (1 : Nat) < 100 from by decide) hf
  have f1 : v_iv (n_v vs 19) = v_iv (n_v vs 17) + v_iv (n_v vs 18) := f1
  obtain ⟨f2, hf⟩ := fc_un (show (20 : Nat) < 100 from by decide) hf
  have f2 : (0 ≤ v_iv (n_v vs 18)) ∧ (v_iv (n_v vs 18) ≤ 100) := f2
  obtain ⟨f3, hf⟩ := fc_un (show (20 : Nat) < 100 from by decide) hf
  have f3 : (0 ≤ v_iv (n_v vs 17)) ∧ (v_iv (n_v vs 17) ≤ 100) := f3
  obtain ⟨f4, hf⟩ := fc_un (show (10 : Nat) < 100 from by decide) hf
  have f4 : v_iv (n_v vs 16) = w_el ws (v_ad (n_v vs 6)) (v_iv (n_v vs 15)).toNat := f4
  obtain ⟨f5, hf⟩ := fc_un (show (1 : Nat) < 100 from by decide) hf
  have f5 : v_iv (n_v vs 15) = v_iv (n_v vs 14) + v_iv (n_v vs 3) := f5
  obtain ⟨f6, hf⟩ := fc_un (show (3 : Nat) < 100 from by decide) hf
  have f6 : v_iv (n_v vs 14) = v_iv (n_v vs 13) * v_iv (n_v vs 2) := f6
  rw [show v_iv (n_v vs 13) = 76 from by omega] at f6
  obtain ⟨f7, hf⟩ := fc_un (show (9 : Nat) < 100 from by decide) hf
  have f7 : n_v vs 6 = w_fd ws (v_ad (n_v vs 1)) 106 := f7
  obtain ⟨f8, hf⟩ := fc_un (show (10 : Nat) < 100 from by decide) hf
  have f8 : v_iv (n_v vs 12) = w_el ws (v_ad (n_v vs 6)) (v_iv (n_v vs 11)).toNat := f8
  obtain ⟨f9, hf⟩ := fc_un (show (2 : Nat) < 100 from by decide) hf
  have f9 : v_iv (n_v vs 11) = v_iv (n_v vs 9) - v_iv (n_v vs 10) := f9
  obtain ⟨f10, hf⟩ := fc_un (show (1 : Nat) < 100 from by decide) hf
  have f10 : v_iv (n_v vs 9) = v_iv (n_v vs 8) + v_iv (n_v vs 3) := f10
  obtain ⟨f11, hf⟩ := fc_un (show (3 : Nat) < 100 from by decide) hf
  have f11 : v_iv (n_v vs 8) = v_iv (n_v vs 7) * v_iv (n_v vs 2) := f11
  rw [show v_iv (n_v vs 7) = 76 from by omega] at f11
  obtain ⟨f12, hf⟩ := fc_un (show (7 : Nat) < 100 from by decide) hf
  have f12 : v_iv (n_v vs 3) < v_iv (n_v vs 5) := f12
  obtain ⟨f13, hf⟩ := fc_un (show (10 : Nat) < 100 from by decide) hf
  have f13 : v_iv (n_v vs 5) = w_el ws (v_ad (n_v vs 4)) (v_iv (n_v vs 2)).toNat := f13
  obtain ⟨f14, hf⟩ := fc_un (show (9 : Nat) < 100 from by decide) hf
  have f14 : n_v vs 4 = w_fd ws (v_ad (n_v vs 1)) 105 := f14
  obtain ⟨f15, hf⟩ := fc_un (show (20 : Nat) < 100 from by decide) hf
  have f15 : LSA (w_fi ws (n_v vs 1) 5) (w_fi ws (n_v vs 1) 100) (w_fi ws (n_v vs 1) 101) (w_fi ws (n_v vs 1) 107) (w_ei ws (w_ar ws (n_v vs 1) 2)) (w_ei ws (w_ar ws (n_v vs 1) 95)) (w_ei ws (w_ar ws (n_v vs 1) 102)) (w_ei ws (w_ar ws (n_v vs 1) 104)) (w_ei ws (w_ar ws (n_v vs 1) 108)) (w_ei ws (w_ar ws (n_v vs 1) 109)) := f15
  obtain ⟨f16, hf⟩ := fc_un (show (20 : Nat) < 100 from by decide) hf
  have f16 : LSB (w_fi ws (n_v vs 1) 100) (w_fi ws (n_v vs 1) 101) (w_ei ws (w_ar ws (n_v vs 1) 102)) (w_ei ws (w_ar ws (n_v vs 1) 105)) (w_ei ws (w_ar ws (n_v vs 1) 106)) := f16
  obtain ⟨f17, hf⟩ := fc_un (show (20 : Nat) < 100 from by decide) hf
  have f17 : SGR (w_fi ws (n_v vs 1) 5) (w_ei ws (w_ar ws (n_v vs 1) 2)) := f17
  obtain ⟨f18, hf⟩ := fc_un (show (20 : Nat) < 100 from by decide) hf
  have f18 : w_fi ws (n_v vs 1) 79 = w_fi ws (n_v vs 1) 100 := f18
  obtain ⟨f19, hf⟩ := fc_un (show (20 : Nat) < 100 from by decide) hf
  have f19 : PCQ (w_fi ws (n_v vs 1) 79) (w_fi ws (n_v vs 1) 80) (w_ei ws (w_ar ws (n_v vs 1) 83)) (w_ei ws (w_ar ws (n_v vs 1) 84)) (w_ei ws (w_ar ws (n_v vs 1) 85)) (w_ei ws (w_ar ws (n_v vs 1) 86)) := f19
  obtain ⟨f20, hf⟩ := fc_un (show (20 : Nat) < 100 from by decide) hf
  have f20 : w_fi ws (n_v vs 1) 80 ≤ 130 := f20
  obtain ⟨f21, hf⟩ := fc_un (show (20 : Nat) < 100 from by decide) hf
  have f21 : PAL2 (w_fi ws (n_v vs 1) 81) (w_fi ws (n_v vs 1) 101) (w_ei ws (w_ar ws (n_v vs 1) 105)) (w_ei ws (w_ar ws (n_v vs 1) 106)) (w_ei ws (w_ar ws (n_v vs 1) 87)) (w_ei ws (w_ar ws (n_v vs 1) 88)) (w_ei ws (w_ar ws (n_v vs 1) 89)) (v_iv (n_v vs 2)) (v_iv (n_v vs 3)) := f21
  obtain ⟨f22, hf⟩ := fc_un (show (20 : Nat) < 100 from by decide) hf
  have f22 : w_fi ws (n_v vs 1) 81 ≤ 76 := f22
  obtain ⟨f23, hf⟩ := fc_un (show (20 : Nat) < 100 from by decide) hf
  have f23 : (v_iv (n_v vs 2) + 1) ≤ w_fi ws (n_v vs 1) 101 := f23
  obtain ⟨f24, hf⟩ := fc_un (show (20 : Nat) < 100 from by decide) hf
  have f24 : 1 ≤ v_iv (n_v vs 3) := f24
  obtain ⟨f25, hf⟩ := fc_un (show (24 : Nat) < 100 from by decide) hf
  have f25 : n_v vs 0 = n_v vs 1 := f25
  have q1 : n_v vs 1 = n_v vs 0 := f25.symm
  rw [q1] at f7
  rw [q1] at f14
  rw [q1] at f15
  rw [q1] at f16
  rw [q1] at f17
  rw [q1] at f18
  rw [q1] at f19
  rw [q1] at f20
  rw [q1] at f21
  rw [q1] at f22
  rw [q1] at f23
  have cr_0_2 : ta (w_ar ws (n_v vs 0) 2) = some 152 := tv_rg (th_fd hD hth r0 (g := GG_150) rfl (k := 2) (t := (2, 0, 0, [152])) rfl rfl)
  have cr_0_83 : ta (w_ar ws (n_v vs 0) 83) = some 205 := tv_rg (th_fd hD hth r0 (g := GG_150) rfl (k := 83) (t := (2, 0, 0, [205])) rfl rfl)
  have cr_0_84 : ta (w_ar ws (n_v vs 0) 84) = some 206 := tv_rg (th_fd hD hth r0 (g := GG_150) rfl (k := 84) (t := (2, 0, 0, [206])) rfl rfl)
  have cr_0_85 : ta (w_ar ws (n_v vs 0) 85) = some 207 := tv_rg (th_fd hD hth r0 (g := GG_150) rfl (k := 85) (t := (2, 0, 0, [207])) rfl rfl)
  have cr_0_86 : ta (w_ar ws (n_v vs 0) 86) = some 208 := tv_rg (th_fd hD hth r0 (g := GG_150) rfl (k := 86) (t := (2, 0, 0, [208])) rfl rfl)
  have cr_0_87 : ta (w_ar ws (n_v vs 0) 87) = some 209 := tv_rg (th_fd hD hth r0 (g := GG_150) rfl (k := 87) (t := (2, 0, 0, [209])) rfl rfl)
  have cr_0_88 : ta (w_ar ws (n_v vs 0) 88) = some 210 := tv_rg (th_fd hD hth r0 (g := GG_150) rfl (k := 88) (t := (2, 0, 0, [210])) rfl rfl)
  have cr_0_89 : ta (w_ar ws (n_v vs 0) 89) = some 211 := tv_rg (th_fd hD hth r0 (g := GG_150) rfl (k := 89) (t := (2, 0, 0, [211])) rfl rfl)
  have cr_0_95 : ta (w_ar ws (n_v vs 0) 95) = some 216 := tv_rg (th_fd hD hth r0 (g := GG_150) rfl (k := 95) (t := (2, 0, 0, [216])) rfl rfl)
  have cr_0_102 : ta (w_ar ws (n_v vs 0) 102) = some 220 := tv_rg (th_fd hD hth r0 (g := GG_150) rfl (k := 102) (t := (2, 0, 0, [220])) rfl rfl)
  have cr_0_104 : ta (w_ar ws (n_v vs 0) 104) = some 222 := tv_rg (th_fd hD hth r0 (g := GG_150) rfl (k := 104) (t := (2, 0, 0, [222])) rfl rfl)
  have cr_0_105 : ta (w_ar ws (n_v vs 0) 105) = some 223 := tv_rg (th_fd hD hth r0 (g := GG_150) rfl (k := 105) (t := (2, 0, 0, [223])) rfl rfl)
  have cr_0_106 : ta (w_ar ws (n_v vs 0) 106) = some 224 := tv_rg (th_fd hD hth r0 (g := GG_150) rfl (k := 106) (t := (2, 0, 0, [224])) rfl rfl)
  have cr_0_108 : ta (w_ar ws (n_v vs 0) 108) = some 225 := tv_rg (th_fd hD hth r0 (g := GG_150) rfl (k := 108) (t := (2, 0, 0, [225])) rfl rfl)
  have cr_0_109 : ta (w_ar ws (n_v vs 0) 109) = some 226 := tv_rg (th_fd hD hth r0 (g := GG_150) rfl (k := 109) (t := (2, 0, 0, [226])) rfl rfl)
  have ad_6 : v_ad (n_v vs 6) = w_ar ws (n_v vs 0) 106 := congrArg v_ad f7
  have ad_4 : v_ad (n_v vs 4) = w_ar ws (n_v vs 0) 105 := congrArg v_ad f14
  rw [ad_6] at f4
  have h4 : v_iv (n_v vs 16) = w_ei ws (w_ar ws (n_v vs 0) 106) (v_iv (n_v vs 15)) := f4
  rw [ad_6] at f8
  have h8 : v_iv (n_v vs 12) = w_ei ws (w_ar ws (n_v vs 0) 106) (v_iv (n_v vs 11)) := f8
  rw [ad_4] at f13
  have h13 : v_iv (n_v vs 5) = w_ei ws (w_ar ws (n_v vs 0) 105) (v_iv (n_v vs 2)) := f13
  have hK_0_83 : ∀ j : Int, 0 ≤ j → j < 200 → 0 ≤ w_ei ws (w_ar ws (n_v vs 0) 83) j ∧ w_ei ws (w_ar ws (n_v vs 0) 83) j ≤ 75 := fun j h0 h1 => th_el hD hth cr_0_83 (kd := 0) (n := 200) (m := 200) (lo := 0) (hi := 75) (rs := []) (L := []) rfl (by decide) (j := j.toNat) (by omega)
  have hK_0_84 : ∀ j : Int, 0 ≤ j → j < 200 → 0 ≤ w_ei ws (w_ar ws (n_v vs 0) 84) j ∧ w_ei ws (w_ar ws (n_v vs 0) 84) j ≤ 75 := fun j h0 h1 => th_el hD hth cr_0_84 (kd := 0) (n := 200) (m := 200) (lo := 0) (hi := 75) (rs := []) (L := []) rfl (by decide) (j := j.toNat) (by omega)
  have hK_0_85 : ∀ j : Int, 0 ≤ j → j < 200 → 0 ≤ w_ei ws (w_ar ws (n_v vs 0) 85) j ∧ w_ei ws (w_ar ws (n_v vs 0) 85) j ≤ 72 := fun j h0 h1 => th_el hD hth cr_0_85 (kd := 0) (n := 200) (m := 200) (lo := 0) (hi := 72) (rs := []) (L := []) rfl (by decide) (j := j.toNat) (by omega)
  have hK_0_86 : ∀ j : Int, 0 ≤ j → j < 200 → 0 ≤ w_ei ws (w_ar ws (n_v vs 0) 86) j ∧ w_ei ws (w_ar ws (n_v vs 0) 86) j ≤ 1 := fun j h0 h1 => th_el hD hth cr_0_86 (kd := 2) (n := 200) (m := 200) (lo := 0) (hi := 1) (rs := []) (L := []) rfl (by decide) (j := j.toNat) (by omega)
  have hK_0_87 : ∀ j : Int, 0 ≤ j → j < 200 → 0 ≤ w_ei ws (w_ar ws (n_v vs 0) 87) j ∧ w_ei ws (w_ar ws (n_v vs 0) 87) j ≤ 75 := fun j h0 h1 => th_el hD hth cr_0_87 (kd := 0) (n := 200) (m := 200) (lo := 0) (hi := 75) (rs := []) (L := []) rfl (by decide) (j := j.toNat) (by omega)
  have hK_0_88 : ∀ j : Int, 0 ≤ j → j < 200 → 0 ≤ w_ei ws (w_ar ws (n_v vs 0) 88) j ∧ w_ei ws (w_ar ws (n_v vs 0) 88) j ≤ 75 := fun j h0 h1 => th_el hD hth cr_0_88 (kd := 0) (n := 200) (m := 200) (lo := 0) (hi := 75) (rs := []) (L := []) rfl (by decide) (j := j.toNat) (by omega)
  have hK_0_89 : ∀ j : Int, 0 ≤ j → j < 200 → 0 ≤ w_ei ws (w_ar ws (n_v vs 0) 89) j ∧ w_ei ws (w_ar ws (n_v vs 0) 89) j ≤ 202 := fun j h0 h1 => th_el hD hth cr_0_89 (kd := 0) (n := 200) (m := 200) (lo := 0) (hi := 202) (rs := []) (L := []) rfl (by decide) (j := j.toNat) (by omega)
  have hK_0_95 : ∀ j : Int, 0 ≤ j → j < 48 → 0 ≤ w_ei ws (w_ar ws (n_v vs 0) 95) j ∧ w_ei ws (w_ar ws (n_v vs 0) 95) j ≤ 1 := fun j h0 h1 => th_el hD hth cr_0_95 (kd := 2) (n := 48) (m := 48) (lo := 0) (hi := 1) (rs := []) (L := []) rfl (by decide) (j := j.toNat) (by omega)
  have hK_0_102 : ∀ j : Int, 0 ≤ j → j < 76 → 0 ≤ w_ei ws (w_ar ws (n_v vs 0) 102) j ∧ w_ei ws (w_ar ws (n_v vs 0) 102) j ≤ 75 := fun j h0 h1 => th_el hD hth cr_0_102 (kd := 0) (n := 76) (m := 76) (lo := 0) (hi := 75) (rs := []) (L := []) rfl (by decide) (j := j.toNat) (by omega)
  have hK_0_104 : ∀ j : Int, 0 ≤ j → j < 48 → 0 ≤ w_ei ws (w_ar ws (n_v vs 0) 104) j ∧ w_ei ws (w_ar ws (n_v vs 0) 104) j ≤ 76 := fun j h0 h1 => th_el hD hth cr_0_104 (kd := 0) (n := 48) (m := 48) (lo := 0) (hi := 76) (rs := []) (L := []) rfl (by decide) (j := j.toNat) (by omega)
  have hK_0_105 : ∀ j : Int, 0 ≤ j → j < 76 → 0 ≤ w_ei ws (w_ar ws (n_v vs 0) 105) j ∧ w_ei ws (w_ar ws (n_v vs 0) 105) j ≤ 76 := fun j h0 h1 => th_el hD hth cr_0_105 (kd := 0) (n := 76) (m := 76) (lo := 0) (hi := 76) (rs := []) (L := []) rfl (by decide) (j := j.toNat) (by omega)
  have hK_0_106 : ∀ j : Int, 0 ≤ j → j < 5776 → 0 ≤ w_ei ws (w_ar ws (n_v vs 0) 106) j ∧ w_ei ws (w_ar ws (n_v vs 0) 106) j ≤ 75 := fun j h0 h1 => th_el hD hth cr_0_106 (kd := 0) (n := 5776) (m := 5776) (lo := 0) (hi := 75) (rs := []) (L := []) rfl (by decide) (j := j.toNat) (by omega)
  have hK_0_108 : ∀ j : Int, 0 ≤ j → j < 130 → 0 ≤ w_ei ws (w_ar ws (n_v vs 0) 108) j ∧ w_ei ws (w_ar ws (n_v vs 0) 108) j ≤ 75 := fun j h0 h1 => th_el hD hth cr_0_108 (kd := 0) (n := 130) (m := 130) (lo := 0) (hi := 75) (rs := []) (L := []) rfl (by decide) (j := j.toNat) (by omega)
  have hK_0_109 : ∀ j : Int, 0 ≤ j → j < 130 → 0 ≤ w_ei ws (w_ar ws (n_v vs 0) 109) j ∧ w_ei ws (w_ar ws (n_v vs 0) 109) j ≤ 75 := fun j h0 h1 => th_el hD hth cr_0_109 (kd := 0) (n := 130) (m := 130) (lo := 0) (hi := 75) (rs := []) (L := []) rfl (by decide) (j := j.toNat) (by omega)
  have kz_0_79 : 0 ≤ w_fi ws (n_v vs 0) 79 ∧ w_fi ws (n_v vs 0) 79 ≤ 76 := tv_rng (th_fd hD hth r0 (g := GG_150) rfl (k := 79) (t := (0, 0, 76, [])) rfl rfl)
  have kz_0_80 : 0 ≤ w_fi ws (n_v vs 0) 80 ∧ w_fi ws (n_v vs 0) 80 ≤ 200 := tv_rng (th_fd hD hth r0 (g := GG_150) rfl (k := 80) (t := (0, 0, 200, [])) rfl rfl)
  have kz_0_81 : 0 ≤ w_fi ws (n_v vs 0) 81 ∧ w_fi ws (n_v vs 0) 81 ≤ 200 := tv_rng (th_fd hD hth r0 (g := GG_150) rfl (k := 81) (t := (0, 0, 200, [])) rfl rfl)
  have kz_0_100 : 0 ≤ w_fi ws (n_v vs 0) 100 ∧ w_fi ws (n_v vs 0) 100 ≤ 76 := tv_rng (th_fd hD hth r0 (g := GG_150) rfl (k := 100) (t := (0, 0, 76, [])) rfl rfl)
  have kz_0_101 : 0 ≤ w_fi ws (n_v vs 0) 101 ∧ w_fi ws (n_v vs 0) 101 ≤ 76 := tv_rng (th_fd hD hth r0 (g := GG_150) rfl (k := 101) (t := (0, 0, 76, [])) rfl rfl)
  have kz_0_107 : 0 ≤ w_fi ws (n_v vs 0) 107 ∧ w_fi ws (n_v vs 0) 107 ≤ 130 := tv_rng (th_fd hD hth r0 (g := GG_150) rfl (k := 107) (t := (0, 0, 130, [])) rfl rfl)
  have kv0 : 0 ≤ w_fi ws (n_v vs 0) 81 ∧ w_fi ws (n_v vs 0) 81 ≤ 200 := tv_rng (th_fd hD hth r0 (g := GG_150) rfl (k := 81) (t := (0, 0, 200, [])) rfl rfl)
  obtain ⟨x, ex, hx⟩ := iv_ex (ta := ta) (lo := 0) (hi := 199) (z := w_fi ws (n_v vs 0) 81) (by omega) (by omega) (by omega) (by omega)
  have ex2 : v_iv (Value.int x) = w_fi ws (n_v vs 0) 81 := ex
  have ex3 : 0 ≤ v_iv (Value.int x) ∧ v_iv (Value.int x) ≤ 199 := tv_rng hx
  obtain ⟨y, ey, hy⟩ := iv_ex (ta := ta) (lo := 0) (hi := 75) (z := v_iv (n_v vs 2)) (by omega) (by omega) (by omega) (by omega)
  have ey2 : v_iv (Value.int y) = v_iv (n_v vs 2) := ey
  have ey3 : 0 ≤ v_iv (Value.int y) ∧ v_iv (Value.int y) ≤ 75 := tv_rng hy
  obtain ⟨u, eu, hu⟩ := iv_ex (ta := ta) (lo := 1) (hi := 75) (z := v_iv (n_v vs 3)) (by omega) (by omega) (by omega) (by omega)
  have eu2 : v_iv (Value.int u) = v_iv (n_v vs 3) := eu
  have eu3 : 1 ≤ v_iv (Value.int u) ∧ v_iv (Value.int u) ≤ 75 := tv_rng hu
  have e_1 : n_v (vs ++ [Value.int x, Value.int y, Value.int u]) 1 = n_v vs 1 := n_v_old (by rw [hl]; decide)
  have e_2 : n_v (vs ++ [Value.int x, Value.int y, Value.int u]) 2 = n_v vs 2 := n_v_old (by rw [hl]; decide)
  have e_3 : n_v (vs ++ [Value.int x, Value.int y, Value.int u]) 3 = n_v vs 3 := n_v_old (by rw [hl]; decide)
  have e_12 : n_v (vs ++ [Value.int x, Value.int y, Value.int u]) 12 = n_v vs 12 := n_v_old (by rw [hl]; decide)
  have e_16 : n_v (vs ++ [Value.int x, Value.int y, Value.int u]) 16 = n_v vs 16 := n_v_old (by rw [hl]; decide)
  have e_21 : n_v (vs ++ [Value.int x, Value.int y, Value.int u]) 21 = n_v vs 21 := n_v_old (by rw [hl]; decide)
  have e_22 : n_v (vs ++ [Value.int x, Value.int y, Value.int u]) 22 = Value.int x := n_v_newk (k := 0) hl rfl
  have e_23 : n_v (vs ++ [Value.int x, Value.int y, Value.int u]) 23 = Value.int y := n_v_newk (k := 1) hl rfl
  have e_24 : n_v (vs ++ [Value.int x, Value.int y, Value.int u]) 24 = Value.int u := n_v_newk (k := 2) hl rfl
  have nf0 : fc_1 PRD (23, [23, 2], [0, 1, -1]) ws (vs ++ [Value.int x, Value.int y, Value.int u]) := by
    refine ⟨fun n hn => ?_, ?_⟩
    · have hn : n ∈ [23, 2] := hn
      rw [List.length_append, hl]
      simp only [List.mem_cons, List.not_mem_nil, or_false] at hn
      show n < 22 + 3; omega
    · show 1 * v_iv (n_v (vs ++ [Value.int x, Value.int y, Value.int u]) 23) + ((-1) * v_iv (n_v (vs ++ [Value.int x, Value.int y, Value.int u]) 2) + 0) ≤ 0
      rw [e_2]
      rw [e_23]
      exact vc_Mo_across2_17_0 (v_iv (n_v vs 2)) (v_iv (n_v vs 3)) (v_iv (n_v vs 5)) (v_iv (n_v vs 7)) (v_iv (n_v vs 8)) (v_iv (n_v vs 9)) (v_iv (n_v vs 10)) (v_iv (n_v vs 11)) (v_iv (n_v vs 12)) (v_iv (n_v vs 13)) (v_iv (n_v vs 14)) (v_iv (n_v vs 15)) (v_iv (n_v vs 16)) (v_iv (n_v vs 17)) (v_iv (n_v vs 18)) (v_iv (n_v vs 19)) (v_iv (n_v vs 20)) (v_iv (n_v vs 21)) (w_ei ws (w_ar ws (n_v vs 0) 106)) (w_ei ws (w_ar ws (n_v vs 0) 105)) (w_ei ws (w_ar ws (n_v vs 0) 2)) (w_ei ws (w_ar ws (n_v vs 0) 95)) (w_ei ws (w_ar ws (n_v vs 0) 102)) (w_ei ws (w_ar ws (n_v vs 0) 104)) (w_ei ws (w_ar ws (n_v vs 0) 108)) (w_ei ws (w_ar ws (n_v vs 0) 109)) (w_fi ws (n_v vs 0) 5) (w_fi ws (n_v vs 0) 100) (w_fi ws (n_v vs 0) 101) (w_fi ws (n_v vs 0) 107) (w_fi ws (n_v vs 0) 79) (w_ei ws (w_ar ws (n_v vs 0) 83)) (w_ei ws (w_ar ws (n_v vs 0) 84)) (w_ei ws (w_ar ws (n_v vs 0) 85)) (w_ei ws (w_ar ws (n_v vs 0) 86)) (w_fi ws (n_v vs 0) 80) (w_ei ws (w_ar ws (n_v vs 0) 87)) (w_ei ws (w_ar ws (n_v vs 0) 88)) (w_ei ws (w_ar ws (n_v vs 0) 89)) (w_fi ws (n_v vs 0) 81) (v_iv (Value.int x)) (v_iv (Value.int y)) (v_iv (Value.int u)) k2 k3 k5 k7 k8 k9 k10 k11 k12 k13 k14 k15 k16 k17 k18 k19 k20 k21 d0 d1 d2 d3 d4 d5 d6 d7 d8 d9 d10 d11 d12 d13 f0 f1 f2 f3 h4 f5 f6 h8 f9 f10 f11 f12 h13 f15 f16 f17 f18 f19 f20 f21 f22 f23 f24 hK_0_83 hK_0_84 hK_0_85 hK_0_86 hK_0_87 hK_0_88 hK_0_89 hK_0_95 hK_0_102 hK_0_104 hK_0_105 hK_0_106 hK_0_108 hK_0_109 kz_0_79 kz_0_80 kz_0_81 kz_0_100 kz_0_101 kz_0_107 ex2 ex3 ey2 ey3 eu2 eu3
  have nf1 : fc_1 PRD (23, [23, 2], [0, -1, 1]) ws (vs ++ [Value.int x, Value.int y, Value.int u]) := by
    refine ⟨fun n hn => ?_, ?_⟩
    · have hn : n ∈ [23, 2] := hn
      rw [List.length_append, hl]
      simp only [List.mem_cons, List.not_mem_nil, or_false] at hn
      show n < 22 + 3; omega
    · show (-1) * v_iv (n_v (vs ++ [Value.int x, Value.int y, Value.int u]) 23) + (1 * v_iv (n_v (vs ++ [Value.int x, Value.int y, Value.int u]) 2) + 0) ≤ 0
      rw [e_2]
      rw [e_23]
      exact vc_Mo_across2_17_1 (v_iv (n_v vs 2)) (v_iv (n_v vs 3)) (v_iv (n_v vs 5)) (v_iv (n_v vs 7)) (v_iv (n_v vs 8)) (v_iv (n_v vs 9)) (v_iv (n_v vs 10)) (v_iv (n_v vs 11)) (v_iv (n_v vs 12)) (v_iv (n_v vs 13)) (v_iv (n_v vs 14)) (v_iv (n_v vs 15)) (v_iv (n_v vs 16)) (v_iv (n_v vs 17)) (v_iv (n_v vs 18)) (v_iv (n_v vs 19)) (v_iv (n_v vs 20)) (v_iv (n_v vs 21)) (w_ei ws (w_ar ws (n_v vs 0) 106)) (w_ei ws (w_ar ws (n_v vs 0) 105)) (w_ei ws (w_ar ws (n_v vs 0) 2)) (w_ei ws (w_ar ws (n_v vs 0) 95)) (w_ei ws (w_ar ws (n_v vs 0) 102)) (w_ei ws (w_ar ws (n_v vs 0) 104)) (w_ei ws (w_ar ws (n_v vs 0) 108)) (w_ei ws (w_ar ws (n_v vs 0) 109)) (w_fi ws (n_v vs 0) 5) (w_fi ws (n_v vs 0) 100) (w_fi ws (n_v vs 0) 101) (w_fi ws (n_v vs 0) 107) (w_fi ws (n_v vs 0) 79) (w_ei ws (w_ar ws (n_v vs 0) 83)) (w_ei ws (w_ar ws (n_v vs 0) 84)) (w_ei ws (w_ar ws (n_v vs 0) 85)) (w_ei ws (w_ar ws (n_v vs 0) 86)) (w_fi ws (n_v vs 0) 80) (w_ei ws (w_ar ws (n_v vs 0) 87)) (w_ei ws (w_ar ws (n_v vs 0) 88)) (w_ei ws (w_ar ws (n_v vs 0) 89)) (w_fi ws (n_v vs 0) 81) (v_iv (Value.int x)) (v_iv (Value.int y)) (v_iv (Value.int u)) k2 k3 k5 k7 k8 k9 k10 k11 k12 k13 k14 k15 k16 k17 k18 k19 k20 k21 d0 d1 d2 d3 d4 d5 d6 d7 d8 d9 d10 d11 d12 d13 f0 f1 f2 f3 h4 f5 f6 h8 f9 f10 f11 f12 h13 f15 f16 f17 f18 f19 f20 f21 f22 f23 f24 hK_0_83 hK_0_84 hK_0_85 hK_0_86 hK_0_87 hK_0_88 hK_0_89 hK_0_95 hK_0_102 hK_0_104 hK_0_105 hK_0_106 hK_0_108 hK_0_109 kz_0_79 kz_0_80 kz_0_81 kz_0_100 kz_0_101 kz_0_107 ex2 ex3 ey2 ey3 eu2 eu3
  have nf2 : fc_1 PRD (23, [24, 3], [0, 1, -1]) ws (vs ++ [Value.int x, Value.int y, Value.int u]) := by
    refine ⟨fun n hn => ?_, ?_⟩
    · have hn : n ∈ [24, 3] := hn
      rw [List.length_append, hl]
      simp only [List.mem_cons, List.not_mem_nil, or_false] at hn
      show n < 22 + 3; omega
    · show 1 * v_iv (n_v (vs ++ [Value.int x, Value.int y, Value.int u]) 24) + ((-1) * v_iv (n_v (vs ++ [Value.int x, Value.int y, Value.int u]) 3) + 0) ≤ 0
      rw [e_3]
      rw [e_24]
      exact vc_Mo_across2_17_2 (v_iv (n_v vs 2)) (v_iv (n_v vs 3)) (v_iv (n_v vs 5)) (v_iv (n_v vs 7)) (v_iv (n_v vs 8)) (v_iv (n_v vs 9)) (v_iv (n_v vs 10)) (v_iv (n_v vs 11)) (v_iv (n_v vs 12)) (v_iv (n_v vs 13)) (v_iv (n_v vs 14)) (v_iv (n_v vs 15)) (v_iv (n_v vs 16)) (v_iv (n_v vs 17)) (v_iv (n_v vs 18)) (v_iv (n_v vs 19)) (v_iv (n_v vs 20)) (v_iv (n_v vs 21)) (w_ei ws (w_ar ws (n_v vs 0) 106)) (w_ei ws (w_ar ws (n_v vs 0) 105)) (w_ei ws (w_ar ws (n_v vs 0) 2)) (w_ei ws (w_ar ws (n_v vs 0) 95)) (w_ei ws (w_ar ws (n_v vs 0) 102)) (w_ei ws (w_ar ws (n_v vs 0) 104)) (w_ei ws (w_ar ws (n_v vs 0) 108)) (w_ei ws (w_ar ws (n_v vs 0) 109)) (w_fi ws (n_v vs 0) 5) (w_fi ws (n_v vs 0) 100) (w_fi ws (n_v vs 0) 101) (w_fi ws (n_v vs 0) 107) (w_fi ws (n_v vs 0) 79) (w_ei ws (w_ar ws (n_v vs 0) 83)) (w_ei ws (w_ar ws (n_v vs 0) 84)) (w_ei ws (w_ar ws (n_v vs 0) 85)) (w_ei ws (w_ar ws (n_v vs 0) 86)) (w_fi ws (n_v vs 0) 80) (w_ei ws (w_ar ws (n_v vs 0) 87)) (w_ei ws (w_ar ws (n_v vs 0) 88)) (w_ei ws (w_ar ws (n_v vs 0) 89)) (w_fi ws (n_v vs 0) 81) (v_iv (Value.int x)) (v_iv (Value.int y)) (v_iv (Value.int u)) k2 k3 k5 k7 k8 k9 k10 k11 k12 k13 k14 k15 k16 k17 k18 k19 k20 k21 d0 d1 d2 d3 d4 d5 d6 d7 d8 d9 d10 d11 d12 d13 f0 f1 f2 f3 h4 f5 f6 h8 f9 f10 f11 f12 h13 f15 f16 f17 f18 f19 f20 f21 f22 f23 f24 hK_0_83 hK_0_84 hK_0_85 hK_0_86 hK_0_87 hK_0_88 hK_0_89 hK_0_95 hK_0_102 hK_0_104 hK_0_105 hK_0_106 hK_0_108 hK_0_109 kz_0_79 kz_0_80 kz_0_81 kz_0_100 kz_0_101 kz_0_107 ex2 ex3 ey2 ey3 eu2 eu3
  have nf3 : fc_1 PRD (23, [24, 3], [0, -1, 1]) ws (vs ++ [Value.int x, Value.int y, Value.int u]) := by
    refine ⟨fun n hn => ?_, ?_⟩
    · have hn : n ∈ [24, 3] := hn
      rw [List.length_append, hl]
      simp only [List.mem_cons, List.not_mem_nil, or_false] at hn
      show n < 22 + 3; omega
    · show (-1) * v_iv (n_v (vs ++ [Value.int x, Value.int y, Value.int u]) 24) + (1 * v_iv (n_v (vs ++ [Value.int x, Value.int y, Value.int u]) 3) + 0) ≤ 0
      rw [e_3]
      rw [e_24]
      exact vc_Mo_across2_17_3 (v_iv (n_v vs 2)) (v_iv (n_v vs 3)) (v_iv (n_v vs 5)) (v_iv (n_v vs 7)) (v_iv (n_v vs 8)) (v_iv (n_v vs 9)) (v_iv (n_v vs 10)) (v_iv (n_v vs 11)) (v_iv (n_v vs 12)) (v_iv (n_v vs 13)) (v_iv (n_v vs 14)) (v_iv (n_v vs 15)) (v_iv (n_v vs 16)) (v_iv (n_v vs 17)) (v_iv (n_v vs 18)) (v_iv (n_v vs 19)) (v_iv (n_v vs 20)) (v_iv (n_v vs 21)) (w_ei ws (w_ar ws (n_v vs 0) 106)) (w_ei ws (w_ar ws (n_v vs 0) 105)) (w_ei ws (w_ar ws (n_v vs 0) 2)) (w_ei ws (w_ar ws (n_v vs 0) 95)) (w_ei ws (w_ar ws (n_v vs 0) 102)) (w_ei ws (w_ar ws (n_v vs 0) 104)) (w_ei ws (w_ar ws (n_v vs 0) 108)) (w_ei ws (w_ar ws (n_v vs 0) 109)) (w_fi ws (n_v vs 0) 5) (w_fi ws (n_v vs 0) 100) (w_fi ws (n_v vs 0) 101) (w_fi ws (n_v vs 0) 107) (w_fi ws (n_v vs 0) 79) (w_ei ws (w_ar ws (n_v vs 0) 83)) (w_ei ws (w_ar ws (n_v vs 0) 84)) (w_ei ws (w_ar ws (n_v vs 0) 85)) (w_ei ws (w_ar ws (n_v vs 0) 86)) (w_fi ws (n_v vs 0) 80) (w_ei ws (w_ar ws (n_v vs 0) 87)) (w_ei ws (w_ar ws (n_v vs 0) 88)) (w_ei ws (w_ar ws (n_v vs 0) 89)) (w_fi ws (n_v vs 0) 81) (v_iv (Value.int x)) (v_iv (Value.int y)) (v_iv (Value.int u)) k2 k3 k5 k7 k8 k9 k10 k11 k12 k13 k14 k15 k16 k17 k18 k19 k20 k21 d0 d1 d2 d3 d4 d5 d6 d7 d8 d9 d10 d11 d12 d13 f0 f1 f2 f3 h4 f5 f6 h8 f9 f10 f11 f12 h13 f15 f16 f17 f18 f19 f20 f21 f22 f23 f24 hK_0_83 hK_0_84 hK_0_85 hK_0_86 hK_0_87 hK_0_88 hK_0_89 hK_0_95 hK_0_102 hK_0_104 hK_0_105 hK_0_106 hK_0_108 hK_0_109 kz_0_79 kz_0_80 kz_0_81 kz_0_100 kz_0_101 kz_0_107 ex2 ex3 ey2 ey3 eu2 eu3
  have nf4 : fc_1 PRD (20, [1, 22], [50, 1, 0, 81, 1, 3, 2, 0, 81, 1, 1]) ws (vs ++ [Value.int x, Value.int y, Value.int u]) := by
    refine ⟨fun n hn => ?_, ?_⟩
    · have hn : n ∈ [1, 22] := hn
      rw [List.length_append, hl]
      simp only [List.mem_cons, List.not_mem_nil, or_false] at hn
      show n < 22 + 3; omega
    · show w_fi ws (n_v (vs ++ [Value.int x, Value.int y, Value.int u]) 1) 81 = v_iv (n_v (vs ++ [Value.int x, Value.int y, Value.int u]) 22)
      rw [e_1]
      rw [e_22]
      rw [q1]
      exact vc_Mo_across2_17_4 (v_iv (n_v vs 2)) (v_iv (n_v vs 3)) (v_iv (n_v vs 5)) (v_iv (n_v vs 7)) (v_iv (n_v vs 8)) (v_iv (n_v vs 9)) (v_iv (n_v vs 10)) (v_iv (n_v vs 11)) (v_iv (n_v vs 12)) (v_iv (n_v vs 13)) (v_iv (n_v vs 14)) (v_iv (n_v vs 15)) (v_iv (n_v vs 16)) (v_iv (n_v vs 17)) (v_iv (n_v vs 18)) (v_iv (n_v vs 19)) (v_iv (n_v vs 20)) (v_iv (n_v vs 21)) (w_ei ws (w_ar ws (n_v vs 0) 106)) (w_ei ws (w_ar ws (n_v vs 0) 105)) (w_ei ws (w_ar ws (n_v vs 0) 2)) (w_ei ws (w_ar ws (n_v vs 0) 95)) (w_ei ws (w_ar ws (n_v vs 0) 102)) (w_ei ws (w_ar ws (n_v vs 0) 104)) (w_ei ws (w_ar ws (n_v vs 0) 108)) (w_ei ws (w_ar ws (n_v vs 0) 109)) (w_fi ws (n_v vs 0) 5) (w_fi ws (n_v vs 0) 100) (w_fi ws (n_v vs 0) 101) (w_fi ws (n_v vs 0) 107) (w_fi ws (n_v vs 0) 79) (w_ei ws (w_ar ws (n_v vs 0) 83)) (w_ei ws (w_ar ws (n_v vs 0) 84)) (w_ei ws (w_ar ws (n_v vs 0) 85)) (w_ei ws (w_ar ws (n_v vs 0) 86)) (w_fi ws (n_v vs 0) 80) (w_ei ws (w_ar ws (n_v vs 0) 87)) (w_ei ws (w_ar ws (n_v vs 0) 88)) (w_ei ws (w_ar ws (n_v vs 0) 89)) (w_fi ws (n_v vs 0) 81) (v_iv (Value.int x)) (v_iv (Value.int y)) (v_iv (Value.int u)) k2 k3 k5 k7 k8 k9 k10 k11 k12 k13 k14 k15 k16 k17 k18 k19 k20 k21 d0 d1 d2 d3 d4 d5 d6 d7 d8 d9 d10 d11 d12 d13 f0 f1 f2 f3 h4 f5 f6 h8 f9 f10 f11 f12 h13 f15 f16 f17 f18 f19 f20 f21 f22 f23 f24 hK_0_83 hK_0_84 hK_0_85 hK_0_86 hK_0_87 hK_0_88 hK_0_89 hK_0_95 hK_0_102 hK_0_104 hK_0_105 hK_0_106 hK_0_108 hK_0_109 kz_0_79 kz_0_80 kz_0_81 kz_0_100 kz_0_101 kz_0_107 ex2 ex3 ey2 ey3 eu2 eu3
  have nf5 : fc_1 PRD (20, [1, 23, 24], [60, 2, 5, 393, 81, 101, 105, 106, 87, 88, 89]) ws (vs ++ [Value.int x, Value.int y, Value.int u]) := by
    refine ⟨fun n hn => ?_, ?_⟩
    · have hn : n ∈ [1, 23, 24] := hn
      rw [List.length_append, hl]
      simp only [List.mem_cons, List.not_mem_nil, or_false] at hn
      show n < 22 + 3; omega
    · show PAL2 (w_fi ws (n_v (vs ++ [Value.int x, Value.int y, Value.int u]) 1) 81) (w_fi ws (n_v (vs ++ [Value.int x, Value.int y, Value.int u]) 1) 101) (w_ei ws (w_ar ws (n_v (vs ++ [Value.int x, Value.int y, Value.int u]) 1) 105)) (w_ei ws (w_ar ws (n_v (vs ++ [Value.int x, Value.int y, Value.int u]) 1) 106)) (w_ei ws (w_ar ws (n_v (vs ++ [Value.int x, Value.int y, Value.int u]) 1) 87)) (w_ei ws (w_ar ws (n_v (vs ++ [Value.int x, Value.int y, Value.int u]) 1) 88)) (w_ei ws (w_ar ws (n_v (vs ++ [Value.int x, Value.int y, Value.int u]) 1) 89)) (v_iv (n_v (vs ++ [Value.int x, Value.int y, Value.int u]) 23)) (v_iv (n_v (vs ++ [Value.int x, Value.int y, Value.int u]) 24))
      rw [e_1]
      rw [e_23]
      rw [e_24]
      rw [q1]
      exact vc_Mo_across2_17_5 (v_iv (n_v vs 2)) (v_iv (n_v vs 3)) (v_iv (n_v vs 5)) (v_iv (n_v vs 7)) (v_iv (n_v vs 8)) (v_iv (n_v vs 9)) (v_iv (n_v vs 10)) (v_iv (n_v vs 11)) (v_iv (n_v vs 12)) (v_iv (n_v vs 13)) (v_iv (n_v vs 14)) (v_iv (n_v vs 15)) (v_iv (n_v vs 16)) (v_iv (n_v vs 17)) (v_iv (n_v vs 18)) (v_iv (n_v vs 19)) (v_iv (n_v vs 20)) (v_iv (n_v vs 21)) (w_ei ws (w_ar ws (n_v vs 0) 106)) (w_ei ws (w_ar ws (n_v vs 0) 105)) (w_ei ws (w_ar ws (n_v vs 0) 2)) (w_ei ws (w_ar ws (n_v vs 0) 95)) (w_ei ws (w_ar ws (n_v vs 0) 102)) (w_ei ws (w_ar ws (n_v vs 0) 104)) (w_ei ws (w_ar ws (n_v vs 0) 108)) (w_ei ws (w_ar ws (n_v vs 0) 109)) (w_fi ws (n_v vs 0) 5) (w_fi ws (n_v vs 0) 100) (w_fi ws (n_v vs 0) 101) (w_fi ws (n_v vs 0) 107) (w_fi ws (n_v vs 0) 79) (w_ei ws (w_ar ws (n_v vs 0) 83)) (w_ei ws (w_ar ws (n_v vs 0) 84)) (w_ei ws (w_ar ws (n_v vs 0) 85)) (w_ei ws (w_ar ws (n_v vs 0) 86)) (w_fi ws (n_v vs 0) 80) (w_ei ws (w_ar ws (n_v vs 0) 87)) (w_ei ws (w_ar ws (n_v vs 0) 88)) (w_ei ws (w_ar ws (n_v vs 0) 89)) (w_fi ws (n_v vs 0) 81) (v_iv (Value.int x)) (v_iv (Value.int y)) (v_iv (Value.int u)) k2 k3 k5 k7 k8 k9 k10 k11 k12 k13 k14 k15 k16 k17 k18 k19 k20 k21 d0 d1 d2 d3 d4 d5 d6 d7 d8 d9 d10 d11 d12 d13 f0 f1 f2 f3 h4 f5 f6 h8 f9 f10 f11 f12 h13 f15 f16 f17 f18 f19 f20 f21 f22 f23 f24 hK_0_83 hK_0_84 hK_0_85 hK_0_86 hK_0_87 hK_0_88 hK_0_89 hK_0_95 hK_0_102 hK_0_104 hK_0_105 hK_0_106 hK_0_108 hK_0_109 kz_0_79 kz_0_80 kz_0_81 kz_0_100 kz_0_101 kz_0_107 ex2 ex3 ey2 ey3 eu2 eu3
  have nf6 : fc_1 PRD (20, [1, 23, 24, 12, 16], [60, 1, 2, 390, 101, 105, 106]) ws (vs ++ [Value.int x, Value.int y, Value.int u]) := by
    refine ⟨fun n hn => ?_, ?_⟩
    · have hn : n ∈ [1, 23, 24, 12, 16] := hn
      rw [List.length_append, hl]
      simp only [List.mem_cons, List.not_mem_nil, or_false] at hn
      show n < 22 + 3; omega
    · show PAN (w_fi ws (n_v (vs ++ [Value.int x, Value.int y, Value.int u]) 1) 101) (w_ei ws (w_ar ws (n_v (vs ++ [Value.int x, Value.int y, Value.int u]) 1) 105)) (w_ei ws (w_ar ws (n_v (vs ++ [Value.int x, Value.int y, Value.int u]) 1) 106)) (v_iv (n_v (vs ++ [Value.int x, Value.int y, Value.int u]) 23)) (v_iv (n_v (vs ++ [Value.int x, Value.int y, Value.int u]) 24)) (v_iv (n_v (vs ++ [Value.int x, Value.int y, Value.int u]) 12)) (v_iv (n_v (vs ++ [Value.int x, Value.int y, Value.int u]) 16))
      rw [e_1]
      rw [e_12]
      rw [e_16]
      rw [e_23]
      rw [e_24]
      rw [q1]
      exact vc_Mo_across2_17_6 (v_iv (n_v vs 2)) (v_iv (n_v vs 3)) (v_iv (n_v vs 5)) (v_iv (n_v vs 7)) (v_iv (n_v vs 8)) (v_iv (n_v vs 9)) (v_iv (n_v vs 10)) (v_iv (n_v vs 11)) (v_iv (n_v vs 12)) (v_iv (n_v vs 13)) (v_iv (n_v vs 14)) (v_iv (n_v vs 15)) (v_iv (n_v vs 16)) (v_iv (n_v vs 17)) (v_iv (n_v vs 18)) (v_iv (n_v vs 19)) (v_iv (n_v vs 20)) (v_iv (n_v vs 21)) (w_ei ws (w_ar ws (n_v vs 0) 106)) (w_ei ws (w_ar ws (n_v vs 0) 105)) (w_ei ws (w_ar ws (n_v vs 0) 2)) (w_ei ws (w_ar ws (n_v vs 0) 95)) (w_ei ws (w_ar ws (n_v vs 0) 102)) (w_ei ws (w_ar ws (n_v vs 0) 104)) (w_ei ws (w_ar ws (n_v vs 0) 108)) (w_ei ws (w_ar ws (n_v vs 0) 109)) (w_fi ws (n_v vs 0) 5) (w_fi ws (n_v vs 0) 100) (w_fi ws (n_v vs 0) 101) (w_fi ws (n_v vs 0) 107) (w_fi ws (n_v vs 0) 79) (w_ei ws (w_ar ws (n_v vs 0) 83)) (w_ei ws (w_ar ws (n_v vs 0) 84)) (w_ei ws (w_ar ws (n_v vs 0) 85)) (w_ei ws (w_ar ws (n_v vs 0) 86)) (w_fi ws (n_v vs 0) 80) (w_ei ws (w_ar ws (n_v vs 0) 87)) (w_ei ws (w_ar ws (n_v vs 0) 88)) (w_ei ws (w_ar ws (n_v vs 0) 89)) (w_fi ws (n_v vs 0) 81) (v_iv (Value.int x)) (v_iv (Value.int y)) (v_iv (Value.int u)) k2 k3 k5 k7 k8 k9 k10 k11 k12 k13 k14 k15 k16 k17 k18 k19 k20 k21 d0 d1 d2 d3 d4 d5 d6 d7 d8 d9 d10 d11 d12 d13 f0 f1 f2 f3 h4 f5 f6 h8 f9 f10 f11 f12 h13 f15 f16 f17 f18 f19 f20 f21 f22 f23 f24 hK_0_83 hK_0_84 hK_0_85 hK_0_86 hK_0_87 hK_0_88 hK_0_89 hK_0_95 hK_0_102 hK_0_104 hK_0_105 hK_0_106 hK_0_108 hK_0_109 kz_0_79 kz_0_80 kz_0_81 kz_0_100 kz_0_101 kz_0_107 ex2 ex3 ey2 ey3 eu2 eu3
  have nf7 : fc_1 PRD (20, [21], [50, 0, 0, 2, 6, 0, 2, 0, 2, 1, 0, 0, 2, 1, 0, 0, 202]) ws (vs ++ [Value.int x, Value.int y, Value.int u]) := by
    refine ⟨fun n hn => ?_, ?_⟩
    · have hn : n ∈ [21] := hn
      rw [List.length_append, hl]
      simp only [List.mem_cons, List.not_mem_nil, or_false] at hn
      show n < 22 + 3; omega
    · show (2 ≤ v_iv (n_v (vs ++ [Value.int x, Value.int y, Value.int u]) 21)) ∧ (v_iv (n_v (vs ++ [Value.int x, Value.int y, Value.int u]) 21) ≤ 202)
      rw [e_21]
      exact vc_Mo_across2_17_7 (v_iv (n_v vs 2)) (v_iv (n_v vs 3)) (v_iv (n_v vs 5)) (v_iv (n_v vs 7)) (v_iv (n_v vs 8)) (v_iv (n_v vs 9)) (v_iv (n_v vs 10)) (v_iv (n_v vs 11)) (v_iv (n_v vs 12)) (v_iv (n_v vs 13)) (v_iv (n_v vs 14)) (v_iv (n_v vs 15)) (v_iv (n_v vs 16)) (v_iv (n_v vs 17)) (v_iv (n_v vs 18)) (v_iv (n_v vs 19)) (v_iv (n_v vs 20)) (v_iv (n_v vs 21)) (w_ei ws (w_ar ws (n_v vs 0) 106)) (w_ei ws (w_ar ws (n_v vs 0) 105)) (w_ei ws (w_ar ws (n_v vs 0) 2)) (w_ei ws (w_ar ws (n_v vs 0) 95)) (w_ei ws (w_ar ws (n_v vs 0) 102)) (w_ei ws (w_ar ws (n_v vs 0) 104)) (w_ei ws (w_ar ws (n_v vs 0) 108)) (w_ei ws (w_ar ws (n_v vs 0) 109)) (w_fi ws (n_v vs 0) 5) (w_fi ws (n_v vs 0) 100) (w_fi ws (n_v vs 0) 101) (w_fi ws (n_v vs 0) 107) (w_fi ws (n_v vs 0) 79) (w_ei ws (w_ar ws (n_v vs 0) 83)) (w_ei ws (w_ar ws (n_v vs 0) 84)) (w_ei ws (w_ar ws (n_v vs 0) 85)) (w_ei ws (w_ar ws (n_v vs 0) 86)) (w_fi ws (n_v vs 0) 80) (w_ei ws (w_ar ws (n_v vs 0) 87)) (w_ei ws (w_ar ws (n_v vs 0) 88)) (w_ei ws (w_ar ws (n_v vs 0) 89)) (w_fi ws (n_v vs 0) 81) (v_iv (Value.int x)) (v_iv (Value.int y)) (v_iv (Value.int u)) k2 k3 k5 k7 k8 k9 k10 k11 k12 k13 k14 k15 k16 k17 k18 k19 k20 k21 d0 d1 d2 d3 d4 d5 d6 d7 d8 d9 d10 d11 d12 d13 f0 f1 f2 f3 h4 f5 f6 h8 f9 f10 f11 f12 h13 f15 f16 f17 f18 f19 f20 f21 f22 f23 f24 hK_0_83 hK_0_84 hK_0_85 hK_0_86 hK_0_87 hK_0_88 hK_0_89 hK_0_95 hK_0_102 hK_0_104 hK_0_105 hK_0_106 hK_0_108 hK_0_109 kz_0_79 kz_0_80 kz_0_81 kz_0_100 kz_0_101 kz_0_107 ex2 ex3 ey2 ey3 eu2 eu3
  exact ⟨(fun _ h => (by cases h)), [Value.int x, Value.int y, Value.int u], ag_three hx hy hu, List.forall_mem_cons.mpr ⟨⟨show (23 : Nat) < 100 from by decide, nf0⟩, List.forall_mem_cons.mpr ⟨⟨show (23 : Nat) < 100 from by decide, nf1⟩, List.forall_mem_cons.mpr ⟨⟨show (23 : Nat) < 100 from by decide, nf2⟩, List.forall_mem_cons.mpr ⟨⟨show (23 : Nat) < 100 from by decide, nf3⟩, List.forall_mem_cons.mpr ⟨⟨show (20 : Nat) < 100 from by decide, nf4⟩, List.forall_mem_cons.mpr ⟨⟨show (20 : Nat) < 100 from by decide, nf5⟩, List.forall_mem_cons.mpr ⟨⟨show (20 : Nat) < 100 from by decide, nf6⟩, List.forall_mem_cons.mpr ⟨⟨show (20 : Nat) < 100 from by decide, nf7⟩, (fun _ h => (by cases h))⟩⟩⟩⟩⟩⟩⟩⟩, (fun _ h => (by cases h))⟩
